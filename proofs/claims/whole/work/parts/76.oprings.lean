/-! rings, ring, wind -/
theorem ringSize_s {M : Mem} {W H : Int} {op : Int → Bool} (hy : YR M W H op) {r : Int → Int} (hr : ∀ q, 0 ≤ q → q < 64 → gI M 75 q = r q) (hrr : ∀ q, -1 ≤ r q ∧ r q < 64) {i : Int} (i0 : 0 ≤ i) (i1 : i ≤ 2147483647) : m_X12_ringSize M i = some (cnR (W * H) r i) := by
  have h8 := WH_le hy.2.2.1
  unfold m_X12_ringSize
  rw [for_S (W * H) (fun q => bI (decide (r q = i))) ?_ ?_ (by omega) (by omega), bd2_q]
  · rfl
  · intro q s q0 q1
    show m_X12_ringSize_L4 M i s q = _
    unfold m_X12_ringSize_L4
    have := hrr q
    rw [hy.1, hy.2.1, wr_id (x := W * H) (by omega) (by omega), wr_id (x := q) (by omega) (by omega), if_neg (by omega), if_pos (by omega), hr q q0 (by omega), wr_id (x := r q) (by omega) (by omega), wr_id (x := i) (by omega) (by omega), lt_q]
    by_cases z : r q = i
    · rw [if_pos z, decide_eq_true z]; rfl
    · rw [if_neg z, decide_eq_false z]; rfl
  · intro s
    show m_X12_ringSize_L4 M i s (W * H) = _
    unfold m_X12_ringSize_L4
    rw [hy.1, hy.2.1, if_pos (by omega)]
theorem op_rings {M : Mem} (hI : Inv M) {a b : Int} (ha : -2147483648 ≤ a) (ha2 : a ≤ 2147483647) (hb : -2147483648 ≤ b) (hb2 : b ≤ 2147483647) : OpI (fun M => m_X11_rings M a b) (fun M => m_X12_rings M a b) M := by
  have hI' := hI
  obtain ⟨W, H, op, wa, pr, hd, on, ts, tp, ln, sz, it, hA⟩ := hI'
  have hA' := hA
  obtain ⟨hC, hR, hwf, hD, hS⟩ := hA'
  unfold OpI m_X11_rings m_X12_rings
  dsimp only
  rw [slotsFault_s hC.2.1.1 ha ha2 hb hb2, bd1_q, wr_id ha ha2, wr_id hb hb2]
  rcases sfl_c (hd := hd) (a := a) (b := b) with ⟨e, c⟩ | ⟨e, c, d⟩ | ⟨e, c, d1, d2⟩
  · refine ⟨-1, M, M, by rw [e]; rfl, ?_, hI⟩
    rw [refusesBoth_s hR.2.1.1 ha ha2 hb hb2, bd1_q, e]; rfl
  · refine ⟨-4, M, M, by rw [e]; rfl, ?_, hI⟩
    rw [refusesBoth_s hR.2.1.1 ha ha2 hb hb2, bd1_q, e]; rfl
  · obtain ⟨M1, e1, -, -, f1⟩ := trace_s hC.1.1 (hwf.2.1 a c.1 c.2.1 d1) (hwf.2.1 b c.2.2.1 c.2.2.2 d2) (a := 39 + 2 * a.toNat) (b := 39 + 2 * b.toNat) (by omega) (by omega) (hC.2.1.2 a c.1 c.2.1 d1) (hC.2.1.2 b c.2.2.1 c.2.2.2 d2)
    have hR1 := hR.fr f1 (by decide)
    obtain ⟨M2, e2, -, f2⟩ := ringMany_s hR1.1.1 (hwf.2.1 a c.1 c.2.1 d1) (hwf.2.1 b c.2.2.1 c.2.2.2 d2) c.1 c.2.1 c.2.2.1 c.2.2.2 (hR1.2.1.2 a c.1 c.2.1 d1) (hR1.2.1.2 b c.2.2.1 c.2.2.2 d2)
    refine ⟨(rgS W H op (on a) (on b) (W * H).toNat).1, M1, M2, ?_, ?_, W, H, op, wa, pr, hd, on, ts, tp, ln, sz, it, hA.quiet f1 f2 (by decide) (by decide)⟩
    · rw [e, if_pos (by decide), if_pos (by omega), if_pos (by omega), e1, bd2_q, bd2_q]
    · rw [refusesBoth_s hR1.2.1.1 ha ha2 hb hb2, bd1_q, e, if_pos (by decide), e2, bd2_q, bd2_q]
theorem op_ring {M : Mem} (hI : Inv M) {a b i : Int} (ha : -2147483648 ≤ a) (ha2 : a ≤ 2147483647) (hb : -2147483648 ≤ b) (hb2 : b ≤ 2147483647) (hi : -2147483648 ≤ i) (hi2 : i ≤ 2147483647) : OpI (fun M => m_X11_ring M a b i) (fun M => m_X12_ring M a b i) M := by
  have hI' := hI
  obtain ⟨W, H, op, wa, pr, hd, on, ts, tp, ln, sz, it, hA⟩ := hI'
  have hA' := hA
  obtain ⟨hC, hR, hwf, hD, hS⟩ := hA'
  have hW := hwf.1.1
  have h8 := WH_le hW
  unfold OpI m_X11_ring m_X12_ring m_X11_ringFault
  dsimp only
  rw [slotsFault_s hC.2.1.1 ha ha2 hb hb2, isSlotR_s ha ha2, isSlotR_s hb hb2, wr_id ha ha2, wr_id hb hb2, wr_id hi hi2]
  simp only [wrb, bd1_q]
  by_cases ci : 0 ≤ i
  case neg =>
    rw [if_neg ci, bd2_q]
    refine ⟨-1, M, M, rfl, ?_, hI⟩
    by_cases z1 : 0 ≤ a ∧ a < 4
    · rw [decide_eq_true z1, if_tf]
      by_cases z2 : 0 ≤ b ∧ b < 4
      · rw [decide_eq_true z2, if_tf, if_neg ci]
      · rw [decide_eq_false z2, if_ff]
    · rw [decide_eq_false z1, if_ff]
  rw [if_pos ci]
  rcases sfl_c (hd := hd) (a := a) (b := b) with ⟨e, c⟩ | ⟨e, c, d⟩ | ⟨e, c, d1, d2⟩
  · rw [e]
    refine ⟨-1, M, M, rfl, ?_, hI⟩
    by_cases z1 : 0 ≤ a ∧ a < 4
    · rw [decide_eq_true z1, if_tf, decide_eq_false (by omega), if_ff]
    · rw [decide_eq_false z1, if_ff]
  · rw [e]
    refine ⟨-4, M, M, rfl, ?_, hI⟩
    rw [decide_eq_true (p := 0 ≤ a ∧ a < 4) (by omega), if_tf, decide_eq_true (p := 0 ≤ b ∧ b < 4) (by omega), if_tf, if_pos ci, refusesBoth_s hR.2.1.1 ha ha2 hb hb2, bd1_q, e]; rfl
  · have pa := hwf.2.1 a c.1 c.2.1 d1
    have pb := hwf.2.1 b c.2.2.1 c.2.2.2 d2
    obtain ⟨M1, e1, q1, q2, f1⟩ := trace_s hC.1.1 pa pb (a := 39 + 2 * a.toNat) (b := 39 + 2 * b.toNat) (by omega) (by omega) (hC.2.1.2 a c.1 c.2.1 d1) (hC.2.1.2 b c.2.2.1 c.2.2.2 d2)
    have hR1 := hR.fr f1 (by decide)
    obtain ⟨M2, e2, r2, f2⟩ := ringMany_s hR1.1.1 pa pb c.1 c.2.1 c.2.2.1 c.2.2.2 (hR1.2.1.2 a c.1 c.2.1 d1) (hR1.2.1.2 b c.2.2.1 c.2.2.2 d2)
    have hRG := rgS_ok hW pa pb (W * H).toNat (by omega)
    rw [Int.toNat_of_nonneg (by omega)] at hRG
    have hn0 := hRG.1
    have hn1 := hRG.2.1
    have hI2 : Inv M2 := ⟨W, H, op, wa, pr, hd, on, ts, tp, ln, sz, it, hA.quiet f1 f2 (by decide) (by decide)⟩
    have hy2 := hR1.1.1.fr f2 (by decide) (by decide)
    have hsz := ringSize_s hy2 r2 (fun q => by have := hRG.2.2.1 q; omega) ci hi2
    rw [e, if_pos (by decide), if_pos (by omega), if_pos (by omega), e1, bd2_q, lt_q]
    generalize (rgS W H op (on a) (on b) (W * H).toNat).1 = n at *
    generalize (rgS W H op (on a) (on b) (W * H).toNat).2 = r at *
    rw [wr_id (x := n) (by omega) (by omega), bd2_q]
    by_cases z : n ≤ i
    · refine ⟨-1, M1, M2, by rw [if_pos z]; rfl, ?_, hI2⟩
      rw [decide_eq_true (p := 0 ≤ a ∧ a < 4) (by omega), if_tf, decide_eq_true (p := 0 ≤ b ∧ b < 4) (by omega), if_tf, if_pos ci, refusesBoth_s hR1.2.1.1 ha ha2 hb hb2, bd1_q, e, if_pos (by decide), e2, bd2_q, wr_id (x := n) (by omega) (by omega), if_pos z, bd1_q]
    · refine ⟨cnR (W * H) r i, M1, M2, ?_, ?_, hI2⟩
      · rw [if_neg z, if_pos (by decide), if_pos (by omega), (q2 i ci (by omega)).1, bd1_q]
      · rw [decide_eq_true (p := 0 ≤ a ∧ a < 4) (by omega), if_tf, decide_eq_true (p := 0 ≤ b ∧ b < 4) (by omega), if_tf, if_pos ci, refusesBoth_s hR1.2.1.1 ha ha2 hb hb2, bd1_q, e, if_pos (by decide), e2, bd2_q, wr_id (x := n) (by omega) (by omega), if_neg z, hsz, bd1_q, bd1_q]
def pw (pa pb r : Int → Int) (i : Int) : Int → Int := fun q => if r q = i then pb q else pa q
theorem pw_pav {W H : Int} {op : Int → Bool} {pa pb : Int → Int} (hW : WHr W H) (ha : Pav W H op pa) (hb : Pav W H op pb) {c n i : Int} {r : Int → Int} (hR : RG W H op pa pb c n r) (i0 : 0 ≤ i) : Pav W H op (pw pa pb r i) := by
  have two : ∀ (p : Int → Int), Pav W H op p → ∀ q, iso W H op q = true → (p q / 2 = q ∨ p q / 2 = mt W H p q) ∧ (oth W H (p q) = q ∨ oth W H (p q) = mt W H p q) := by
    intro p hp q hq
    obtain ⟨a1, a2, a3, a4, -⟩ := hp.at hW hq
    unfold mt
    by_cases z : p q / 2 = q
    · rw [if_pos z]; exact ⟨Or.inl z, Or.inr rfl⟩
    · rw [if_neg z]
      refine ⟨Or.inr rfl, Or.inl ?_⟩
      rcases a4 with y | y
      · exact absurd y z
      · exact y
  intro q hq
  by_cases z : r q = i
  · obtain ⟨a1, a2, a3, a4, a5, a6, a7⟩ := hb.at hW hq
    have hm := (hR.2.2.2 q (by omega)).2.2
    have t2 := two pb hb q hq
    have e : pw pa pb r i q = pb q := if_pos z
    rw [e]
    have r1 : r (pb q / 2) = i := by
      rcases t2.1 with y | y <;> rw [y]
      · exact z
      · rw [hm]; exact z
    have r2 : r (oth W H (pb q)) = i := by
      rcases t2.2 with y | y <;> rw [y]
      · exact z
      · rw [hm]; exact z
    refine ⟨a1, a4, ?_, ?_⟩
    · unfold pw
      rw [if_pos r1]; exact a6
    · unfold pw
      rw [if_pos r2]; exact a7
  · obtain ⟨a1, a2, a3, a4, a5, a6, a7⟩ := ha.at hW hq
    have hm : r (mt W H pa q) ≠ i := fun y => z (by
      have := (hR.2.2.2 (mt W H pa q) (by omega)).2.1
      rw [(mt_s hW ha hq).2.2.1] at this
      omega)
    have t2 := two pa ha q hq
    have e : pw pa pb r i q = pa q := if_neg z
    rw [e]
    have r1 : r (pa q / 2) ≠ i := by
      rcases t2.1 with y | y <;> rw [y]
      · exact z
      · exact hm
    have r2 : r (oth W H (pa q)) ≠ i := by
      rcases t2.2 with y | y <;> rw [y]
      · exact z
      · exact hm
    refine ⟨a1, a4, ?_, ?_⟩
    · unfold pw
      rw [if_neg r1]; exact a6
    · unfold pw
      rw [if_neg r2]; exact a7
theorem rgS_same {W H : Int} {op : Int → Bool} {p : Int → Int} : ∀ c : Nat, (rgS W H op p p c).1 = 0 := by
  intro c
  induction c with
  | zero => rfl
  | succ c ih =>
    show (if op c = true ∧ _ ∧ p c ≠ p c then _ else _ : Int × (Int → Int)).1 = 0
    rw [if_neg (fun z => z.2.2 rfl)]
    exact ih
theorem op_wind {M : Mem} (hI : Inv M) {a b i : Int} (ha : -2147483648 ≤ a) (ha2 : a ≤ 2147483647) (hb : -2147483648 ≤ b) (hb2 : b ≤ 2147483647) (hi : -2147483648 ≤ i) (hi2 : i ≤ 2147483647) : OpI (fun M => m_X11_wind M a b i) (fun M => m_X12_wind M a b i) M := by
  have hI' := hI
  obtain ⟨W, H, op, wa, pr, hd, on, ts, tp, ln, sz, it, hA⟩ := hI'
  have hA' := hA
  obtain ⟨hC, hR, hwf, hD, hS⟩ := hA'
  have hW := hwf.1.1
  have h8 := WH_le hW
  unfold OpI m_X11_wind m_X12_wind m_X11_ringFault
  dsimp only
  rw [slotsFault_s hC.2.1.1 ha ha2 hb hb2, isSlotR_s ha ha2, isSlotR_s hb hb2, wr_id ha ha2, wr_id hb hb2, wr_id hi hi2]
  simp only [wrb, bd1_q]
  by_cases ci : 0 ≤ i
  case neg =>
    rw [if_neg ci, bd2_q]
    refine ⟨-1, M, M, rfl, ?_, hI⟩
    by_cases z1 : 0 ≤ a ∧ a < 4
    · rw [decide_eq_true z1, if_tf]
      by_cases z2 : 0 ≤ b ∧ b < 4
      · rw [decide_eq_true z2, if_tf, if_neg ci]
      · rw [decide_eq_false z2, if_ff]
    · rw [decide_eq_false z1, if_ff]
  rw [if_pos ci]
  rcases sfl_c (hd := hd) (a := a) (b := b) with ⟨e, c⟩ | ⟨e, c, d⟩ | ⟨e, c, d1, d2⟩
  · rw [e]
    refine ⟨-1, M, M, rfl, ?_, hI⟩
    by_cases z1 : 0 ≤ a ∧ a < 4
    · rw [decide_eq_true z1, if_tf, decide_eq_false (by omega), if_ff]
    · rw [decide_eq_false z1, if_ff]
  · rw [e]
    refine ⟨-4, M, M, rfl, ?_, hI⟩
    rw [decide_eq_true (p := 0 ≤ a ∧ a < 4) (by omega), if_tf, decide_eq_true (p := 0 ≤ b ∧ b < 4) (by omega), if_tf, if_pos ci, refusesBoth_s hR.2.1.1 ha ha2 hb hb2, bd1_q, e]; rfl
  · have pa := hwf.2.1 a c.1 c.2.1 d1
    have pb := hwf.2.1 b c.2.2.1 c.2.2.2 d2
    obtain ⟨M1, e1, q1, q2, f1⟩ := trace_s hC.1.1 pa pb (a := 39 + 2 * a.toNat) (b := 39 + 2 * b.toNat) (by omega) (by omega) (hC.2.1.2 a c.1 c.2.1 d1) (hC.2.1.2 b c.2.2.1 c.2.2.2 d2)
    have hA1 := hA.quiet f1 (ks2 := []) Fr.rf (by decide) (by decide)
    have hR1 := hR.fr f1 (by decide)
    have hRG := rgS_ok hW pa pb (W * H).toNat (by omega)
    rw [Int.toNat_of_nonneg (by omega)] at hRG
    have hn0 := hRG.1
    have hn1 := hRG.2.1
    have hab : 0 < (rgS W H op (on a) (on b) (W * H).toNat).1 → a ≠ b := by
      intro h z
      rw [z, rgS_same] at h
      omega
    rw [e, if_pos (by decide), if_pos (by omega), if_pos (by omega), e1, bd2_q, lt_q]
    have refp : ∀ M3, RS M3 W H op wa pr hd on ts tp ln sz it → ∃ M4, m_X12_ringMany M3 a b = some ((rgS W H op (on a) (on b) (W * H).toNat).1, M4) ∧ (∀ q, 0 ≤ q → q < 64 → gI M4 75 q = (rgS W H op (on a) (on b) (W * H).toNat).2 q) ∧ Fr [75] M3 M4 := fun M3 h3 => ringMany_s h3.1.1 pa pb c.1 c.2.1 c.2.2.1 c.2.2.2 (h3.2.1.2 a c.1 c.2.1 d1) (h3.2.1.2 b c.2.2.1 c.2.2.2 d2)
    generalize (rgS W H op (on a) (on b) (W * H).toNat).1 = n at *
    generalize (rgS W H op (on a) (on b) (W * H).toNat).2 = r at *
    rw [wr_id (x := n) (by omega) (by omega), bd2_q]
    by_cases z : n ≤ i
    · obtain ⟨M4, e4, r4, f4⟩ := refp M1 hR1
      refine ⟨-1, M1, M4, by rw [if_pos z]; rfl, ?_, W, H, op, wa, pr, hd, on, ts, tp, ln, sz, it, hA.quiet f1 f4 (by decide) (by decide)⟩
      rw [decide_eq_true (p := 0 ≤ a ∧ a < 4) (by omega), if_tf, decide_eq_true (p := 0 ≤ b ∧ b < 4) (by omega), if_tf, if_pos ci, refusesBoth_s hR1.2.1.1 ha ha2 hb hb2, bd1_q, e, if_pos (by decide), e4, bd2_q, wr_id (x := n) (by omega) (by omega), if_neg (by omega)]
    · have hne := hab (by omega)
      rw [if_neg z, if_pos (by decide), if_pos (by omega), if_pos (by omega)]
      -- the class takes over
      obtain ⟨M2, e2, k1, k2, f2⟩ := for_M (f := fun s => m_X4_takeOver_L3 s.2 (39 + 2 * a.toNat) (39 + 2 * b.toNat) i s.1) 0 (W * H) (fun x M' => (∀ q, iso W H op q = true → q < x → gI M' (39 + 2 * a.toNat + 1) q = pw (on a) (on b) r i q) ∧ (∀ q, iso W H op q = true → x ≤ q → gI M' (39 + 2 * a.toNat + 1) q = on a q) ∧ Fr [39 + 2 * a.toNat + 1] M1 M') (fun x M' x0 x1 hI => by
        show ∃ M2, m_X4_takeOver_L3 M' (39 + 2 * a.toNat) (39 + 2 * b.toNat) i x = _ ∧ _
        unfold m_X4_takeOver_L3 m_X10_cells
        have hrx := hRG.2.2.1 x
        rw [fI hI.2.2 (by simp <;> omega), fI hI.2.2 (by simp <;> omega), fI f1 (by decide), fI f1 (by decide), hC.1.1.1, hC.1.1.2.1, wr_id (x := W * H) (by omega) (by omega), wr_id (x := x) (by omega) (by omega), if_neg (by omega), if_pos (by omega), fI hI.2.2 (by simp; omega), q1 x x0 (by omega), wr_id (x := r x) (by omega) (by omega), wr_id hi hi2]
        by_cases y : r x = i
        · have hxi := (hRG.2.2.2 x (by omega)).1
          rw [if_pos y, lt_q, bd1_q, fI hI.2.2 (by simp; omega), fI f1 (by simp; omega), hC.2.1.2 b c.2.2.1 c.2.2.2 d2 x hxi]
          refine ⟨_, rfl, fun q hq hx => ?_, fun q hq hx => ?_, hI.2.2.sI (by simp) rfl⟩
          · rw [gI_sI]
            by_cases w : q = x
            · rw [if_pos ⟨rfl, w⟩, w]
              unfold pw
              rw [if_pos y]
            · rw [if_neg (fun v => w v.2)]; exact hI.1 q hq (by omega)
          · rw [gI_sI, if_neg (by omega)]; exact hI.2.1 q hq (by omega)
        · rw [if_neg y, bd1_q]
          refine ⟨_, rfl, fun q hq hx => ?_, fun q hq hx => hI.2.1 q hq (by omega), hI.2.2⟩
          by_cases w : q = x
          · rw [hI.2.1 q hq (by omega)]
            unfold pw
            rw [if_neg (by rw [w]; exact y)]
          · exact hI.1 q hq (by omega)) (fun M' hI => by
        show m_X4_takeOver_L3 M' (39 + 2 * a.toNat) (39 + 2 * b.toNat) i (W * H) = _
        unfold m_X4_takeOver_L3 m_X10_cells
        rw [fI hI.2.2 (by simp <;> omega), fI hI.2.2 (by simp <;> omega), fI f1 (by decide), fI f1 (by decide), hC.1.1.1, hC.1.1.2.1, if_pos (by omega)]) (by omega) (by omega) (M0 := M1) ⟨fun q hq hx => by have := (iso_t.mp hq).1; omega, fun q hq hx => (fI f1 (by simp; omega) q).trans (hC.2.1.2 a c.1 c.2.1 d1 q hq), Fr.rf⟩
      have eT : m_X4_takeOver M1 (39 + 2 * a.toNat) (39 + 2 * b.toNat) i = some M2 := by
        unfold m_X4_takeOver
        rw [e2, bd2_q]
      have fB : Fr [35, 36, 39, 40, 41, 42, 43, 44, 45, 46] M M2 := (f1.mono (by decide)).trans f2 (by rcases s4 c.1 c.2.1 with w | w | w | w <;> rw [w] <;> decide)
      have hR2 := hR.fr fB (by decide)
      obtain ⟨M4, e4, r4, f4⟩ := refp M2 hR2
      have hR4 := hR2.fr f4 (by decide)
      obtain ⟨M5, e5, k5, k6, k7, f5⟩ := for_M (f := fun s => m_X12_wind_L51 s.2 a b i s.1) 0 (W * H) (fun x M' => (∀ q, iso W H op q = true → q < x → gI M' 60 (64 * a + q) = pw (on a) (on b) r i q) ∧ (∀ q, iso W H op q = true → x ≤ q → gI M' 60 (64 * a + q) = on a q) ∧ (∀ j, ¬ (64 * a ≤ j ∧ j < 64 * a + 64) → gI M' 60 j = gI M4 60 j) ∧ Fr [60] M4 M') (fun x M' x0 x1 hI => by
        show ∃ M2, m_X12_wind_L51 M' a b i x = _ ∧ _
        unfold m_X12_wind_L51
        have hrx := hRG.2.2.1 x
        have hy' := hR4.1.1.fr hI.2.2.2 (by decide) (by decide)
        rw [hy'.1, hy'.2.1, wr_id (x := W * H) (by omega) (by omega), wr_id (x := x) (by omega) (by omega), if_neg (by omega), if_pos (c := 0 ≤ x ∧ x < 64) (by omega), hy'.2.2.2 x x0 (by omega), wr_id (x := 64 * a + x) (by omega) (by omega), wr_id (x := 64 * b + x) (by omega) (by omega), if_pos (c := 0 ≤ 64 * a + x ∧ 64 * a + x < 256) (by omega), if_pos (c := 0 ≤ 64 * b + x ∧ 64 * b + x < 256) (by omega), fI hI.2.2.2 (k := 75) (by decide), r4 x x0 (by omega), wr_id (x := r x) (by omega) (by omega), wr_id hi hi2]
        simp only [wrb]
        obtain ⟨v, ev, hv⟩ : ∃ v, (if op x = false then some (gI M' 60 (64 * a + x)) else if r x = i then some (gI M' 60 (64 * b + x)) else some (gI M' 60 (64 * a + x))) = some v ∧ (iso W H op x = true → v = pw (on a) (on b) r i x) := by
          cases ho : op x
          · rw [if_ff]
            exact ⟨_, rfl, fun w => by have := (iso_t.mp w).2; rw [ho] at this; exact absurd this (by decide)⟩
          · rw [if_tf]
            by_cases y : r x = i
            · have hxi := (hRG.2.2.2 x (by omega)).1
              rw [if_pos y]
              refine ⟨_, rfl, fun _ => ?_⟩
              rw [hI.2.2.1 _ (by omega), hR4.2.1.2 b c.2.2.1 c.2.2.2 d2 x hxi]
              unfold pw
              rw [if_pos y]
            · rw [if_neg y]
              refine ⟨_, rfl, fun w => ?_⟩
              rw [hI.2.1 x w (by omega)]
              unfold pw
              rw [if_neg y]
        rw [ev, bd1_q, if_pos (c := 0 ≤ 64 * a + x ∧ 64 * a + x < 256) (by omega), lt_q]
        refine ⟨_, rfl, fun q hq hx => ?_, fun q hq hx => ?_, fun j hj => ?_, hI.2.2.2.sI (by decide) rfl⟩
        · rw [gI_sI]
          by_cases w : q = x
          · rw [if_pos ⟨rfl, by rw [w]⟩, w]; exact hv (by rw [← w]; exact hq)
          · rw [if_neg (by omega)]; exact hI.1 q hq (by omega)
        · rw [gI_sI, if_neg (by omega)]; exact hI.2.1 q hq (by omega)
        · rw [gI_sI, if_neg (by omega)]; exact hI.2.2.1 j hj) (fun M' hI => by
        show m_X12_wind_L51 M' a b i (W * H) = _
        unfold m_X12_wind_L51
        have hy' := hR4.1.1.fr hI.2.2.2 (by decide) (by decide)
        rw [hy'.1, hy'.2.1, if_pos (by omega)]) (by omega) (by omega) (M0 := M4) ⟨fun q hq hx => by have := (iso_t.mp hq).1; omega, fun q hq hx => hR4.2.1.2 a c.1 c.2.1 d1 q hq, fun _ _ => rfl, Fr.rf⟩
      have hsz := ringSize_s (hR4.1.1.fr f5 (by decide) (by decide)) (fun q q0 q1' => (fI f5 (by decide) q).trans (r4 q q0 q1')) (fun q => by have := hRG.2.2.1 q; omega) ci hi2
      refine ⟨idv (cnR (W * H) r i) 2, M2, M5, ?_, ?_, W, H, op, wa, pr, _, _, ts, tp, ln, sz, it, hA1.slot (p := pw (on a) (on b) r i) (v := true) c.1 c.2.1 (f2.mono (by simp)) ?_ (fun _ q hq => k1 q hq (iso_t.mp hq).1.2) (ks := [60, 75]) ((f4.mono (by decide)).trans f5 (by decide)) (by decide) (fun j j0 j1 w => ?_) (fun j hj => ?_) ?_ (fun _ q hq => k5 q hq (iso_t.mp hq).1.2) (fun _ => pw_pav hW pa pb hRG ci)⟩
      · rw [eT, bd1_q, if_pos (by omega), fI f2 (by simp; omega), (q2 i ci (by omega)).1]
      · rw [decide_eq_true (p := 0 ≤ a ∧ a < 4) (by omega), if_tf, decide_eq_true (p := 0 ≤ b ∧ b < 4) (by omega), if_tf, if_pos ci, refusesBoth_s hR2.2.1.1 ha ha2 hb hb2, bd1_q, e, if_pos (by decide), e4, bd2_q, wr_id (x := n) (by omega) (by omega), if_pos (by omega), e5, bd2_q, hsz, bd1_q]
      · rw [fI f2 (by simp), fI f1 (by simp; omega), hC.2.1.1 a c.1 c.2.1, d1]
      · rw [fI f5 (by decide), fI f4 (by decide)]
      · rw [k7 j hj, fI f4 (by decide)]
      · rw [fI f5 (by decide), hR4.2.1.1 a c.1 c.2.1, d1]
