/-! sheets: sheet, drop, item, copy -/
theorem ALL.sheet {M M1 M2 : Mem} {W H : Int} {op : Int → Bool} {wa pr : Int → Int} {hd : Int → Bool} {on : Int → Int → Int} {ts : Int} {tp : Int → Int} {ln sz ln2 sz2 : Int → Int} {it it2 : Int → Int → Int} (h : ALL M W H op wa pr hd on ts tp ln sz it) {s : Int} (h0 : 0 ≤ s) (h1 : s < 4) (hF : Fr [47 + 2 * s.toNat + 1, 47 + 2 * s.toNat] M M1) (hc : SHc M1 ln2 sz2 it2) {ks : List Nat} (hF2 : Fr ks M1 M2) (hk : ks.all (fun k => (76 :: 77 :: 78 :: rtmp).contains k) = true) (hr : SHr M2 ln2 sz2 it2) (hw : WFh ln2 sz2 it2) : ALL M2 W H op wa pr hd on ts tp ln2 sz2 it2 := by
  obtain ⟨hC, hR, hwf, hD, hS⟩ := h
  have hn : ∀ k, k < 47 ∨ 54 < k → k ∉ [47 + 2 * s.toNat + 1, 47 + 2 * s.toNat] := by intro k hk; simp; omega
  refine ⟨⟨?_, ?_, ?_, ?_⟩, ⟨?_, ?_, ?_, hr⟩, ⟨hwf.1, hwf.2.1, hwf.2.2.1, hw⟩, ?_, ?_⟩
  · exact (hC.1.fr hF (hn _ (by omega)) (hn _ (by omega)) (hn _ (by omega)) (hn _ (by omega))).fr hF2 (notin hk (by decide)) (notin hk (by decide)) (notin hk (by decide)) (notin hk (by decide))
  · exact (hC.2.1.fr hF (fun k a b => hn k (by omega))).fr hF2 (kp_of hk (by decide))
  · exact (hC.2.2.1.fr hF (hn _ (by omega)) (hn _ (by omega))).fr hF2 (notin hk (by decide)) (notin hk (by decide))
  · exact hc.fr hF2 (kp_of hk (by decide))
  · exact (hR.1.fr hF (hn _ (by omega)) (hn _ (by omega)) (hn _ (by omega)) (hn _ (by omega))).fr hF2 (notin hk (by decide)) (notin hk (by decide)) (notin hk (by decide)) (notin hk (by decide))
  · exact (hR.2.1.fr hF (hn _ (by omega)) (hn _ (by omega))).fr hF2 (notin hk (by decide)) (notin hk (by decide))
  · exact (hR.2.2.1.fr hF (hn _ (by omega)) (hn _ (by omega))).fr hF2 (notin hk (by decide)) (notin hk (by decide))
  · exact (hD.fr hF (hn _ (by omega)) (hn _ (by omega))).fr hF2 (notin hk (by decide)) (notin hk (by decide))
  · exact (hS.fr hF (hn _ (by omega)) (hn _ (by omega)) (hn _ (by omega)) (hn _ (by omega))).fr hF2 (notin hk (by decide)) (notin hk (by decide)) (notin hk (by decide)) (notin hk (by decide))
def up1 {α : Type} (f : Int → α) (s : Int) (v : α) : Int → α := fun j => if j = s then v else f j
theorem up1_e {α : Type} {f : Int → α} {s : Int} {v : α} : up1 f s v s = v := if_pos rfl
theorem up1_n {α : Type} {f : Int → α} {s j : Int} {v : α} (h : j ≠ s) : up1 f s v j = f j := if_neg h
theorem sh_n {s j : Int} (h0 : 0 ≤ s) (h1 : 0 ≤ j) (h : j ≠ s) : 47 + 2 * j.toNat ∉ [47 + 2 * s.toNat + 1, 47 + 2 * s.toNat] ∧ 47 + 2 * j.toNat + 1 ∉ [47 + 2 * s.toNat + 1, 47 + 2 * s.toNat] := by
  constructor <;> (simp; omega)
theorem SHc.upd {M M1 : Mem} {ln sz : Int → Int} {it : Int → Int → Int} (h : SHc M ln sz it) {s : Int} (h0 : 0 ≤ s) (hF : Fr [47 + 2 * s.toNat + 1, 47 + 2 * s.toNat] M M1) {l z : Int} {t : Int → Int} (q1 : gI M1 (47 + 2 * s.toNat) 0 = bI (decide (0 ≤ l))) (q2 : 0 ≤ l → gI M1 (47 + 2 * s.toNat) 1 = l) (q3 : gI M1 (47 + 2 * s.toNat) 2 = z) (q4 : ∀ i, 0 ≤ i → i < 64 → gI M1 (47 + 2 * s.toNat + 1) i = t i) : SHc M1 (up1 ln s l) (up1 sz s z) (up1 it s t) := by
  intro j j0 j1
  by_cases e : j = s
  · subst e
    rw [up1_e, up1_e, up1_e]
    exact ⟨q1, q2, q3, q4⟩
  · rw [up1_n e, up1_n e, up1_n e]
    obtain ⟨a1, a2, a3, a4⟩ := h j j0 j1
    obtain ⟨n1, n2⟩ := sh_n h0 j0 e
    refine ⟨?_, fun x => ?_, ?_, fun i x y => ?_⟩
    · rw [fI hF n1]; exact a1
    · rw [fI hF n1]; exact a2 x
    · rw [fI hF n1]; exact a3
    · rw [fI hF n2]; exact a4 i x y
theorem SHr.upd {M M1 : Mem} {ln sz : Int → Int} {it : Int → Int → Int} (h : SHr M ln sz it) {s : Int} {l z : Int} {t : Int → Int} (n1 : ∀ j, 0 ≤ j → j < 4 → j ≠ s → gI M1 76 j = gI M 76 j ∧ gI M1 77 j = gI M 77 j) (n2 : ∀ j, ¬ (64 * s ≤ j ∧ j < 64 * s + 64) → gI M1 78 j = gI M 78 j) (q1 : gI M1 76 s = l) (q3 : gI M1 77 s = z) (q4 : ∀ i, 0 ≤ i → i < 64 → gI M1 78 (64 * s + i) = t i) : SHr M1 (up1 ln s l) (up1 sz s z) (up1 it s t) := by
  intro j j0 j1
  by_cases e : j = s
  · subst e
    rw [up1_e, up1_e, up1_e]
    exact ⟨q1, q3, q4⟩
  · rw [up1_n e, up1_n e, up1_n e]
    obtain ⟨a1, a3, a4⟩ := h j j0 j1
    obtain ⟨b1, b2⟩ := n1 j j0 j1 e
    exact ⟨b1.trans a1, b2.trans a3, fun i x y => (n2 _ (by omega)).trans (a4 i x y)⟩
theorem WFh.upd {ln sz : Int → Int} {it : Int → Int → Int} (h : WFh ln sz it) {s : Int} {l z : Int} {t : Int → Int} (q1 : -1 ≤ l) (q2 : l ≤ 2) (q3 : 0 ≤ z) (q4 : z ≤ 64) (q5 : ∀ i, 0 ≤ i → i < 64 → -2147483648 ≤ t i ∧ t i ≤ 2147483647) : WFh (up1 ln s l) (up1 sz s z) (up1 it s t) := by
  intro j j0 j1
  by_cases e : j = s
  · subst e
    rw [up1_e, up1_e, up1_e]
    exact ⟨q1, q2, q3, q4, q5⟩
  · rw [up1_n e, up1_n e, up1_n e]
    exact h j j0 j1
def fnd (ln sz : Int → Int) (a lane i n : Int) : Int := if ln a < 0 then -11 else if ln a ≠ lane then -12 else if i < 0 ∨ sz a < i + n then -13 else 0
theorem i2l_add {a b c : Int} (ha : -2147483648 ≤ a) (ha2 : a ≤ 2147483647) (hb : -2147483648 ≤ b) (hb2 : b ≤ 2147483647) (hc : -2147483648 ≤ c) (hc2 : c ≤ 2147483647) : i2l a + i2l b ≤ i2l c ↔ a + b ≤ c := by
  have t : ∀ x : Int, -2147483648 ≤ x → x ≤ 2147483647 → (i2l x).toInt = x := by
    intro x h1 h2
    unfold i2l
    rw [Int32.toInt_toInt64, wr_toInt, wr_id h1 h2]
  rw [Int64.le_iff_toInt_le, Int64.toInt_add, t a ha ha2, t b hb hb2, t c hc hc2, Int.bmod_def]
  have : (a + b) % (2 ^ 64 : Nat) = if 0 ≤ a + b then a + b else a + b + 18446744073709551616 := by
    split <;> omega
  omega
theorem finds_s {M : Mem} {ln sz : Int → Int} {it : Int → Int → Int} (h : SHr M ln sz it) (hw : WFh ln sz it) {a lane i n : Int} (a0 : 0 ≤ a) (a1 : a < 4) (hl : wr lane = lane) (hi : -2147483648 ≤ i) (hi2 : i ≤ 2147483647) (hn : -2147483648 ≤ n) (hn2 : n ≤ 2147483647) : m_X12_finds M a lane i n = some (fnd ln sz a lane i n) := by
  obtain ⟨w1, w2, w3, w4, w5⟩ := hw a a0 a1
  obtain ⟨q1, q2, q3⟩ := h a a0 a1
  unfold m_X12_finds fnd
  rw [wr_id (x := a) (by omega) (by omega), if_pos ⟨a0, a1⟩, q1, q2, wr_id (x := ln a) (by omega) (by omega), hl, wr_id hi hi2, lt_q]
  by_cases c1 : ln a < 0
  · rw [if_neg (by omega), if_pos c1]
  rw [if_pos (by omega), if_neg c1]
  by_cases c2 : ln a = lane
  · rw [if_pos c2, if_neg (c := ln a ≠ lane) (fun z => z c2)]
    by_cases c3 : i < 0
    · rw [if_pos c3, if_pos (Or.inl c3)]
    rw [if_neg c3]
    by_cases c4 : sz a < i + n
    · rw [if_neg (fun z => by have := (i2l_add hi hi2 hn hn2 (by omega) (by omega)).mp z; omega), if_pos (Or.inr c4)]
    · rw [if_pos ((i2l_add hi hi2 hn hn2 (by omega) (by omega)).mpr (by omega)), if_neg (by omega)]
  · rw [if_neg c2, if_pos c2]
theorem sheetFault_s {M : Mem} {ln sz : Int → Int} {it : Int → Int → Int} (h : SHc M ln sz it) (hw : WFh ln sz it) {a lane : Int} (a0 : 0 ≤ a) (a1 : a < 4) (hl : wr lane = lane) : m_X11_sheetFault M a lane = some (if ln a < 0 then -11 else if ln a ≠ lane then -12 else 0) := by
  obtain ⟨w1, w2, w3, w4, w5⟩ := hw a a0 a1
  obtain ⟨q1, q2, q3, q4⟩ := h a a0 a1
  unfold m_X11_sheetFault
  rw [wr_id (x := a) (by omega) (by omega), if_pos ⟨a0, a1⟩, q1]
  simp only [wrb]
  by_cases c1 : ln a < 0
  · rw [decide_eq_false (p := 0 ≤ ln a) (by omega), if_ff, if_pos c1]
  rw [decide_eq_true (p := 0 ≤ ln a) (by omega), if_tf, if_neg c1, q2 (by omega), wr_id (x := ln a) (by omega) (by omega), hl, lt_q]
  by_cases c2 : ln a = lane
  · rw [if_pos c2, if_neg (fun z => z c2)]
  · rw [if_neg c2, if_pos c2]
theorem op_sheet {M : Mem} (hI : Inv M) {a l n : Int} (ha : -2147483648 ≤ a) (ha2 : a ≤ 2147483647) (hl : -2147483648 ≤ l) (hl2 : l ≤ 2147483647) (hn : -2147483648 ≤ n) (hn2 : n ≤ 2147483647) : OpI (fun M => m_X11_sheet M a l n) (fun M => m_X12_sheet M a l n) M := by
  have hI' := hI
  obtain ⟨W, H, op, wa, pr, hd, on, ts, tp, ln, sz, it, hA⟩ := hI'
  have hA' := hA
  obtain ⟨hC, hR, hwf, hD, hS⟩ := hA'
  unfold OpI m_X11_sheet m_X12_sheet
  dsimp only
  rw [isSheet_s ha ha2, isSheetR_s ha ha2, isLane_s hl hl2, isLaneR_s hl hl2, wr_id ha ha2, wr_id hn hn2, show wr 64 = 64 by decide]
  simp only [wrb, bd1_q]
  by_cases c1 : 0 ≤ a ∧ a < 4
  case neg =>
    rw [decide_eq_false c1]
    exact ⟨-1, M, M, rfl, rfl, hI⟩
  by_cases c2 : 0 ≤ l ∧ l < 3
  case neg =>
    rw [decide_eq_true c1, decide_eq_false c2]
    exact ⟨-1, M, M, rfl, rfl, hI⟩
  rw [decide_eq_true c1, decide_eq_true c2]
  simp only [if_tf, if_pos c1]
  by_cases c3 : n ≤ 64
  case neg =>
    simp only [if_neg c3]
    exact ⟨-1, M, M, rfl, rfl, hI⟩
  simp only [if_pos c3]
  by_cases c4 : 0 ≤ n
  case neg =>
    simp only [if_neg c4]
    exact ⟨-14, M, M, rfl, rfl, hI⟩
  simp only [if_pos c4]
  have hly : ly (47 + 2 * a.toNat + 1) = (0, 64) := by
    rcases s4 c1.1 c1.2 with e | e | e | e <;> rw [e] <;> decide
  obtain ⟨M1, e1, k1, k2, k3, k4⟩ : ∃ M1, m_X6_start M (47 + 2 * a.toNat) l n = some M1 ∧ gI M1 (47 + 2 * a.toNat) 0 = 1 ∧ gI M1 (47 + 2 * a.toNat) 1 = l ∧ gI M1 (47 + 2 * a.toNat) 2 = n ∧ ∀ i, 0 ≤ i → i < 64 → gI M1 (47 + 2 * a.toNat + 1) i = 0 := by
    unfold m_X6_start
    rw [lt_q, lt_q, lt_q]
    obtain ⟨M1, e1, h1⟩ := fill_s (sI (sI (sI M (47 + 2 * a.toNat) 0 1) (47 + 2 * a.toNat) 1 l) (47 + 2 * a.toNat) 2 n) (47 + 2 * a.toNat + 1) 0 64 (by rw [hly]; rfl) (by decide)
    have f := fr_J7_fill_53178 e1
    rw [e1, bd1_q]
    refine ⟨M1, rfl, ?_, ?_, ?_, h1⟩
    · rw [fI f (by simp), gI_sI, if_neg (by simp), gI_sI, if_neg (by simp), gI_sI, if_pos ⟨rfl, rfl⟩]
    · rw [fI f (by simp), gI_sI, if_neg (by simp), gI_sI, if_pos ⟨rfl, rfl⟩]
    · rw [fI f (by simp), gI_sI, if_pos ⟨rfl, rfl⟩]
  have f1 := fr_X6_start e1
  have hr1 := hR.2.2.2.fr f1 (by simp; omega) (by simp; omega) (by simp; omega)
  obtain ⟨M2, e2, q2⟩ := for_M (f := fun s => m_X12_sheet_L46 s.2 a n s.1) 0 64 (fun i M' => (∀ j, 0 ≤ j → j < i → gI M' 78 (64 * a + j) = 0) ∧ (∀ j, ¬ (64 * a ≤ j ∧ j < 64 * a + 64) → gI M' 78 j = gI M1 78 j) ∧ Fr [78] (sI (sI M1 76 a l) 77 a n) M') (fun i M' h1 h2 hI => by
    show ∃ M2, m_X12_sheet_L46 M' a n i = _ ∧ _
    unfold m_X12_sheet_L46
    rw [show wr 64 = 64 by decide, wr_id (x := i) (by omega) (by omega), if_neg (by omega), wr_id (x := 64 * a + i) (by omega) (by omega), if_pos (by omega), lt_q]
    refine ⟨_, rfl, fun j x y => ?_, fun j x => ?_, hI.2.2.sI (by decide) rfl⟩
    · rw [gI_sI]
      by_cases e : j = i
      · rw [if_pos ⟨rfl, by rw [e]⟩]
      · rw [if_neg (fun z => by omega)]; exact hI.1 j x (by omega)
    · rw [gI_sI, if_neg (by omega)]; exact hI.2.1 j x) (fun M' hI => by
    show m_X12_sheet_L46 M' a n 64 = _
    unfold m_X12_sheet_L46
    rw [if_pos (by decide)]) (by omega) (by omega) (M0 := sI (sI M1 76 a l) 77 a n) ⟨fun j x y => by omega, fun j x => by rw [gI_sI, if_neg (by simp), gI_sI, if_neg (by simp)], Fr.rf⟩
  refine ⟨n, M1, M2, by rw [e1, bd1_q], ?_, W, H, op, wa, pr, hd, on, ts, tp, up1 ln a l, up1 sz a n, up1 it a (fun _ => 0), hA.sheet c1.1 c1.2 f1 (hC.2.2.2.upd c1.1 f1 (by rw [k1, decide_eq_true (p := 0 ≤ l) c2.1]; rfl) (fun _ => k2) k3 k4) (ks := [76, 77, 78]) ?_ (by decide) (hr1.upd ?_ q2.2.1 ?_ ?_ q2.1) (hwf.2.2.2.upd (by omega) (by omega) c4 c3 (fun _ _ _ => by simp))⟩
  · rw [lt_q, lt_q, e2, bd2_q]
  · exact Fr.trans (ks := [76, 77, 78]) (ks1 := [78]) (((Fr.rf).sI (by decide) rfl).sI (by decide) rfl) q2.2.2 (by decide)
  · intro j j0 j1 e
    rw [fI q2.2.2 (by decide), fI q2.2.2 (by decide), gI_sI, if_neg (by simp), gI_sI, if_neg (fun z => e z.2), gI_sI, if_neg (fun z => e z.2), gI_sI, if_neg (by simp)]
    exact ⟨rfl, rfl⟩
  · rw [fI q2.2.2 (by decide), gI_sI, if_neg (by simp), gI_sI, if_pos ⟨rfl, rfl⟩]
  · rw [fI q2.2.2 (by decide), gI_sI, if_pos ⟨rfl, rfl⟩]
theorem op_drop {M : Mem} (hI : Inv M) {a : Int} (ha : -2147483648 ≤ a) (ha2 : a ≤ 2147483647) : OpI (fun M => m_X11_drop M a) (fun M => m_X12_drop M a) M := by
  have hI' := hI
  obtain ⟨W, H, op, wa, pr, hd, on, ts, tp, ln, sz, it, hA⟩ := hI'
  have hA' := hA
  obtain ⟨hC, hR, hwf, hD, hS⟩ := hA'
  unfold OpI m_X11_drop m_X12_drop
  dsimp only
  rw [isSheet_s ha ha2, isSheetR_s ha ha2, wr_id ha ha2]
  simp only [wrb, bd1_q]
  by_cases c1 : 0 ≤ a ∧ a < 4
  case neg =>
    rw [decide_eq_false c1]
    exact ⟨-1, M, M, rfl, rfl, hI⟩
  rw [decide_eq_true c1]
  simp only [if_tf, if_pos c1]
  obtain ⟨w1, w2, w3, w4, w5⟩ := hwf.2.2.2 a c1.1 c1.2
  obtain ⟨p1, p2, p3, p4⟩ := hC.2.2.2 a c1.1 c1.2
  obtain ⟨r1, r2, r3⟩ := hR.2.2.2 a c1.1 c1.2
  rw [p1]
  simp only [wrb]
  by_cases c2 : 0 ≤ ln a
  case neg =>
    rw [decide_eq_false c2]
    refine ⟨-11, M, M, rfl, ?_, hI⟩
    rw [r1, wr_id (x := ln a) (by omega) (by omega), if_neg c2]
  rw [decide_eq_true c2]
  have f1 : Fr [47 + 2 * a.toNat + 1, 47 + 2 * a.toNat] M (sI M (47 + 2 * a.toNat) 0 0) := Fr.sI Fr.rf (by simp) rfl
  have g76 : ∀ j, gI (sI M (47 + 2 * a.toNat) 0 0) 76 j = gI M 76 j := fun j => fI f1 (by simp; omega) j
  refine ⟨sz a, sI M (47 + 2 * a.toNat) 0 0, sI (sI M (47 + 2 * a.toNat) 0 0) 76 a (-1), ?_, ?_, W, H, op, wa, pr, hd, on, ts, tp, up1 ln a (-1), up1 sz a (sz a), up1 it a (it a), hA.sheet c1.1 c1.2 f1 (hC.2.2.2.upd c1.1 f1 ?_ (fun z => by omega) ?_ (fun i x y => ?_)) (ks := [76]) (Fr.sI Fr.rf (by decide) rfl) (by decide) ((hR.2.2.2.fr f1 (by simp; omega) (by simp; omega) (by simp; omega)).upd ?_ ?_ ?_ ?_ ?_) (hwf.2.2.2.upd (by omega) (by omega) w3 w4 w5)⟩
  · rw [if_tf, lt_q, gI_sI, if_neg (by simp), p3]
  · rw [g76, r1, wr_id (x := ln a) (by omega) (by omega), if_pos c2, lt_q, gI_sI, if_neg (by simp), fI f1 (by simp; omega), r2]
  · rw [gI_sI, if_pos ⟨rfl, rfl⟩]; rfl
  · rw [gI_sI, if_neg (by simp)]; exact p3
  · rw [gI_sI, if_neg (by simp)]; exact p4 i x y
  · intro j j0 j1 e
    exact ⟨by rw [gI_sI, if_neg (fun z => e z.2)], by rw [gI_sI, if_neg (by simp)]⟩
  · intro j x
    rw [gI_sI, if_neg (by simp)]
  · rw [gI_sI, if_pos ⟨rfl, rfl⟩]
  · rw [gI_sI, if_neg (by simp), fI f1 (by simp; omega), r2]
  · intro i x y
    rw [gI_sI, if_neg (by simp), fI f1 (by simp; omega)]; exact r3 i x y
