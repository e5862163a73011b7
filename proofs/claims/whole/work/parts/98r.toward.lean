/-! toward -/
/-- a turn that brings the heights nearer -/
def Cw (W H : Int) (op : Int → Bool) (p A B : Int → Int) (q : Int) : Prop := (wT W H op p (q % 9) (q / 9) = 1 ∧ A q < B q) ∨ (wT W H op p (q % 9) (q / 9) = 0 ∧ B q < A q)
theorem wT_crn {W H : Int} {op : Int → Bool} {p : Int → Int} (hW : WHr W H) {x y : Int} (h : wT W H op p x y ≠ -1) : crn W H op x y = true ∧ 1 ≤ x ∧ x < W ∧ 1 ≤ y ∧ y < H := by
  obtain ⟨hz, hq, -⟩ := wT_q hW h
  obtain ⟨z1, z2, z3, z4⟩ := q4_t.mp hz
  exact ⟨crn_t.mpr (Or.inl z1), hq.1⟩
theorem tow35_s {M : Mem} {W H : Int} {op : Int → Bool} {p A B : Int → Int} (hy : YC M W H op) (hp : Pav W H op p) {a : Nat} (ha : ∀ q, iso W H op q = true → gI M (a + 1) q = p q) (g29 : ∀ q, 0 ≤ q → q < 81 → gI M 29 q = if crn W H op (q % 9) (q / 9) = true then A q else 0) (g30 : ∀ q, 0 ≤ q → q < 81 → gI M 30 q = if crn W H op (q % 9) (q / 9) = true then B q else 0) (bA : ∀ q, CO W H op q → -80 ≤ A q ∧ A q ≤ 80) (bB : ∀ q, CO W H op q → -80 ≤ B q ∧ B q ≤ 80) {x y : Int} (x0 : 1 ≤ x) (x1 : x < W) (y0 : 1 ≤ y) (y1 : y < H) : (Cw W H op p A B (9 * y + x) → m_X1_turnToward_L35 M a y x = bd1 (m_X1_makeTurn M a x y) fun M17 => some (.inr (.inr (16 * y + x, M17)))) ∧ (¬ Cw W H op p A B (9 * y + x) → m_X1_turnToward_L35 M a y x = some (.inl (x + 1, M))) := by
  have hW := hy.2.2.1
  obtain ⟨a1, a2, a3, a4⟩ := hW
  have hW := hy.2.2.1
  have e9 : (9 * y + x) % 9 = x ∧ (9 * y + x) / 9 = y := by omega
  unfold m_X1_turnToward_L35 Cw
  rw [hy.1, wr_id (x := W) (by omega) (by omega), wr_id (x := x) (by omega) (by omega), if_neg (by omega), wayOfTurn_s hy hp ha (by omega) (by omega) (by omega) (by omega), bd1_q, show y * 9 + x = 9 * y + x by omega, wr_id (x := 9 * y + x) (by omega) (by omega), if_pos (by omega), g29 _ (by omega) (by omega), g30 _ (by omega) (by omega), e9.1, e9.2]
  rcases wT_r (W := W) (H := H) (op := op) (p := p) (x := x) (y := y) with q | q | q
  · rw [q, if_neg (by decide), if_neg (by decide)]
    exact ⟨fun h => by omega, fun _ => rfl⟩
  · have hc := (wT_crn (op := op) hW (x := x) (y := y) (p := p) (by omega)).1
    have hA := bA (9 * y + x) ⟨by omega, by omega, by rw [e9.1, e9.2]; exact hc⟩
    have hB := bB (9 * y + x) ⟨by omega, by omega, by rw [e9.1, e9.2]; exact hc⟩
    rw [q, if_neg (by decide), if_pos (by decide)]
    simp only [if_pos hc]
    rw [wr_id (x := B (9 * y + x) - A (9 * y + x)) (by omega) (by omega)]
    refine ⟨fun h => ?_, fun h => ?_⟩
    · rw [if_neg (by omega)]
    · have h' : ¬ B (9 * y + x) < A (9 * y + x) := fun r => h (Or.inr ⟨by trivial, r⟩)
      rw [if_pos (by omega)]
  · have hc := (wT_crn (op := op) hW (x := x) (y := y) (p := p) (by omega)).1
    have hA := bA (9 * y + x) ⟨by omega, by omega, by rw [e9.1, e9.2]; exact hc⟩
    have hB := bB (9 * y + x) ⟨by omega, by omega, by rw [e9.1, e9.2]; exact hc⟩
    rw [q, if_pos (by decide), if_neg (c := wr 1 = 0) (by decide)]
    simp only [if_pos hc]
    rw [wr_id (x := B (9 * y + x) - A (9 * y + x)) (by omega) (by omega)]
    refine ⟨fun h => ?_, fun h => ?_⟩
    · rw [if_pos (by omega)]
    · have h' : ¬ A (9 * y + x) < B (9 * y + x) := fun r => h (Or.inl ⟨by trivial, r⟩)
      rw [if_neg (by omega)]
theorem towR35_s {M : Mem} {W H : Int} {op : Int → Bool} {p A B : Int → Int} (hy : YR M W H op) (hp : Pav W H op p) {s : Int} (s0 : 0 ≤ s) (s1 : s < 4) (ha : ∀ q, iso W H op q = true → gI M 60 (64 * s + q) = p q) (g74 : ∀ q, 0 ≤ q → q < 81 → gI M 74 q = if crn W H op (q % 9) (q / 9) = true then A q else -1000) (g73 : ∀ q, 0 ≤ q → q < 81 → gI M 73 q = if crn W H op (q % 9) (q / 9) = true then B q else -1000) (bA : ∀ q, CO W H op q → -80 ≤ A q ∧ A q ≤ 80) (bB : ∀ q, CO W H op q → -80 ≤ B q ∧ B q ≤ 80) {q : Int} (q0 : 0 ≤ q) (q1 : q < 81) : (Cw W H op p A B q → m_X12_toward_L35 M s q = bd1 (m_X12_across M s (q % 9) (q / 9)) fun M24 => some (.inr (.inr (16 * (q / 9) + q % 9, M24)))) ∧ (¬ Cw W H op p A B q → m_X12_toward_L35 M s q = some (.inl (q + 1, M))) := by
  have hW := hy.2.2.1
  unfold m_X12_toward_L35 Cw
  rw [show wr 81 = 81 by decide, wr_id (x := q) (by omega) (by omega), if_neg (by omega), irm_p q0 (by omega) (by omega) (by omega), idv_p q0 (by omega) (by omega) (by omega), turnOf_s hy hp s0 s1 ha (by omega) (by omega) (by omega) (by omega), bd1_q, g74 q q0 q1, g73 q q0 q1]
  rcases wT_r (W := W) (H := H) (op := op) (p := p) (x := q % 9) (y := q / 9) with w | w | w
  · have e : wR (-1) = -4 := by unfold wR; rw [if_pos rfl]
    rw [w, e, if_neg (by decide), if_neg (by decide)]
    exact ⟨fun h => by omega, fun _ => rfl⟩
  · have e : wR 0 = 0 := by unfold wR; rw [if_neg (by decide)]
    have hc := (wT_crn (op := op) hW (x := q % 9) (y := q / 9) (p := p) (by omega)).1
    have hA := bA q ⟨q0, q1, hc⟩
    have hB := bB q ⟨q0, q1, hc⟩
    rw [w, e, if_neg (by decide), if_pos (by decide), if_pos (by omega)]
    simp only [if_pos hc]
    rw [wr_id (x := A q) (by omega) (by omega), wr_id (x := B q) (by omega) (by omega)]
    refine ⟨fun h => ?_, fun h => ?_⟩
    · rw [if_neg (by omega)]
    · have h' : ¬ B q < A q := fun r => h (Or.inr ⟨by trivial, r⟩)
      rw [if_pos (by omega)]
  · have e : wR 1 = 1 := by unfold wR; rw [if_neg (by decide)]
    have hc := (wT_crn (op := op) hW (x := q % 9) (y := q / 9) (p := p) (by omega)).1
    have hA := bA q ⟨q0, q1, hc⟩
    have hB := bB q ⟨q0, q1, hc⟩
    rw [w, e, if_pos (by decide), if_pos (by omega), if_neg (c := wr 1 = 0) (by decide)]
    simp only [if_pos hc]
    rw [wr_id (x := A q) (by omega) (by omega), wr_id (x := B q) (by omega) (by omega)]
    refine ⟨fun h => ?_, fun h => ?_⟩
    · rw [if_pos (by omega)]
    · have h' : ¬ A q < B q := fun r => h (Or.inl ⟨by trivial, r⟩)
      rw [if_neg (by omega)]
/-- the class's search for a turn -/
theorem tow_s {M : Mem} {W H : Int} {op : Int → Bool} {p A B : Int → Int} (hy : YC M W H op) (hp : Pav W H op p) {a : Nat} (ha : ∀ q, iso W H op q = true → gI M (a + 1) q = p q) (g29 : ∀ q, 0 ≤ q → q < 81 → gI M 29 q = if crn W H op (q % 9) (q / 9) = true then A q else 0) (g30 : ∀ q, 0 ≤ q → q < 81 → gI M 30 q = if crn W H op (q % 9) (q / 9) = true then B q else 0) (bA : ∀ q, CO W H op q → -80 ≤ A q ∧ A q ≤ 80) (bB : ∀ q, CO W H op q → -80 ≤ B q ∧ B q ≤ 80) : ((∀ q, 0 ≤ q → q < 81 → ¬ Cw W H op p A B q) → ∃ z, itr (fun t => m_X1_turnToward_L23 t.2 a t.1) FU (1, M) = some (.inl (z, M))) ∧ (∀ q M2, 0 ≤ q → q < 81 → Cw W H op p A B q → (∀ j, 0 ≤ j → j < q → ¬ Cw W H op p A B j) → m_X1_makeTurn M a (q % 9) (q / 9) = some M2 → itr (fun t => m_X1_turnToward_L23 t.2 a t.1) FU (1, M) = some (.inr (16 * (q / 9) + q % 9, M2))) := by
  have hW := hy.2.2.1
  obtain ⟨a1, a2, a3, a4⟩ := hW
  have hW := hy.2.2.1
  have row : ∀ y, 1 ≤ y → y < H → ((∀ x, 1 ≤ x → x < W → ¬ Cw W H op p A B (9 * y + x)) → ∃ z, itr (fun t => m_X1_turnToward_L35 t.2 a y t.1) FU (1, M) = some (.inl (z, M))) ∧ (∀ x M2, 1 ≤ x → x < W → Cw W H op p A B (9 * y + x) → (∀ u, 1 ≤ u → u < x → ¬ Cw W H op p A B (9 * y + u)) → m_X1_makeTurn M a x y = some M2 → itr (fun t => m_X1_turnToward_L35 t.2 a y t.1) FU (1, M) = some (.inr (16 * y + x, M2))) := by
    intro y y0 y1
    refine ⟨fun hno => ?_, fun x M2 x0 x1 hc hno hm => ?_⟩
    · obtain ⟨r, e, z, hr⟩ := for_g (f := fun t => m_X1_turnToward_L35 t.2 a y t.1) 1 W (fun x t => t = (x, M)) (fun r => ∃ z, r = .inl (z, M)) (by
        rintro x _ x0 x1 rfl
        left
        refine ⟨_, (tow35_s hy hp ha g29 g30 bA bB x0 x1 y0 y1).2 (hno x x0 x1), rfl⟩) (by
        rintro _ rfl
        refine ⟨.inl (W, M), ?_, W, rfl⟩
        show m_X1_turnToward_L35 M a y W = _
        unfold m_X1_turnToward_L35
        rw [hy.1, if_pos (Int.le_refl _)]) (by omega) (by omega) (s0 := (1, M)) rfl
      exact ⟨z, by rw [e, hr]⟩
    · obtain ⟨r, e, hr⟩ := for_g (f := fun t => m_X1_turnToward_L35 t.2 a y t.1) 1 x (fun u t => t = (u, M)) (fun r => r = .inr (16 * y + x, M2)) (by
        rintro u _ u0 u1 rfl
        left
        refine ⟨_, (tow35_s hy hp ha g29 g30 bA bB u0 (by omega) y0 y1).2 (hno u u0 u1), rfl⟩) (by
        rintro _ rfl
        refine ⟨_, ?_, rfl⟩
        show m_X1_turnToward_L35 M a y x = _
        rw [(tow35_s hy hp ha g29 g30 bA bB x0 x1 y0 y1).1 hc, hm, bd1_q]) (by omega) (by omega) (s0 := (1, M)) rfl
      rw [e, hr]
  refine ⟨fun hno => ?_, fun q M2 q0 q1 hc hno hm => ?_⟩
  · obtain ⟨r, e, z, hr⟩ := for_g (f := fun t => m_X1_turnToward_L23 t.2 a t.1) 1 H (fun y t => t = (y, M)) (fun r => ∃ z, r = .inl (z, M)) (by
      rintro y _ y0 y1 rfl
      left
      show ∃ s2, m_X1_turnToward_L23 M a y = _ ∧ _
      obtain ⟨z, ez⟩ := (row y y0 y1).1 (fun x x0 x1 => hno _ (by omega) (by omega))
      unfold m_X1_turnToward_L23
      rw [hy.2.1, wr_id (x := H) (by omega) (by omega), wr_id (x := y) (by omega) (by omega), if_neg (by omega), ez, be2l_l]
      exact ⟨_, rfl, rfl⟩) (by
      rintro _ rfl
      refine ⟨.inl (H, M), ?_, H, rfl⟩
      show m_X1_turnToward_L23 M a H = _
      unfold m_X1_turnToward_L23
      rw [hy.2.1, if_pos (Int.le_refl _)]) (by omega) (by omega) (s0 := (1, M)) rfl
    exact ⟨z, by rw [e, hr]⟩
  · have hne : wT W H op p (q % 9) (q / 9) ≠ -1 := by
      rcases hc with h | h <;> omega
    have hr := (wT_crn hW hne).2
    obtain ⟨r, e, hr'⟩ := for_g (f := fun t => m_X1_turnToward_L23 t.2 a t.1) 1 (q / 9) (fun y t => t = (y, M)) (fun r => r = .inr (16 * (q / 9) + q % 9, M2)) (by
      rintro y _ y0 y1 rfl
      left
      show ∃ s2, m_X1_turnToward_L23 M a y = _ ∧ _
      obtain ⟨z, ez⟩ := (row y y0 (by omega)).1 (fun x x0 x1 => hno _ (by omega) (by omega))
      unfold m_X1_turnToward_L23
      rw [hy.2.1, wr_id (x := H) (by omega) (by omega), wr_id (x := y) (by omega) (by omega), if_neg (by omega), ez, be2l_l]
      exact ⟨_, rfl, rfl⟩) (by
      rintro _ rfl
      refine ⟨_, ?_, rfl⟩
      show m_X1_turnToward_L23 M a (q / 9) = _
      have eq9 : 9 * (q / 9) + q % 9 = q := by omega
      have er := (row (q / 9) hr.2.2.1 hr.2.2.2).2 (q % 9) M2 hr.1 hr.2.1 (by rw [eq9]; exact hc) (fun u u0 u1 => hno _ (by omega) (by omega)) hm
      unfold m_X1_turnToward_L23
      rw [hy.2.1, wr_id (x := H) (by omega) (by omega), wr_id (x := q / 9) (by omega) (by omega), if_neg (by omega), er, be2l_r]) (by omega) (by omega) (s0 := (1, M)) rfl
    rw [e, hr']
/-- the reference's -/
theorem towR_s {M : Mem} {W H : Int} {op : Int → Bool} {p A B : Int → Int} (hy : YR M W H op) (hp : Pav W H op p) {s : Int} (s0 : 0 ≤ s) (s1 : s < 4) (ha : ∀ q, iso W H op q = true → gI M 60 (64 * s + q) = p q) (g74 : ∀ q, 0 ≤ q → q < 81 → gI M 74 q = if crn W H op (q % 9) (q / 9) = true then A q else -1000) (g73 : ∀ q, 0 ≤ q → q < 81 → gI M 73 q = if crn W H op (q % 9) (q / 9) = true then B q else -1000) (bA : ∀ q, CO W H op q → -80 ≤ A q ∧ A q ≤ 80) (bB : ∀ q, CO W H op q → -80 ≤ B q ∧ B q ≤ 80) : ((∀ q, 0 ≤ q → q < 81 → ¬ Cw W H op p A B q) → ∃ z, itr (fun t => m_X12_toward_L35 t.2 s t.1) FU (0, M) = some (.inl (z, M))) ∧ (∀ q M2, 0 ≤ q → q < 81 → Cw W H op p A B q → (∀ j, 0 ≤ j → j < q → ¬ Cw W H op p A B j) → m_X12_across M s (q % 9) (q / 9) = some M2 → itr (fun t => m_X12_toward_L35 t.2 s t.1) FU (0, M) = some (.inr (16 * (q / 9) + q % 9, M2))) := by
  refine ⟨fun hno => ?_, fun q M2 q0 q1 hc hno hm => ?_⟩
  · obtain ⟨r, e, z, hr⟩ := for_g (f := fun t => m_X12_toward_L35 t.2 s t.1) 0 81 (fun x t => t = (x, M)) (fun r => ∃ z, r = .inl (z, M)) (by
      rintro x _ x0 x1 rfl
      left
      exact ⟨_, (towR35_s hy hp s0 s1 ha g74 g73 bA bB x0 x1).2 (hno x x0 x1), rfl⟩) (by
      rintro _ rfl
      refine ⟨.inl (81, M), ?_, 81, rfl⟩
      show m_X12_toward_L35 M s 81 = _
      unfold m_X12_toward_L35
      rw [if_pos (Int.le_refl _)]) (by omega) (by omega) (s0 := (0, M)) rfl
    exact ⟨z, by rw [e, hr]⟩
  · obtain ⟨r, e, hr⟩ := for_g (f := fun t => m_X12_toward_L35 t.2 s t.1) 0 q (fun u t => t = (u, M)) (fun r => r = .inr (16 * (q / 9) + q % 9, M2)) (by
      rintro u _ u0 u1 rfl
      left
      exact ⟨_, (towR35_s hy hp s0 s1 ha g74 g73 bA bB u0 (by omega)).2 (hno u u0 u1), rfl⟩) (by
      rintro _ rfl
      refine ⟨_, ?_, rfl⟩
      show m_X12_toward_L35 M s q = _
      rw [(towR35_s hy hp s0 s1 ha g74 g73 bA bB q0 q1).1 hc, hm, bd1_q]) q0 (by omega) (s0 := (0, M)) rfl
    rw [e, hr]
theorem op_toward {M : Mem} (hI : Inv M) {a b : Int} (ha : -2147483648 ≤ a) (ha2 : a ≤ 2147483647) (hb : -2147483648 ≤ b) (hb2 : b ≤ 2147483647) : OpI (fun M => m_X11_toward M a b) (fun M => m_X12_toward M a b) M := by
  have hI' := hI
  obtain ⟨W, H, op, wa, pr, hd, on, ts, tp, ln, sz, it, hA⟩ := hI'
  have hA' := hA
  obtain ⟨hC, hR, hwf, hD, hS⟩ := hA'
  have hW := hwf.1.1
  unfold OpI m_X11_toward m_X12_toward
  dsimp only
  obtain ⟨M1, e1, f1⟩ := wholeFault_s hC.1.1 hC.2.1.1 ha ha2 hb hb2
  rw [e1, bd2_q, wr_id ha ha2, wr_id hb hb2]
  have hC1 := hC.fr f1 (by decide)
  have hR1 := hR.fr f1 (by decide)
  have hsf : ∀ M', HDr M' hd → m_X12_refusesBoth M' a b = some (sfl hd a b) := fun M' h => refusesBoth_s h ha ha2 hb hb2
  rcases wf_c (hd := hd) (P := Who W H op) (a := a) (b := b) with ⟨e, c⟩ | ⟨e, c, d⟩ | ⟨e, c, d, nw⟩ | ⟨e, c, d, w⟩
  · have es : sfl hd a b = -1 := by unfold sfl; rw [if_neg c]
    refine ⟨-1, M1, M1, by rw [e]; rfl, ?_, W, H, op, wa, pr, hd, on, ts, tp, ln, sz, it, hA.quiet f1 (Fr.rf (ks := [])) (by decide) (by decide)⟩
    rw [hsf M1 hR1.2.1.1, bd1_q, es]; rfl
  · have es : sfl hd a b = -4 := by unfold sfl; rw [if_pos c, if_neg d]
    refine ⟨-4, M1, M1, by rw [e]; rfl, ?_, W, H, op, wa, pr, hd, on, ts, tp, ln, sz, it, hA.quiet f1 (Fr.rf (ks := [])) (by decide) (by decide)⟩
    rw [hsf M1 hR1.2.1.1, bd1_q, es]; rfl
  · have es : sfl hd a b = 0 := by unfold sfl; rw [if_pos c, if_pos d]
    obtain ⟨M2, e2, f2⟩ := isWholeR_s hR1.1.1
    refine ⟨-2, M1, M2, by rw [e]; rfl, ?_, W, H, op, wa, pr, hd, on, ts, tp, ln, sz, it, hA.quiet f1 f2 (by decide) (by decide)⟩
    rw [hsf M1 hR1.2.1.1, bd1_q, es, if_pos (by decide), e2, bd2_q, bp_f.mpr nw]; rfl
  · have es : sfl hd a b = 0 := by unfold sfl; rw [if_pos c, if_pos d]
    have hp := hwf.2.1 a c.1 c.2.1 d.1
    have hp' := hwf.2.1 b c.2.2.1 c.2.2.2 d.2
    obtain ⟨ph, f0, hph, hf⟩ := hts hR1.1.1 w hp
    obtain ⟨ph', -, hph', -⟩ := hts hR1.1.1 w hp'
    obtain ⟨Ma, M2, ea, e2, g29, g30, b1, b2, f2⟩ := twoC_s hC1.1.1 w hp hp' hph hph' hf (a := 39 + 2 * a.toNat) (b := 39 + 2 * b.toNat) (by omega) (by omega) (hC1.2.1.2 a c.1 c.2.1 d.1) (hC1.2.1.2 b c.2.2.1 c.2.2.2 d.2)
    have f12 : Fr [25, 26, 27, 29, 30, 31, 32, 33] M M2 := (f1.mono (by decide)).trans f2 (by decide)
    have hC2 := hC.fr f12 (by decide)
    have hR2 := hR.fr f12 (by decide)
    have tw := tow_s hC2.1.1 hp (a := 39 + 2 * a.toNat) (hC2.2.1.2 a c.1 c.2.1 d.1) g29 g30 b1 b2
    have hs := dA_s b1 b2 81 (Nat.le_refl _)
    rw [e, if_pos (by decide), if_pos ⟨c.1, c.2.1⟩, if_pos c.2.2]
    unfold m_X1_turnToward
    rw [ea, bd1_q, e2, bd1_q]
    rcases fst_or (fun q => Cw W H op (on a) (hgt ph f0) (hgt ph' f0) (q : Int)) 81 with hno | ⟨k, k1, k2, k3⟩
    · have hno' : ∀ q, 0 ≤ q → q < 81 → ¬ Cw W H op (on a) (hgt ph f0) (hgt ph' f0) q := fun q q0 q1 h => by
        refine hno q.toNat (by omega) ?_
        rw [Int.toNat_of_nonneg q0]; exact h
      obtain ⟨z, ez⟩ := tw.1 hno'
      obtain ⟨M3, e3, f3⟩ := isWholeR_s hR2.1.1
      have hR3 := hR2.fr f3 (by decide)
      obtain ⟨M4, e4, g74, g73⟩ := farOf_s w hf (a := a) (b := b) (M := M3) ⟨hR3.1.1, hp, hph, hR3.2.1.2 a c.1 c.2.1 d.1, ⟨c.1, c.2.1⟩, b1⟩ ⟨hR3.1.1, hp', hph', hR3.2.1.2 b c.2.2.1 c.2.2.2 d.2, c.2.2, b2⟩
      have f4 := fr_X12_farOf e4
      have f34 : Fr [71, 72, 73, 74] M2 M4 := (f3.mono (by decide)).trans f4 (by decide)
      have hR4 := hR2.fr f34 (by decide)
      obtain ⟨z2, ez2⟩ := (towR_s hR4.1.1 hp c.1 c.2.1 (hR4.2.1.2 a c.1 c.2.1 d.1) g74 g73 b1 b2).1 hno'
      refine ⟨-2, M2, M4, ?_, ?_, W, H, op, wa, pr, hd, on, ts, tp, ln, sz, it, hA.quiet f12 f34 (by decide) (by decide)⟩
      · rw [ez]; rfl
      · rw [hsf M2 hR2.2.1.1, bd1_q, es, if_pos (by decide), e3, bd2_q, bp_t.mpr w, if_neg (by decide), e4, bd2_q, ez2]
        split <;> rfl
    · have hne : wT W H op (on a) ((k : Int) % 9) ((k : Int) / 9) ≠ -1 := by
        rcases k2 with h | h <;> omega
      have hcr := (wT_crn hW hne).1
      obtain ⟨M3, e3, g3⟩ := makeTurn_s hC2.1.1 hp (a := 39 + 2 * a.toNat) (by omega) (hC2.2.1.2 a c.1 c.2.1 d.1) hne
      have f3 := fr_X1_makeTurn e3
      have ez := tw.2 k M3 (by omega) (by omega) k2 (fun j j0 j1 h => k3 j.toNat (by omega) (by rw [Int.toNat_of_nonneg j0]; exact h)) e3
      have hR3 : YR M3 W H op ∧ HDr M3 hd ∧ ONr M3 W H op a (on a) ∧ ONr M3 W H op b (on b) := ⟨hR2.1.1.fr f3 (by simp; omega) (by simp; omega), hR2.2.1.1.fr f3 (by simp; omega), fun q hq => (fI f3 (by simp; omega) _).trans (hR2.2.1.2 a c.1 c.2.1 d.1 q hq), fun q hq => (fI f3 (by simp; omega) _).trans (hR2.2.1.2 b c.2.2.1 c.2.2.2 d.2 q hq)⟩
      obtain ⟨M4, e4, f4⟩ := isWholeR_s hR3.1
      have hR4 : YR M4 W H op ∧ ONr M4 W H op a (on a) ∧ ONr M4 W H op b (on b) := ⟨hR3.1.fr f4 (by decide) (by decide), fun q hq => (fI f4 (by decide) _).trans (hR3.2.2.1 q hq), fun q hq => (fI f4 (by decide) _).trans (hR3.2.2.2 q hq)⟩
      obtain ⟨M5, e5, g74, g73⟩ := farOf_s w hf (a := a) (b := b) (M := M4) ⟨hR4.1, hp, hph, hR4.2.1, ⟨c.1, c.2.1⟩, b1⟩ ⟨hR4.1, hp', hph', hR4.2.2, c.2.2, b2⟩
      have f5 := fr_X12_farOf e5
      have hR5 : YR M5 W H op ∧ ONr M5 W H op a (on a) := ⟨hR4.1.fr f5 (by decide) (by decide), fun q hq => (fI f5 (by decide) _).trans (hR4.2.1 q hq)⟩
      obtain ⟨M6, e6, g6, k6⟩ := across_s hR5.1 hp c.1 c.2.1 hR5.2 hne
      have f6 := fr_X12_across e6
      have ez2 := (towR_s hR5.1 hp c.1 c.2.1 hR5.2 g74 g73 b1 b2).2 k M6 (by omega) (by omega) k2 (fun j j0 j1 h => k3 j.toNat (by omega) (by rw [Int.toNat_of_nonneg j0]; exact h)) e6
      have f46 : Fr [60, 71, 72, 73, 74] M3 M6 := ((f4.mono (by decide)).trans f5 (by decide)).trans f6 (by decide)
      -- the distance is not 0
      have hdist : sm 81 (dA W H op (hgt ph f0) (hgt ph' f0)) / 4 ≠ 0 := by
        have h1 := hs.2.2 k (by omega) (by omega)
        have h2 := mod4 hW w hp hp' hph hph' hf (q := (k : Int)) ⟨by omega, by omega, hcr⟩
        have h3 : hgt ph f0 k ≠ hgt ph' f0 k := by rcases k2 with h | h <;> omega
        have h4 : 4 ≤ dA W H op (hgt ph f0) (hgt ph' f0) k := by
          unfold dA
          rw [if_pos hcr]
          unfold hgt at h3 ⊢
          split <;> omega
        omega
      have hk9 : 0 ≤ (k : Int) / 9 ∧ (k : Int) / 9 ≤ 8 := by omega
      refine ⟨16 * ((k : Int) / 9) + (k : Int) % 9, M3, M6, ?_, ?_, W, H, op, wa, pr, _, _, ts, tp, ln, sz, it, hA.slotS c.1 c.2.1 f12 (by decide) (hD.fr f12 (by decide) (by decide)) (hS.fr f12 (by decide) (by decide) (by decide) (by decide)) (f3.mono (by simp)) ?_ g3 f46 (by decide) (fun j _ _ _ => fI f46 (by decide) j) ?_ ?_ g6 (tP_pav hW hp hne)⟩
      · rw [ez, be2_r, bd2_q, wr_id (x := 16 * ((k : Int) / 9) + (k : Int) % 9) (by omega) (by omega), if_pos (by omega), lt_q]
      · have hnz : ¬ wr (sm 81 (dA W H op (hgt ph f0) (hgt ph' f0)) / 4) = 0 := by
          rw [wr_id (by omega) (by omega)]; exact hdist
        rw [hsf M3 hR3.2.1, bd1_q, es, if_pos (by decide), e4, bd2_q, bp_t.mpr w, if_neg (by decide), e5, bd2_q, if_neg hnz, ez2, be2_r]
      · rw [fI f3 (by simp), hC2.2.1.1 a c.1 c.2.1, d.1]; rfl
      · intro j hj
        rw [k6 j hj, fI f5 (by decide), fI f4 (by decide)]
      · rw [fI f46 (by decide), hR3.2.1 a c.1 c.2.1, d.1]; rfl
