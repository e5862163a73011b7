/-! whether a yard is whole: closed cells and corners, the class -/
def clsd (W H : Int) (op : Int → Bool) (x y : Int) : Bool := decide (0 ≤ x ∧ x ≤ W + 1 ∧ 0 ≤ y ∧ y ≤ H + 1) && !opn W H op (x - 1) (y - 1)
def nbC (W H : Int) (op : Int → Bool) (p k : Int) : Int := if clsd W H op (p % 10 + k % 3 - 1) (p / 10 + k / 3 - 1) = true then (p / 10 + k / 3 - 1) * 10 + (p % 10 + k % 3 - 1) else -1
theorem isClosed_s {M : Mem} {W H : Int} {op : Int → Bool} (hy : YC M W H op) {x y : Int} (x0 : -100 ≤ x) (x1 : x ≤ 100) (y0 : -100 ≤ y) (y1 : y ≤ 100) : m_X5_isClosed M x y = some (clsd W H op x y) := by
  have hW := hy.2.2.1
  have hW' := hW
  obtain ⟨a1, a2, a3, a4⟩ := hW'
  unfold m_X5_isClosed clsd
  rw [hy.1, hy.2.1, wr_id (x := x) (by omega) (by omega), wr_id (x := y) (by omega) (by omega), wr_id (x := W + 1) (by omega) (by omega), wr_id (x := H + 1) (by omega) (by omega), openAt_s hy (wr_id (by omega) (by omega)) (wr_id (by omega) (by omega)), bd1_q, oAt_wr hW, lt_q]
  simp only [oAt_ge hW]
  by_cases c1 : x < 0
  · rw [if_pos c1, decide_eq_false (by omega)]; rfl
  rw [if_neg c1]
  by_cases c2 : W + 1 < x
  · rw [if_pos c2, decide_eq_false (by omega)]; rfl
  rw [if_neg c2]
  by_cases c3 : y < 0
  · rw [if_pos c3, decide_eq_false (by omega)]; rfl
  rw [if_neg c3]
  by_cases c4 : y ≤ H + 1
  · rw [if_pos c4, decide_eq_true (p := 0 ≤ x ∧ x ≤ W + 1 ∧ 0 ≤ y ∧ y ≤ H + 1) (by omega)]
    cases opn W H op (x - 1) (y - 1) <;> rfl
  · rw [if_neg c4, decide_eq_false (by omega)]; rfl
theorem nbC_r {W H : Int} {op : Int → Bool} (hW : WHr W H) (p k : Int) : nbC W H op p k = -1 ∨ (0 ≤ nbC W H op p k ∧ nbC W H op p k < 100) := by
  obtain ⟨a1, a2, a3, a4⟩ := hW
  unfold nbC
  by_cases z : clsd W H op (p % 10 + k % 3 - 1) (p / 10 + k / 3 - 1) = true
  · rw [if_pos z]
    unfold clsd at z
    simp only [Bool.and_eq_true, decide_eq_true_eq] at z
    omega
  · rw [if_neg z]; exact Or.inl rfl
theorem closedIsOne_s {M : Mem} {W H : Int} {op : Int → Bool} (hy : YC M W H op) : ∃ n L M2, WV (nbC W H op) 9 0 n L ∧ m_X5_closedIsOne M = some (decide (n = (W + 2) * (H + 2) - nOp W H op), M2) ∧ Fr [25, 26, 27] M M2 := by
  have hW := hy.2.2.1
  have h8 := WH_le hW
  have hW' := hW
  obtain ⟨w1', w2', w3', w4'⟩ := hW'
  have hnr := nOp_r W H op hW
  obtain ⟨M1, e1, h1⟩ := clear_s M 25 (fun _ => 0)
  have f1 : Fr [25, 26, 27] M M1 := (fr_X9_clear e1).mono (by decide)
  have hnw : nwp 0 (fun _ => 0) 0 := ⟨by omega, by omega, fun ⟨j, j0, j1, _⟩ => by omega⟩
  obtain ⟨M2, e2, r1, r2⟩ := reach_s h1 (by omega) (q := 0) (by decide) (fun _ => by omega)
  unfold adN adL' at r1
  rw [bp_t.mpr hnw, if_pos rfl, if_pos rfl] at r1
  have f2 : Fr [25, 26, 27] M M2 := f1.trans r2 (by decide)
  obtain ⟨⟨y, M3⟩, e3, n, L, g1, g2, g3⟩ := for_g (f := fun s => m_X5_closedIsOne_L18 s.2 s.1) 0 100 (fun i s => s.1 = i ∧ ∃ n L, PW (nbC W H op) 9 0 n L i 0 ∧ WVm s.2 25 n L ∧ Fr [25, 26, 27] M s.2 ∧ i ≤ n) (fun r => ∃ n L, WV (nbC W H op) 9 0 n L ∧ WVm r.2 25 n L ∧ Fr [25, 26, 27] M r.2) (by
    rintro i ⟨x, M'⟩ i0 i1 ⟨g0, n, L, g1, g2, g3, g4⟩
    dsimp only at g0 g2 g3
    subst g0
    have hn := PW_100 g1
    show (∃ s2, m_X5_closedIsOne_L18 M' x = _ ∧ _) ∨ (∃ s2, m_X5_closedIsOne_L18 M' x = _ ∧ _)
    unfold m_X5_closedIsOne_L18
    rw [show wr 100 = 100 by decide, wr_id (x := x) (by omega) (by omega), if_neg (c := (100 : Int) ≤ x) (by omega), g2.1, wr_id (x := n) (by have := g1.1; omega) (by omega)]
    by_cases z : n ≤ x
    · rw [if_pos z]
      have : x = n := by omega
      subst this
      exact Or.inr ⟨_, rfl, x, L, g1, g2, g3⟩
    · rw [if_neg z]
      left
      obtain ⟨⟨k', M3⟩, e3, n3, L3, q1, q2, q3, q4, q5⟩ := for_g (f := fun s => m_X5_closedIsOne_L37 s.2 x s.1) 0 9 (fun k s => s.1 = k ∧ ∃ n' L', PW (nbC W H op) 9 0 n' L' x k ∧ WVm s.2 25 n' L' ∧ Fr [25, 26, 27] M s.2 ∧ n ≤ n' ∧ x < n') (fun r => ∃ n' L', PW (nbC W H op) 9 0 n' L' x 9 ∧ WVm r.2 25 n' L' ∧ Fr [25, 26, 27] M r.2 ∧ n ≤ n' ∧ x < n') (by
        rintro k ⟨k', M3⟩ k0 k1 ⟨w0, n', L', w1, w2, w3, w4, w5⟩
        dsimp only at w0 w2 w3
        subst w0
        left
        have hn' := PW_100 w1
        have hLx := w1.2.2.1 x i0 w5
        have hy' := hy.fr w3 (by decide) (by decide)
        show ∃ s2, m_X5_closedIsOne_L37 M3 x k' = _ ∧ _
        unfold m_X5_closedIsOne_L37
        rw [show wr 9 = 9 by decide, wr_id (x := k') (by omega) (by omega), if_neg (by omega), wr_id (x := x) (by omega) (by omega), if_pos (by omega), w2.2.1 x i0 w5, irm_p hLx.1 (by omega) (by omega) (by omega), idv_p hLx.1 (by omega) (by omega) (by omega), irm_p k0 (by omega) (by omega) (by omega), idv_p k0 (by omega) (by omega) (by omega), isClosed_s hy' (by omega) (by omega) (by omega) (by omega), bd1_q]
        simp only [wrb]
        have hb := nbC_r (op := op) hW (L' x) k'
        obtain ⟨M4, e4, r1, r2⟩ := reach_s w2 (by have := w1.1; omega) (q := nbC W H op (L' x) k') (wr_id (by omega) (by omega)) (fun y => PW_room w1 y)
        obtain ⟨a1, a2, a3⟩ := PW_add w1 i0 w5 k0 k1
        cases hc : clsd W H op (L' x % 10 + k' % 3 - 1) (L' x / 10 + k' / 3 - 1)
        · rw [if_ff, bd1_q]
          have hnb : nbC W H op (L' x) k' = -1 := by
            unfold nbC
            rw [hc, if_neg (by decide)]
          have hno : ¬ nwp n' L' (nbC W H op (L' x) k') := fun y => by have := y.1; omega
          have ea : adN n' L' (nbC W H op (L' x) k') = n' := by unfold adN; rw [bp_f.mpr hno, if_neg (by decide)]
          have eb : adL' n' L' (nbC W H op (L' x) k') = L' := by unfold adL'; rw [bp_f.mpr hno, if_neg (by decide)]
          rw [ea, eb] at a1
          exact ⟨_, rfl, rfl, _, _, a1, w2, w3, w4, w5⟩
        · have hnb : (L' x / 10 + k' / 3 - 1) * 10 + (L' x % 10 + k' % 3 - 1) = nbC W H op (L' x) k' := by
            unfold nbC
            rw [hc, if_pos rfl]
          rw [if_tf, hnb, e4, bd2_q, bd1_q]
          exact ⟨_, rfl, rfl, _, _, a1, r1, w3.trans r2 (by decide), by omega, by omega⟩) (by
        rintro ⟨k', M3⟩ ⟨w0, n', L', w1, w2, w3, w4, w5⟩
        dsimp only at w0 w2 w3
        subst w0
        show ∃ s2, m_X5_closedIsOne_L37 M3 x 9 = _ ∧ _
        unfold m_X5_closedIsOne_L37
        rw [if_pos (by decide)]
        exact ⟨_, rfl, n', L', w1, w2, w3, w4, w5⟩) (by omega) (by omega) (s0 := (0, M')) ⟨rfl, n, L, g1, g2, g3, by omega, by omega⟩
      rw [e3, bd2_q]
      exact ⟨_, rfl, rfl, n3, L3, PW_next q1 i0, q2, q3, by omega⟩) (by
    rintro ⟨x, M'⟩ ⟨g0, n, L, g1, g2, g3, g4⟩
    dsimp only at g0 g2 g3
    subst g0
    have hn := PW_100 g1
    show ∃ s2, m_X5_closedIsOne_L18 M' 100 = _ ∧ _
    unfold m_X5_closedIsOne_L18
    rw [if_pos (Int.le_refl _)]
    have : n = 100 := by omega
    subst this
    exact ⟨_, rfl, 100, L, g1, g2, g3⟩) (by omega) (by omega) (s0 := (0, M2)) ⟨rfl, 1, up1 (fun _ => 0) 0 0, PW_1 _ _ _ _ up1_e (by omega) (by omega), r1, f2, by omega⟩
  dsimp only at g2 g3
  have hn := PW_100 g1
  have hn1 := g1.1
  have hy3 := hy.fr g3 (by decide) (by decide)
  have hp : 0 ≤ (W + 2) * (H + 2) ∧ (W + 2) * (H + 2) ≤ 100 := by
    rcases W8 w1' w2' with q | q | q | q | q | q | q | q <;> rw [q] <;> omega
  refine ⟨n, L, M3, g1, ?_, g3⟩
  unfold m_X5_closedIsOne
  rw [e1, bd1_q, e2, bd2_q, e3, bd2_q, openCells_s hy3, bd1_q, g2.1, hy3.1, hy3.2.1, wr_id (x := n) (by omega) (by omega), wr_id (x := (W + 2) * (H + 2) - nOp W H op) (by omega) (by omega), lt_q]
  by_cases z : n = (W + 2) * (H + 2) - nOp W H op
  · rw [if_pos z, decide_eq_true z]; rfl
  · rw [if_neg z, decide_eq_false z]; rfl
/-- a corner where two open cells touch, and no side -/
def ckb (W H : Int) (op : Int → Bool) (x y : Int) : Prop := opn W H op (x - 1) (y - 1) = opn W H op x y ∧ opn W H op x (y - 1) = opn W H op (x - 1) y ∧ opn W H op (x - 1) (y - 1) ≠ opn W H op x (y - 1)
def tCb (W H : Int) (op : Int → Bool) : Prop := ∃ x y, 1 ≤ x ∧ x < W ∧ 1 ≤ y ∧ y < H ∧ ckb W H op x y
