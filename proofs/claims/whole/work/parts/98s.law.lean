/-! the law: every run of calls -/
theorem lawI {f g : Mem → Option (Int × Mem)} {M : Mem} {x : Int} (h : OpI f g M) : ∃ M2, (bd2 (f M) fun r7 M8 => bd2 (g M8) fun r10 M11 => if wr r7 = wr r10 then some (.inl (x, M11)) else some (.inr (.inr (false, M11)))) = some (.inl (x, M2) : (Int × Mem) ⊕ ((Int × Mem) ⊕ (Bool × Mem))) ∧ Inv M2 := by
  obtain ⟨a, M1, M2, e1, e2, h2⟩ := h
  rw [e1, bd2_q, e2, bd2_q, if_pos rfl]
  exact ⟨M2, rfl, h2⟩
theorem lawL {f g : Mem → Option (Int64 × Mem)} {M : Mem} {x : Int} (h : OpL f g M) : ∃ M2, (bd2 (f M) fun r7 M8 => bd2 (g M8) fun r10 M11 => if r7 = r10 then some (.inl (x, M11)) else some (.inr (.inr (false, M11)))) = some (.inl (x, M2) : (Int × Mem) ⊕ ((Int × Mem) ⊕ (Bool × Mem))) ∧ Inv M2 := by
  obtain ⟨a, M1, M2, e1, e2, h2⟩ := h
  rw [e1, bd2_q, e2, bd2_q, if_pos rfl]
  exact ⟨M2, rfl, h2⟩
theorem lawP {f g : Option Int} {M : Mem} {x : Int} (h : ∃ r, f = some r ∧ g = some r) (hI : Inv M) : ∃ M2, (bd1 f fun r7 => bd1 g fun r10 => if wr r7 = wr r10 then some (.inl (x, M)) else some (.inr (.inr (false, M)))) = some (.inl (x, M2) : (Int × Mem) ⊕ ((Int × Mem) ⊕ (Bool × Mem))) ∧ Inv M2 := by
  obtain ⟨r, e1, e2⟩ := h
  rw [e1, bd1_q, e2, bd1_q, if_pos rfl]
  exact ⟨M, rfl, hI⟩
theorem law18_s {M : Mem} (hI : Inv M) {L : Nat} {xs : Int → Int} (hL : L ≤ 3072) (hx : ∀ j : Int, -2147483648 ≤ xs j ∧ xs j ≤ 2147483647) {x : Int} (x0 : 0 ≤ x) (x1 : x + 6 ≤ L) : ∃ M2, m_L_law_L18 L xs M x = some (.inl (x + 6, M2)) ∧ Inv M2 := by
  have w : ∀ k, 0 ≤ k → k < 6 → wr (x + k) = x + k := fun k _ _ => wr_id (by omega) (by omega)
  have w0 : wr x = x := wr_id (by omega) (by omega)
  have wL : wr ((L : Int) - 6) = (L : Int) - 6 := wr_id (by omega) (by omega)
  have b1 : 0 ≤ wr (x + 1) ∧ wr (x + 1) < (L : Int) := by rw [w 1 (by omega) (by omega)]; omega
  have b2 : 0 ≤ wr (x + 2) ∧ wr (x + 2) < (L : Int) := by rw [w 2 (by omega) (by omega)]; omega
  have b3 : 0 ≤ wr (x + 3) ∧ wr (x + 3) < (L : Int) := by rw [w 3 (by omega) (by omega)]; omega
  have b4 : 0 ≤ wr (x + 4) ∧ wr (x + 4) < (L : Int) := by rw [w 4 (by omega) (by omega)]; omega
  have b5 : 0 ≤ wr (x + 5) ∧ wr (x + 5) < (L : Int) := by rw [w 5 (by omega) (by omega)]; omega
  unfold m_L_law_L18
  rw [if_neg (by rw [wL, w0]; omega), if_pos (c := 0 ≤ wr x ∧ wr x < (L : Int)) (by rw [w0]; omega)]
  generalize wr (iand (xs (wr x)) 63) = o
  generalize hy1 : xs (wr (x + 1)) = y1
  generalize hy2 : xs (wr (x + 2)) = y2
  generalize hy3 : xs (wr (x + 3)) = y3
  generalize hy4 : xs (wr (x + 4)) = y4
  generalize hy5 : xs (wr (x + 5)) = y5
  have r1 : -2147483648 ≤ y1 ∧ y1 ≤ 2147483647 := hy1 ▸ hx _
  have r2 : -2147483648 ≤ y2 ∧ y2 ≤ 2147483647 := hy2 ▸ hx _
  have r3 : -2147483648 ≤ y3 ∧ y3 ≤ 2147483647 := hy3 ▸ hx _
  have r4 : -2147483648 ≤ y4 ∧ y4 ≤ 2147483647 := hy4 ▸ hx _
  have r5 : -2147483648 ≤ y5 ∧ y5 ≤ 2147483647 := hy5 ▸ hx _
  by_cases c0 : o = 0
  · rw [if_pos c0, if_pos b1, if_pos b2]
    exact lawI (x := x + 6) (op_yard hI r1.1 r1.2 r2.1 r2.2)
  rw [if_neg c0]
  by_cases c1 : o = 1
  · rw [if_pos c1, if_pos b1, if_pos b2]
    have hv : (if wr y2 = 0 then (0 : Int) else 1) = bI (!decide (wr y2 = 0)) := by
      by_cases z : wr y2 = 0
      · rw [if_pos z, decide_eq_true z]; rfl
      · rw [if_neg z, decide_eq_false z]; rfl
    simp only [lt_q, hv]
    exact lawI (x := x + 6) (op_cell hI r1.1 r1.2 (!decide (wr y2 = 0)))
  rw [if_neg c1]
  by_cases c2 : o = 2
  · rw [if_pos c2, if_pos b1, if_pos b2, if_pos b3]
    exact lawI (x := x + 6) (op_type hI _ r3.1 r3.2)
  rw [if_neg c2]
  by_cases c3 : o = 3
  · rw [if_pos c3]
    exact lawI (x := x + 6) (op_read hI )
  rw [if_neg c3]
  by_cases c4 : o = 4
  · rw [if_pos c4, if_pos b1, if_pos b2, if_pos b3]
    exact lawI (x := x + 6) (op_lay hI r1.1 r1.2 r2.1 r2.2 r3.1 r3.2)
  rw [if_neg c4]
  by_cases c5 : o = 5
  · rw [if_pos c5, if_pos b1]
    exact lawP (x := x + 6) (op_count hI r1.1 r1.2) hI
  rw [if_neg c5]
  by_cases c6 : o = 6
  · rw [if_pos c6, if_pos b1, if_pos b2]
    exact lawI (x := x + 6) (op_want hI r1.1 r1.2 r2.1 r2.2)
  rw [if_neg c6]
  by_cases c7 : o = 7
  · rw [if_pos c7, if_pos b1, if_pos b2]
    exact lawI (x := x + 6) (op_price hI r1.1 r1.2 r2.1 r2.2)
  rw [if_neg c7]
  by_cases c8 : o = 8
  · rw [if_pos c8]
    exact lawL (x := x + 6) (op_pavings hI )
  rw [if_neg c8]
  by_cases c9 : o = 9
  · rw [if_pos c9, if_pos b1]
    exact lawL (x := x + 6) (op_share hI r1.1 r1.2)
  rw [if_neg c9]
  by_cases c10 : o = 10
  · rw [if_pos c10, if_pos b1]
    exact lawI (x := x + 6) (op_sure hI r1.1 r1.2)
  rw [if_neg c10]
  by_cases c11 : o = 11
  · rw [if_pos c11, if_pos b1, if_pos b2, if_pos b3]
    exact lawI (x := x + 6) (op_place hI r1.1 r1.2 _)
  rw [if_neg c11]
  by_cases c12 : o = 12
  · rw [if_pos c12, if_pos b1]
    exact lawL (x := x + 6) (op_rank hI r1.1 r1.2)
  rw [if_neg c12]
  by_cases c13 : o = 13
  · rw [if_pos c13, if_pos b1, if_pos b2]
    exact lawP (x := x + 6) (op_brick hI r1.1 r1.2 r2.1 r2.2) hI
  rw [if_neg c13]
  by_cases c14 : o = 14
  · rw [if_pos c14, if_pos b1]
    exact lawI (x := x + 6) (op_cheapest hI r1.1 r1.2)
  rw [if_neg c14]
  by_cases c15 : o = 15
  · rw [if_pos c15, if_pos b1]
    exact lawP (x := x + 6) (op_cost hI r1.1 r1.2) hI
  rw [if_neg c15]
  by_cases c16 : o = 16
  · rw [if_pos c16, if_pos b1, if_pos b2]
    exact lawI (x := x + 6) (op_keep hI r1.1 r1.2 r2.1 r2.2)
  rw [if_neg c16]
  by_cases c17 : o = 17
  · rw [if_pos c17, if_pos b1, if_pos b2, if_pos b3]
    exact lawI (x := x + 6) (op_bricks hI r1.1 r1.2 r2.1 r2.2 r3.1 r3.2)
  rw [if_neg c17]
  by_cases c18 : o = 18
  · rw [if_pos c18]
    exact lawI (x := x + 6) (op_most hI )
  rw [if_neg c18]
  by_cases c19 : o = 19
  · rw [if_pos c19, if_pos b1, if_pos b2]
    exact lawI (x := x + 6) (op_bar hI r1.1 r1.2 r2.1 r2.2)
  rw [if_neg c19]
  by_cases c20 : o = 20
  · rw [if_pos c20, if_pos b1, if_pos b2]
    exact lawI (x := x + 6) (op_bars hI r1.1 r1.2 r2.1 r2.2)
  rw [if_neg c20]
  by_cases c21 : o = 21
  · rw [if_pos c21]
    exact lawI (x := x + 6) (op_whole hI )
  rw [if_neg c21]
  by_cases c22 : o = 22
  · rw [if_pos c22, if_pos b1, if_pos b2, if_pos b3]
    exact lawI (x := x + 6) (op_height hI r1.1 r1.2 r2.1 r2.2 r3.1 r3.2)
  rw [if_neg c22]
  by_cases c23 : o = 23
  · rw [if_pos c23, if_pos b1, if_pos b2, if_pos b3]
    exact lawI (x := x + 6) (op_turn hI r1.1 r1.2 r2.1 r2.2 r3.1 r3.2)
  rw [if_neg c23]
  by_cases c24 : o = 24
  · rw [if_pos c24, if_pos b1, if_pos b2]
    exact lawI (x := x + 6) (op_turns hI r1.1 r1.2 r2.1 r2.2)
  rw [if_neg c24]
  by_cases c25 : o = 25
  · rw [if_pos c25, if_pos b1, if_pos b2]
    exact lawI (x := x + 6) (op_settle hI r1.1 r1.2 r2.1 r2.2)
  rw [if_neg c25]
  by_cases c26 : o = 26
  · rw [if_pos c26, if_pos b1, if_pos b2]
    exact lawI (x := x + 6) (op_far hI r1.1 r1.2 r2.1 r2.2)
  rw [if_neg c26]
  by_cases c27 : o = 27
  · rw [if_pos c27, if_pos b1, if_pos b2]
    exact lawI (x := x + 6) (op_toward hI r1.1 r1.2 r2.1 r2.2)
  rw [if_neg c27]
  by_cases c28 : o = 28
  · rw [if_pos c28, if_pos b1]
    exact lawP (x := x + 6) (op_lines hI r1.1 r1.2) hI
  rw [if_neg c28]
  by_cases c29 : o = 29
  · rw [if_pos c29]
    exact lawL (x := x + 6) (op_sound hI )
  rw [if_neg c29]
  by_cases c30 : o = 30
  · rw [if_pos c30, if_pos b1, if_pos b2]
    exact lawI (x := x + 6) (op_rings hI r1.1 r1.2 r2.1 r2.2)
  rw [if_neg c30]
  by_cases c31 : o = 31
  · rw [if_pos c31, if_pos b1, if_pos b2, if_pos b3]
    exact lawI (x := x + 6) (op_ring hI r1.1 r1.2 r2.1 r2.2 r3.1 r3.2)
  rw [if_neg c31]
  by_cases c32 : o = 32
  · rw [if_pos c32, if_pos b1, if_pos b2, if_pos b3]
    exact lawI (x := x + 6) (op_wind hI r1.1 r1.2 r2.1 r2.2 r3.1 r3.2)
  rw [if_neg c32]
  by_cases c33 : o = 33
  · rw [if_pos c33, if_pos b1, if_pos b2, if_pos b3]
    exact lawI (x := x + 6) (op_sheet hI r1.1 r1.2 r2.1 r2.2 r3.1 r3.2)
  rw [if_neg c33]
  by_cases c34 : o = 34
  · rw [if_pos c34, if_pos b1]
    exact lawI (x := x + 6) (op_drop hI r1.1 r1.2)
  rw [if_neg c34]
  by_cases c35 : o = 35
  · rw [if_pos c35, if_pos b1, if_pos b2, if_pos b3, if_pos b4]
    exact lawI (x := x + 6) (op_item hI r1.1 r1.2 r2.1 r2.2 r3.1 r3.2 r4.1 r4.2)
  rw [if_neg c35]
  by_cases c36 : o = 36
  · rw [if_pos c36, if_pos b1, if_pos b2, if_pos b3, if_pos b4, if_pos b5]
    exact lawI (x := x + 6) (op_copy hI r1.1 r1.2 r2.1 r2.2 r3.1 r3.2 r4.1 r4.2 r5.1 r5.2)
  rw [if_neg c36]
  exact ⟨M, rfl, hI⟩
theorem law_s {M : Mem} (hI : Inv M) (L : Nat) (xs : Int → Int) (hL : L ≤ 3072) (hx : ∀ j : Int, -2147483648 ≤ xs j ∧ xs j ≤ 2147483647) : ∃ M3, m_L_law L xs M = some (true, M3) := by
  unfold m_L_law
  obtain ⟨r, e, y, M2, hr⟩ := for_g (f := fun t => m_L_law_L18 L xs t.2 t.1) 0 ((L : Int) / 6) (fun i t => t.1 = 6 * i ∧ Inv t.2) (fun r => ∃ y M2, r = .inl (y, M2)) (by
    rintro i ⟨x, M'⟩ i0 i1 ⟨g0, g1⟩
    dsimp only at g0 g1
    left
    obtain ⟨M2, e2, h2⟩ := law18_s g1 hL hx (x := x) (by omega) (by omega)
    exact ⟨_, e2, by dsimp only; omega, h2⟩) (by
    rintro ⟨x, M'⟩ ⟨g0, g1⟩
    dsimp only at g0 g1
    refine ⟨.inl (x, M'), ?_, x, M', rfl⟩
    show m_L_law_L18 L xs M' x = _
    unfold m_L_law_L18
    rw [if_pos (by rw [wr_id (x := (L : Int) - 6) (by omega) (by omega), wr_id (x := x) (by omega) (by omega)]; omega)]) (by omega) (by omega) (s0 := (0, M)) ⟨rfl, hI⟩
  rw [e, hr, be2_l]
  exact ⟨M2, rfl⟩
