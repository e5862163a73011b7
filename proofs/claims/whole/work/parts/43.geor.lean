/-! cells and bricks: the reference's words -/
theorem isCellR_s {M : Mem} {W H : Int} {op : Int → Bool} (hy : YR M W H op) {c : Int} (ha : -2147483648 ≤ c) (ha2 : c ≤ 2147483647) : m_X12_isCell M c = some (isc W H c) := by
  obtain ⟨h1, h2, h3, h4⟩ := hy
  have h8 := WH_le h3
  unfold m_X12_isCell isc
  rw [h1, h2, l_0, in_s ha ha2 (by omega) (by omega) (by omega) (by omega), bd1_q]
  congr 1
  exact decide_eq_decide.mpr (by omega)
theorem isOpenAtR_s {M : Mem} {W H : Int} {op : Int → Bool} (hy : YR M W H op) {x y : Int} (hx1 : -2147483648 ≤ x) (hx2 : x ≤ 2147483647) (hy1 : -2147483648 ≤ y) (hy2 : y ≤ 2147483647) : m_X12_isOpenAt M x y = some (opn W H op x y) := by
  obtain ⟨h1, h2, h3, h4⟩ := hy
  have h8 := WH_le h3
  have h3' := h3
  obtain ⟨a1, a2, a3, a4⟩ := h3'
  unfold m_X12_isOpenAt opn
  rw [h1, h2, l_0, in_s hx1 hx2 (by omega) (by omega) (by omega) (by omega), in_s hy1 hy2 (by omega) (by omega) (by omega) (by omega), bd1_q, bd1_q]
  by_cases c1 : 0 ≤ x ∧ x < W ∧ 0 ≤ y ∧ y < H
  · have h6 := xy_c h3 c1.1 c1.2.1 c1.2.2.1 c1.2.2.2
    rw [Int.mul_comm W y, show decide (0 ≤ x ∧ x ≤ W - 1) = true from decide_eq_true (by omega), show decide (0 ≤ y ∧ y ≤ H - 1) = true from decide_eq_true (by omega), show decide (0 ≤ x ∧ x < W ∧ 0 ≤ y ∧ y < H) = true from decide_eq_true c1, if_neg (by decide), if_neg (by decide), wr_id (by omega) (by omega), if_pos (by omega), h4 _ (by omega) (by omega), wr_bI]
    cases op (y * W + x) <;> simp [bI, bd1_q]
  · rw [show decide (0 ≤ x ∧ x < W ∧ 0 ≤ y ∧ y < H) = false from decide_eq_false c1]
    by_cases e1 : 0 ≤ x ∧ x ≤ W - 1
    · rw [show decide (0 ≤ x ∧ x ≤ W - 1) = true from decide_eq_true e1, show decide (0 ≤ y ∧ y ≤ H - 1) = false from decide_eq_false (by omega)]
      rfl
    · rw [show decide (0 ≤ x ∧ x ≤ W - 1) = false from decide_eq_false e1]
      rfl
theorem isDarkR_s {x y : Int} (h0 : 0 ≤ x + y) (h1 : x + y ≤ 1000) : m_X12_isDark x y = some (decide ((x + y) % 2 = 0)) := by
  unfold m_X12_isDark
  rw [irm_p h0 (by omega) (by omega) (by omega), wr_id (by omega) (by omega), lt_q]
  by_cases e : (x + y) % 2 = 0
  · rw [if_pos e, decide_eq_true e]; rfl
  · rw [if_neg e, decide_eq_false e]; rfl
theorem isDarkCellR_s {M : Mem} {W H : Int} {op : Int → Bool} (hy : YR M W H op) {c : Int} (h0 : 0 ≤ c) (hc : c < 64) : m_X12_isDarkCell M c = some (drk W c) := by
  obtain ⟨h1, h2, ⟨a1, a2, a3, a4⟩, h4⟩ := hy
  have hd := dv_r (c := c) a1 a2 (by omega) (by omega)
  have hd2 : c / W ≤ 64 := by
    rcases W8 a1 a2 with h | h | h | h | h | h | h | h <;> rw [h] <;> omega
  unfold m_X12_isDarkCell drk
  rw [h1, wr_id (by omega) (by omega), if_pos (by omega), irm_p h0 (by omega) (by omega) (by omega), idv_p h0 (by omega) (by omega) (by omega), isDarkR_s (by omega) (by omega), bd1_q]
theorem otherOf_s {M : Mem} {W H : Int} {op : Int → Bool} (hy : YR M W H op) {b : Int} (h0 : 0 ≤ b) (hb : b ≤ 1000000) : m_X12_otherOf M b = some (oth W H b) := by
  obtain ⟨h1, h2, ⟨a1, a2, a3, a4⟩, h4⟩ := hy
  have hd := dv_r (c := b / 2) a1 a2 (by omega) (by omega)
  unfold m_X12_otherOf oth
  rw [h1, h2, irm_p h0 (by omega) (by omega) (by omega), idv_p h0 (by omega) (by omega) (by omega), wr_id (x := b % 2) (by omega) (by omega), wr_id (x := W) (by omega) (by omega), wr_id (x := H) (by omega) (by omega), irm_p (by omega) (by omega) (by omega) (by omega), idv_p (x := b / 2) (by omega) (by omega) (by omega) (by omega), wr_id (x := b / 2 % W + 1) (by omega) (by omega), wr_id (x := b / 2 / W + 1) (by omega) (by omega), if_pos (c := ¬ W = 0) (by omega), if_pos (c := ¬ W = 0) (by omega), lt_q, lt_q]
  by_cases e : b % 2 = 0
  · rw [if_pos e, if_pos e]
    by_cases e2 : b / 2 % W + 1 < W
    · rw [if_pos e2, if_neg (by omega)]
    · rw [if_neg e2, if_pos (by omega)]
  · rw [if_neg e, if_neg e]
    by_cases e2 : b / 2 / W + 1 < H
    · rw [if_pos e2, if_neg (by omega)]
    · rw [if_neg e2, if_pos (by omega)]
theorem isBrick_s {M : Mem} {W H : Int} {op : Int → Bool} (hy : YR M W H op) {b : Int} (ha : -2147483648 ≤ b) (ha2 : b ≤ 2147483647) : m_X12_isBrick M b = some (stn W H op b) := by
  have hy' := hy
  obtain ⟨h1, h2, h3, h4⟩ := hy'
  have h8 := WH_le h3
  unfold m_X12_isBrick stn
  have e : (2 * gI M 55 0) * gI M 55 1 = 2 * (W * H) := by rw [h1, h2, Int.mul_assoc]
  rw [e, l_0, in_s ha ha2 (by omega) (by omega) (by omega) (by omega), bd1_q]
  by_cases c1 : 0 ≤ b ∧ b < 2 * (W * H)
  · rw [show decide (0 ≤ b ∧ b ≤ 2 * (W * H) - 1) = true from decide_eq_true (by omega), show decide (0 ≤ b ∧ b < 2 * (W * H)) = true from decide_eq_true c1, if_neg (by decide), otherOf_s hy (by omega) (by omega), bd1_q, idv_p (by omega) (by omega) (by omega) (by omega), wr_id (x := b / 2) (by omega) (by omega), if_pos (by omega : 0 ≤ b / 2 ∧ b / 2 < 64), h4 (b / 2) (by omega) (by omega), wr_bI, sec_oth op h3 (by omega) (by omega)]
    rcases oth_r h3 (b := b) (by omega) (by omega) with q | q
    · rw [q, if_pos (by decide), if_neg (fun z => by omega), bd1_q]
      cases op (b / 2) <;> rfl
    · rw [wr_id (x := oth W H b) (by omega) (by omega), if_neg (by omega), if_pos (c := 0 ≤ oth W H b ∧ oth W H b < 64) (by omega), h4 (oth W H b) (by omega) (by omega), wr_bI]
      cases op (b / 2)
      · rfl
      · cases hq : op (oth W H b)
        · rw [if_neg (c := 0 ≤ oth W H b ∧ _) (fun z => by simp at z)]
          rfl
        · rw [if_pos (c := 0 ≤ oth W H b ∧ _) ⟨by omega, rfl⟩, show decide (0 ≤ oth W H b) = true from decide_eq_true (by omega)]
          rfl
  · rw [show decide (0 ≤ b ∧ b ≤ 2 * (W * H) - 1) = false from decide_eq_false (by omega), show decide (0 ≤ b ∧ b < 2 * (W * H)) = false from decide_eq_false c1, if_pos (by decide)]
    rfl
/-- the reference's sides: east, south, west, north -/
def besR (W H : Int) (op : Int → Bool) (c k : Int) : Int := if k = 0 then oAt W H op (c % W + 1) (c / W) else if k = 1 then oAt W H op (c % W) (c / W + 1) else if k = 2 then oAt W H op (c % W - 1) (c / W) else oAt W H op (c % W) (c / W - 1)
theorem besideR_s {M : Mem} {W H : Int} {op : Int → Bool} (hy : YR M W H op) {c k : Int} (h0 : 0 ≤ c) (hc : c < 64) (hk : 0 ≤ k) (hk2 : k < 4) : m_X12_beside M c k = some (besR W H op c k) := by
  have hy' := hy
  obtain ⟨h1, h2, ⟨a1, a2, a3, a4⟩, h4⟩ := hy'
  have hd := dv_r (c := c) a1 a2 (by omega) (by omega)
  unfold m_X12_beside besR oAt
  rw [h1, wr_id (x := W) (by omega) (by omega), if_pos (by omega), irm_p h0 (by omega) (by omega) (by omega), idv_p h0 (by omega) (by omega) (by omega), wr_id (x := k) (by omega) (by omega)]
  have hk4 : k = 0 ∨ k = 1 ∨ k = 2 ∨ k = 3 := by omega
  have z1 : wr 1 = 1 := by decide
  have z2 : wr 2 = 2 := by decide
  have z3 : wr 3 = 3 := by decide
  rcases hk4 with rfl | rfl | rfl | rfl
  · simp only [z1, z2, z3, lt_q, reduceIte, Int.reduceEq]
    rw [Int.add_zero (c / W), isOpenAtR_s hy (by omega) (by omega) (by omega) (by omega), bd1_q, Int.mul_comm W (c / W)]
    cases opn W H op (c % W + 1) (c / W) <;> rfl
  · simp only [z1, z2, z3, lt_q, reduceIte, Int.reduceEq]
    rw [Int.add_zero (c % W), isOpenAtR_s hy (by omega) (by omega) (by omega) (by omega), bd1_q, Int.mul_comm W (c / W + 1)]
    cases opn W H op (c % W) (c / W + 1) <;> rfl
  · simp only [z1, z2, z3, lt_q, reduceIte, Int.reduceEq]
    rw [Int.add_zero (c / W), show c % W + -1 = c % W - 1 from rfl, isOpenAtR_s hy (by omega) (by omega) (by omega) (by omega), bd1_q, Int.mul_comm W (c / W)]
    cases opn W H op (c % W - 1) (c / W) <;> rfl
  · simp only [z1, z2, z3, lt_q, reduceIte, Int.reduceEq]
    rw [Int.add_zero (c % W), show c / W + -1 = c / W - 1 from rfl, isOpenAtR_s hy (by omega) (by omega) (by omega) (by omega), bd1_q, Int.mul_comm W (c / W - 1)]
    cases opn W H op (c % W) (c / W - 1) <;> rfl
theorem cor_r {W H : Int} {op : Int → Bool} {x y : Int} (h : cor W H op x y = true) : 0 ≤ x ∧ x ≤ W ∧ 0 ≤ y ∧ y ≤ H := by
  unfold cor at h
  simp only [Bool.or_eq_true, opn_t] at h
  rcases h with ((h | h) | h) | h <;> omega
theorem isCornerR_s {M : Mem} {W H : Int} {op : Int → Bool} (hy : YR M W H op) {x y : Int} (hx1 : -2147483648 ≤ x) (hx2 : x ≤ 2147483647) (hy1 : -2147483648 ≤ y) (hy2 : y ≤ 2147483647) : m_X12_isCorner M x y = some (cor W H op x y) := by
  have hy' := hy
  obtain ⟨h1, h2, ⟨a1, a2, a3, a4⟩, h4⟩ := hy'
  unfold m_X12_isCorner
  rw [h1, h2, l_0, in_s hx1 hx2 (by omega) (by omega) (by omega) (by omega), in_s hy1 hy2 (by omega) (by omega) (by omega) (by omega), bd1_q, bd1_q]
  by_cases c1 : 0 ≤ x ∧ x ≤ W
  · rw [show decide (0 ≤ x ∧ x ≤ W) = true from decide_eq_true c1, if_neg (by decide)]
    by_cases c2 : 0 ≤ y ∧ y ≤ H
    · rw [show decide (0 ≤ y ∧ y ≤ H) = true from decide_eq_true c2, if_neg (by decide)]
      unfold cor
      rw [isOpenAtR_s hy (x := x - 1) (y := y - 1) (by omega) (by omega) (by omega) (by omega), isOpenAtR_s hy (x := x) (y := y - 1) (by omega) (by omega) (by omega) (by omega), isOpenAtR_s hy (x := x - 1) (y := y) (by omega) (by omega) (by omega) (by omega), isOpenAtR_s hy (x := x) (y := y) (by omega) (by omega) (by omega) (by omega)]
      simp only [bd1_q, wrb]
      cases opn W H op (x - 1) (y - 1) <;> cases opn W H op x (y - 1) <;> cases opn W H op (x - 1) y <;> cases opn W H op x y <;> rfl
    · rw [show decide (0 ≤ y ∧ y ≤ H) = false from decide_eq_false c2]
      cases e : cor W H op x y
      · rfl
      · have := cor_r e; omega
  · rw [show decide (0 ≤ x ∧ x ≤ W) = false from decide_eq_false c1]
    cases e : cor W H op x y
    · rfl
    · have := cor_r e; omega
