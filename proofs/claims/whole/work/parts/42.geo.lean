/-! cells and bricks: the class's words and the reference's -/
theorem column_s {M : Mem} {W H : Int} {op : Int → Bool} (hy : YC M W H op) {c : Int} (h0 : 0 ≤ c) (hc : c ≤ 2147483647) : m_X10_column M c = some (c % W) := by
  obtain ⟨h1, h2, ⟨a1, a2, a3, a4⟩, h4⟩ := hy
  unfold m_X10_column
  rw [h1, wr_id (by omega) (by omega), if_pos (by omega), irm_p h0 hc (by omega) (by omega)]
theorem row_s {M : Mem} {W H : Int} {op : Int → Bool} (hy : YC M W H op) {c : Int} (h0 : 0 ≤ c) (hc : c ≤ 2147483647) : m_X10_row M c = some (c / W) := by
  obtain ⟨h1, h2, ⟨a1, a2, a3, a4⟩, h4⟩ := hy
  unfold m_X10_row
  rw [h1, wr_id (by omega) (by omega), if_pos (by omega), idv_p h0 hc (by omega) (by omega)]
theorem dv_r {W c : Int} (h1 : 1 ≤ W) (h2 : W ≤ 8) (h0 : 0 ≤ c) (hc : c ≤ 1000000) : 0 ≤ c / W ∧ c / W ≤ 1000000 ∧ 0 ≤ c % W ∧ c % W < W := by
  rcases W8 h1 h2 with rfl | rfl | rfl | rfl | rfl | rfl | rfl | rfl <;> omega
theorem secondCell_s {M : Mem} {W H : Int} {op : Int → Bool} (hy : YC M W H op) {b : Int} (h0 : 0 ≤ b) (hb : b ≤ 1000000) : m_X10_secondCell M b = some (sec W H op b) := by
  have hW := hy.2.2.1
  have hd := dv_r (c := b / 2) hW.1 hW.2.1 (by omega) (by omega)
  have hw2 := hW.2.1
  unfold m_X10_secondCell sec
  rw [idv_p h0 (by omega) (by omega) (by omega), irm_p h0 (by omega) (by omega) (by omega), column_s hy (by omega) (by omega), row_s hy (by omega) (by omega), bd1_q, bd1_q, wr_id (by omega) (by omega)]
  by_cases h : b % 2 = 0
  · rw [if_pos h, if_pos h, openAt_s hy (wr_id (by omega) (by omega)) (wr_id (by omega) (by omega)), bd1_q, bd1_q]
  · rw [if_neg h, if_neg h, openAt_s hy (wr_id (by omega) (by omega)) (wr_id (by omega) (by omega)), bd1_q, bd1_q]
/-- the brick's other cell -/
theorem oth_r {W H b : Int} (h : WHr W H) (h0 : 0 ≤ b) (hb : b < 2 * (W * H)) : oth W H b = -1 ∨ (b / 2 < oth W H b ∧ oth W H b < W * H) := by
  obtain ⟨a1, a2, a3, a4⟩ := h
  unfold oth
  rcases W8 a1 a2 with rfl | rfl | rfl | rfl | rfl | rfl | rfl | rfl <;> (split <;> split <;> omega)
theorem sec_oth {W H b : Int} (op : Int → Bool) (h : WHr W H) (h0 : 0 ≤ b) (hb : b < 2 * (W * H)) : sec W H op b = if 0 ≤ oth W H b ∧ op (oth W H b) = true then oth W H b else -1 := by
  have hr := cx_r h (c := b / 2) (by omega) (by omega)
  unfold sec oth oAt opn
  by_cases h1 : b % 2 = 0
  · rw [if_pos h1, if_pos h1]
    by_cases h2 : b / 2 % W + 1 < W
    · rw [if_pos h2, show b / 2 / W * W + (b / 2 % W + 1) = b / 2 + 1 by omega]
      rw [show decide (0 ≤ b / 2 % W + 1 ∧ b / 2 % W + 1 < W ∧ 0 ≤ b / 2 / W ∧ b / 2 / W < H) = true from decide_eq_true (by omega)]
      simp only [Bool.true_and]
      by_cases h4 : op (b / 2 + 1) = true
      · rw [if_pos h4, if_pos ⟨by omega, h4⟩]
      · rw [if_neg h4, if_neg (fun q => h4 q.2)]
    · rw [if_neg h2]
      rw [show decide (0 ≤ b / 2 % W + 1 ∧ b / 2 % W + 1 < W ∧ 0 ≤ b / 2 / W ∧ b / 2 / W < H) = false from decide_eq_false (by omega)]
      rw [if_neg (c := (0 : Int) ≤ -1 ∧ _) (fun q => by omega)]
      rfl
  · rw [if_neg h1, if_neg h1]
    by_cases h2 : b / 2 / W + 1 < H
    · rw [if_pos h2, show (b / 2 / W + 1) * W + b / 2 % W = b / 2 + W by rw [Int.add_mul]; omega]
      rw [show decide (0 ≤ b / 2 % W ∧ b / 2 % W < W ∧ 0 ≤ b / 2 / W + 1 ∧ b / 2 / W + 1 < H) = true from decide_eq_true (by omega)]
      simp only [Bool.true_and]
      by_cases h4 : op (b / 2 + W) = true
      · rw [if_pos h4, if_pos ⟨by have := h.1; omega, h4⟩]
      · rw [if_neg h4, if_neg (fun q => h4 q.2)]
    · rw [if_neg h2]
      rw [show decide (0 ≤ b / 2 % W ∧ b / 2 % W < W ∧ 0 ≤ b / 2 / W + 1 ∧ b / 2 / W + 1 < H) = false from decide_eq_false (by omega)]
      rw [if_neg (c := (0 : Int) ≤ -1 ∧ _) (fun q => by omega)]
      rfl
theorem sec_r {W H b : Int} (op : Int → Bool) (h : WHr W H) (h0 : 0 ≤ b) (hb : b < 2 * (W * H)) : sec W H op b = -1 ∨ (b / 2 < sec W H op b ∧ sec W H op b < W * H ∧ sec W H op b = oth W H b ∧ op (sec W H op b) = true) := by
  rw [sec_oth op h h0 hb]
  by_cases q : 0 ≤ oth W H b ∧ op (oth W H b) = true
  · rw [if_pos q]
    rcases oth_r h h0 hb with e | e
    · omega
    · exact Or.inr ⟨e.1, e.2, rfl, q.2⟩
  · rw [if_neg q]; exact Or.inl rfl
theorem stn_t {W H b : Int} {op : Int → Bool} (h : WHr W H) (hs : stn W H op b = true) : 0 ≤ b ∧ b < 2 * (W * H) ∧ op (b / 2) = true ∧ 0 ≤ oth W H b ∧ b / 2 < oth W H b ∧ oth W H b < W * H ∧ op (oth W H b) = true ∧ sec W H op b = oth W H b := by
  unfold stn at hs
  simp only [Bool.and_eq_true, decide_eq_true_eq] at hs
  obtain ⟨⟨⟨h1, h2⟩, h3⟩, h4⟩ := hs
  rcases sec_r op h h1 h2 with e | ⟨e1, e2, e3, e4⟩
  · omega
  · rw [e3] at e1 e2 e4 h4
    exact ⟨h1, h2, h3, h4, e1, e2, e4, e3⟩
theorem stn_i {W H b : Int} {op : Int → Bool} (h : WHr W H) (h0 : 0 ≤ b) (hb : b < 2 * (W * H)) (h1 : op (b / 2) = true) (h2 : 0 ≤ oth W H b) (h3 : op (oth W H b) = true) : stn W H op b = true := by
  unfold stn
  rw [sec_oth op h h0 hb, if_pos ⟨h2, h3⟩, h1]
  simp [h2, h0, hb]
theorem stands_s {M : Mem} {W H : Int} {op : Int → Bool} (hy : YC M W H op) {b : Int} (ha : -2147483648 ≤ b) (ha2 : b ≤ 2147483647) : m_X10_stands M b = some (stn W H op b) := by
  have hy' := hy
  obtain ⟨h1, h2, h3, h4⟩ := hy'
  have h8 := WH_le h3
  unfold m_X10_stands stn
  have e : (2 * gI M 1 0) * gI M 1 1 = 2 * (W * H) := by rw [h1, h2, Int.mul_assoc]
  rw [e, wr_id ha ha2, wr_id (by omega) (by omega)]
  by_cases c1 : b < 0
  · rw [if_pos c1, bd1_q, show decide (0 ≤ b ∧ b < 2 * (W * H)) = false from decide_eq_false (by omega)]
    rfl
  rw [if_neg c1]
  by_cases c2 : 2 * (W * H) ≤ b
  · rw [if_pos c2, bd1_q, show decide (0 ≤ b ∧ b < 2 * (W * H)) = false from decide_eq_false (by omega)]
    rfl
  rw [if_neg c2, idv_p (by omega) (by omega) (by omega) (by omega), wr_id (by omega) (by omega), if_pos (by omega), h4 _ (by omega) (by omega), wr_bI, secondCell_s hy (by omega) (by omega), show decide (0 ≤ b ∧ b < 2 * (W * H)) = true from decide_eq_true (by omega)]
  cases op (b / 2)
  · simp [bI, bd1_q]
  · rw [bd1_q]
    have hs := sec_r op h3 (b := b) (by omega) (by omega)
    rw [wr_id (by omega) (by omega)]
    by_cases c3 : sec W H op b < 0
    · rw [if_pos c3, show decide (0 ≤ sec W H op b) = false from decide_eq_false (by omega)]
      rfl
    · rw [if_neg c3, show decide (0 ≤ sec W H op b) = true from decide_eq_true (by omega)]
      rfl
def isc (W H c : Int) : Bool := decide (0 ≤ c ∧ c < W * H)
theorem isCell_s {M : Mem} {W H : Int} {op : Int → Bool} (hy : YC M W H op) {c : Int} (ha : -2147483648 ≤ c) (ha2 : c ≤ 2147483647) : m_X10_isCell M c = some (isc W H c) := by
  obtain ⟨h1, h2, h3, h4⟩ := hy
  have h8 := WH_le h3
  unfold m_X10_isCell isc
  rw [h1, h2, wr_id ha ha2, wr_id (by omega) (by omega), lt_q]
  by_cases c1 : c < 0
  · rw [if_pos c1, show decide (0 ≤ c ∧ c < W * H) = false from decide_eq_false (by omega)]
    rfl
  rw [if_neg c1]
  by_cases c2 : W * H ≤ c
  · rw [if_pos c2, show decide (0 ≤ c ∧ c < W * H) = false from decide_eq_false (by omega)]
    rfl
  rw [if_neg c2, show decide (0 ≤ c ∧ c < W * H) = true from decide_eq_true (by omega)]
  rfl
def iso (W H : Int) (op : Int → Bool) (c : Int) : Bool := decide (0 ≤ c ∧ c < W * H) && op c
theorem iso_t {W H c : Int} {op : Int → Bool} : iso W H op c = true ↔ (0 ≤ c ∧ c < W * H) ∧ op c = true := by
  unfold iso; simp
theorem isOpen_s {M : Mem} {W H : Int} {op : Int → Bool} (hy : YC M W H op) {c : Int} (ha : -2147483648 ≤ c) (ha2 : c ≤ 2147483647) : m_X10_isOpen M c = some (iso W H op c) := by
  have hy' := hy
  obtain ⟨h1, h2, h3, h4⟩ := hy'
  have h8 := WH_le h3
  unfold m_X10_isOpen iso
  rw [isCell_s hy ha ha2, bd1_q, wr_id ha ha2]
  unfold isc
  by_cases c1 : 0 ≤ c ∧ c < W * H
  · rw [show decide (0 ≤ c ∧ c < W * H) = true from decide_eq_true c1, if_neg (by decide), if_pos (by omega), h4 _ (by omega) (by omega), wr_bI]
    cases op c <;> simp [bI, bd1_q]
  · rw [show decide (0 ≤ c ∧ c < W * H) = false from decide_eq_false c1, if_pos (by decide), bd1_q]
    rfl
def drk (W c : Int) : Bool := decide ((c % W + c / W) % 2 = 0)
theorem iand1 {x : Int} (h0 : 0 ≤ x) (h1 : x < 1000) : iand x 1 = x % 2 := by
  have : ∀ n : Nat, n < 1000 → iand (n : Int) 1 = (n : Int) % 2 := by decide +kernel
  have := this x.toNat (by omega)
  rw [Int.toNat_of_nonneg h0] at this
  exact this
theorem isDark_s {M : Mem} {W H : Int} {op : Int → Bool} (hy : YC M W H op) {c : Int} (h0 : 0 ≤ c) (hc : c < 64) : m_X10_isDark M c = some (drk W c) := by
  have hW := hy.2.2.1
  have hd := dv_r (c := c) hW.1 hW.2.1 (by omega) (by omega)
  have hd2 : c / W ≤ 64 := by
    rcases W8 hW.1 hW.2.1 with h | h | h | h | h | h | h | h <;> rw [h] <;> omega
  unfold m_X10_isDark drk
  rw [column_s hy (by omega) (by omega), row_s hy (by omega) (by omega), bd1_q, bd1_q, lt_q, iand1 (by have := hW.2.1; omega) (by have := hW.2.1; omega), wr_id (by omega) (by omega)]
  by_cases e : (c % W + c / W) % 2 = 0
  · rw [if_pos e, decide_eq_true e]; rfl
  · rw [if_neg e, decide_eq_false e]; rfl
def bes (W H : Int) (op : Int → Bool) (c k : Int) : Int := if k = 0 then oAt W H op (c % W) (c / W - 1) else if k = 1 then oAt W H op (c % W - 1) (c / W) else if k = 2 then oAt W H op (c % W + 1) (c / W) else oAt W H op (c % W) (c / W + 1)
theorem beside_s {M : Mem} {W H : Int} {op : Int → Bool} (hy : YC M W H op) {c k : Int} (h0 : 0 ≤ c) (hc : c < 64) (hk : 0 ≤ k) (hk2 : k < 4) : m_X10_beside M c k = some (bes W H op c k) := by
  have hW := hy.2.2.1
  have hd := dv_r (c := c) hW.1 hW.2.1 (by omega) (by omega)
  unfold m_X10_beside bes
  rw [column_s hy (by omega) (by omega), row_s hy (by omega) (by omega), bd1_q, bd1_q, wr_id (x := k) (by omega) (by omega)]
  have hw2 := hW.2.1
  rw [openAt_s hy (x := c % W) (y := c / W - 1) (wr_id (by omega) (by omega)) (wr_id (by omega) (by omega)), openAt_s hy (x := c % W - 1) (y := c / W) (wr_id (by omega) (by omega)) (wr_id (by omega) (by omega)), openAt_s hy (x := c % W + 1) (y := c / W) (wr_id (by omega) (by omega)) (wr_id (by omega) (by omega)), openAt_s hy (x := c % W) (y := c / W + 1) (wr_id (by omega) (by omega)) (wr_id (by omega) (by omega)), bd1_q, bd1_q, bd1_q, bd1_q]
  by_cases k0 : k = 0
  · rw [if_pos k0, if_pos k0]
  rw [if_neg k0, if_neg k0]
  by_cases k1 : k = 1
  · rw [if_pos k1, if_pos k1]
  rw [if_neg k1, if_neg k1]
  by_cases k2 : k = 2
  · rw [if_pos k2, if_pos k2]
  rw [if_neg k2, if_neg k2]
def cor (W H : Int) (op : Int → Bool) (x y : Int) : Bool := opn W H op (x - 1) (y - 1) || opn W H op x (y - 1) || opn W H op (x - 1) y || opn W H op x y
theorem oAt_no {W H : Int} {op : Int → Bool} {x y : Int} (h : ¬ (0 ≤ x ∧ x < W ∧ 0 ≤ y ∧ y < H)) : oAt W H op x y = -1 := by
  unfold oAt
  rw [if_neg (fun q => h (opn_t.mp q).1)]
theorem opn_no {W H : Int} {op : Int → Bool} {x y : Int} (h : ¬ (0 ≤ x ∧ x < W ∧ 0 ≤ y ∧ y < H)) : opn W H op x y = false := by
  cases e : opn W H op x y
  · rfl
  · exact absurd (opn_t.mp e).1 h
theorem openAt_g {M : Mem} {W H : Int} {op : Int → Bool} (hy : YC M W H op) {x y : Int} (hx1 : -2147483649 ≤ x) (hx2 : x ≤ 2147483647) (hy1 : -2147483649 ≤ y) (hy2 : y ≤ 2147483647) : m_X10_openAt M x y = some (oAt W H op x y) := by
  have hW := hy.2.2.1
  have hW2 := hW
  obtain ⟨a1, a2, a3, a4⟩ := hW2
  by_cases ex : x = -2147483649
  · subst ex
    rw [oAt_no (by omega)]
    unfold m_X10_openAt
    rw [hy.1, wr_id (x := W) (by omega) (by omega), if_neg (by decide), if_pos (by rw [show wr (-2147483649) = 2147483647 by decide]; omega)]
  by_cases ey : y = -2147483649
  · subst ey
    rw [oAt_no (by omega)]
    unfold m_X10_openAt
    rw [hy.1, hy.2.1, wr_id (x := W) (by omega) (by omega), wr_id (x := H) (by omega) (by omega), wr_id (x := x) (by omega) (by omega), show wr (-2147483649) = 2147483647 by decide]
    by_cases e1 : x < 0
    · rw [if_pos e1]
    rw [if_neg e1]
    by_cases e2 : W ≤ x
    · rw [if_pos e2]
    rw [if_neg e2, if_neg (by omega), if_neg (by omega)]
  exact openAt_s hy (wr_id (by omega) (by omega)) (wr_id (by omega) (by omega))
theorem isCorner_s {M : Mem} {W H : Int} {op : Int → Bool} (hy : YC M W H op) {x y : Int} (hx1 : -2147483648 ≤ x) (hx2 : x ≤ 2147483647) (hy1 : -2147483648 ≤ y) (hy2 : y ≤ 2147483647) : m_X10_isCorner M x y = some (cor W H op x y) := by
  have hW := hy.2.2.1
  unfold m_X10_isCorner cor
  rw [openAt_g hy (x := x - 1) (y := y - 1) (by omega) (by omega) (by omega) (by omega), openAt_g hy (x := x) (y := y - 1) (by omega) (by omega) (by omega) (by omega), openAt_g hy (x := x - 1) (y := y) (by omega) (by omega) (by omega) (by omega), openAt_g hy (x := x) (y := y) (by omega) (by omega) (by omega) (by omega)]
  simp only [bd1_q, oAt_wr hW, oAt_ge hW, oAt_lt hW]
  cases opn W H op (x - 1) (y - 1) <;> cases opn W H op x (y - 1) <;> cases opn W H op (x - 1) y <;> cases opn W H op x y <;> rfl
