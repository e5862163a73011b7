/-! bricks -/
def sec (W H : Nat) (op : Nat → Bool) (b : Nat) : Int := if b % 2 = 0 then oAt W H op (((b / 2 % W : Nat) : Int) + 1) ((b / 2 / W : Nat) : Int) else oAt W H op ((b / 2 % W : Nat) : Int) (((b / 2 / W : Nat) : Int) + 1)
def oth (W H : Nat) (b : Nat) : Int := if b % 2 = 0 then (if b / 2 % W + 1 < W then ((b / 2 + 1 : Nat) : Int) else -1) else (if b / 2 / W + 1 < H then ((b / 2 + W : Nat) : Int) else -1)
def stn (W H : Nat) (op : Nat → Bool) (b : Nat) : Bool := decide (b < 2 * (W * H)) && op (b / 2) && decide (0 ≤ sec W H op b)
theorem div_lt' {W H c : Nat} (h : c < W * H) : c / W < H := Nat.div_lt_of_lt_mul h
theorem divmod (W c : Nat) : c / W * W + c % W = c := by rw [Nat.mul_comm]; exact Nat.div_add_mod c W
/-- the other cell, where it is in the yard; and 'sec' by it -/
theorem oth_lt {W H b : Nat} (hW : 0 < W) (hb : b < 2 * (W * H)) (h : 0 ≤ oth W H b) : (oth W H b).toNat < W * H := by
  have hc : b / 2 < W * H := by omega
  have hr := Nat.mod_lt (b / 2) hW
  have hd := div_lt' hc
  unfold oth at h ⊢
  by_cases h1 : b % 2 = 0
  · rw [if_pos h1] at h ⊢
    by_cases h2 : b / 2 % W + 1 < W
    · rw [if_pos h2, Int.toNat_natCast]
      have := cell_lt (W := W) (H := H) (x := b / 2 % W + 1) (y := b / 2 / W) h2 hd
      have e := divmod W (b / 2)
      omega
    · rw [if_neg h2] at h; omega
  · rw [if_neg h1] at h ⊢
    by_cases h2 : b / 2 / W + 1 < H
    · rw [if_pos h2, Int.toNat_natCast]
      have := cell_lt (W := W) (H := H) (x := b / 2 % W) (y := b / 2 / W + 1) hr h2
      have e := divmod W (b / 2)
      rw [Nat.add_mul] at this
      omega
    · rw [if_neg h2] at h; omega
theorem sec_oth {W H b : Nat} (op : Nat → Bool) (hW : 0 < W) (hb : b < 2 * (W * H)) : sec W H op b = if 0 ≤ oth W H b ∧ op (oth W H b).toNat = true then oth W H b else -1 := by
  have hc : b / 2 < W * H := by omega
  have hr := Nat.mod_lt (b / 2) hW
  have hd := div_lt' hc
  have e := divmod W (b / 2)
  unfold sec oth
  by_cases h1 : b % 2 = 0
  · rw [if_pos h1, if_pos h1]
    by_cases h2 : b / 2 % W + 1 < W
    · rw [if_pos h2, Int.toNat_natCast]
      have h3 := oAt_n W H op (x := b / 2 % W + 1) (y := b / 2 / W) h2 hd
      rw [show b / 2 / W * W + (b / 2 % W + 1) = b / 2 + 1 by omega] at h3
      rw [show ((b / 2 % W : Nat) : Int) + 1 = ((b / 2 % W + 1 : Nat) : Int) by omega, h3]
      by_cases h4 : op (b / 2 + 1) = true
      · rw [if_pos h4, if_pos ⟨by omega, h4⟩]
      · rw [if_neg h4, if_neg (fun q => h4 q.2)]
    · rw [if_neg h2, oAt_out (by omega), if_neg (fun q => by omega)]
  · rw [if_neg h1, if_neg h1]
    by_cases h2 : b / 2 / W + 1 < H
    · rw [if_pos h2, Int.toNat_natCast]
      have h3 := oAt_n W H op (x := b / 2 % W) (y := b / 2 / W + 1) hr h2
      rw [Nat.add_mul, show b / 2 / W * W + 1 * W + b / 2 % W = b / 2 + W by omega] at h3
      rw [show ((b / 2 / W : Nat) : Int) + 1 = ((b / 2 / W + 1 : Nat) : Int) by omega, h3]
      by_cases h4 : op (b / 2 + W) = true
      · rw [if_pos h4, if_pos ⟨by omega, h4⟩]
      · rw [if_neg h4, if_neg (fun q => h4 q.2)]
    · rw [if_neg h2, oAt_out (by omega), if_neg (fun q => by omega)]
theorem column_spec {M : Mem} {W H : Nat} {op : Nat → Bool} (hy : YdAt 1 2 M W H op) {c : Nat} (hc : c ≤ 100000) : m_X10_column M c = some ((c % W : Nat) : Int) := by
  obtain ⟨h1, h2, h3, h4, h5, h6, h7⟩ := hy
  unfold m_X10_column
  rw [h1, wr_nat (by omega), if_pos (by omega), irm_n (by omega) (by omega) (by omega)]
theorem row_spec {M : Mem} {W H : Nat} {op : Nat → Bool} (hy : YdAt 1 2 M W H op) {c : Nat} (hc : c ≤ 100000) : m_X10_row M c = some ((c / W : Nat) : Int) := by
  obtain ⟨h1, h2, h3, h4, h5, h6, h7⟩ := hy
  unfold m_X10_row
  rw [h1, wr_nat (by omega), if_pos (by omega), idv_n (by omega) (by omega) (by omega)]
theorem secondCell_spec {M : Mem} {W H : Nat} {op : Nat → Bool} (hy : YdAt 1 2 M W H op) {b : Nat} (hb : b ≤ 1000) : m_X10_secondCell M b = some (sec W H op b) := by
  have hy' := hy
  obtain ⟨h1, h2, h3, h4, h5, h6, h7⟩ := hy'
  have hr := Nat.mod_lt (b / 2) (show 0 < W by omega)
  have hq : b / 2 / W ≤ b / 2 := Nat.div_le_self _ _
  unfold m_X10_secondCell
  rw [idv_2 (by omega), irm_2 (by omega), column_spec hy (by omega), row_spec hy (by omega)]
  simp only [bd1_some]
  rw [wr_nat (by omega)]
  unfold sec
  obtain ⟨y, ey⟩ : ∃ y, y = b / 2 / W := ⟨_, rfl⟩
  obtain ⟨x, ex⟩ : ∃ x, x = b / 2 % W := ⟨_, rfl⟩
  rw [← ey] at hq ⊢
  rw [← ex] at hr ⊢
  clear ey ex
  by_cases h8 : b % 2 = 0
  · rw [if_pos (by omega), if_pos h8, openAt_spec hy (wr_id (by omega) (by omega)) (wr_id (by omega) (by omega))]
    simp only [bd1_some]
  · rw [if_neg (by omega), if_neg h8, openAt_spec hy (wr_id (by omega) (by omega)) (wr_id (by omega) (by omega))]
    simp only [bd1_some]
theorem stands_spec {M : Mem} {W H : Nat} {op : Nat → Bool} (hy : YdAt 1 2 M W H op) {a : Int} (ha : -2147483648 ≤ a) (ha2 : a ≤ 2147483647) : m_X10_stands M a = some (decide (0 ≤ a) && stn W H op a.toNat) := by
  have hy' := hy
  obtain ⟨h1, h2, h3, h4, h5, h6, h7⟩ := hy'
  have h8 := WH64 h4 h6
  unfold m_X10_stands
  have e : (2 * gI M 1 0) * gI M 1 1 = ((2 * (W * H) : Nat) : Int) := by rw [h1, h2, Int.mul_assoc]; simp
  rw [e, wr_id ha ha2, wr_nat (by omega)]
  by_cases c1 : a < 0
  · rw [if_pos c1]
    simp [bd1_some, c1]; omega
  obtain ⟨b, rfl⟩ := Int.eq_ofNat_of_zero_le (a := a) (by omega)
  rw [if_neg c1]
  unfold stn
  by_cases c2 : ((2 * (W * H) : Nat) : Int) ≤ (b : Int)
  · rw [if_pos c2]
    simp only [bd1_some, Int.toNat_natCast]
    rw [show decide (b < 2 * (W * H)) = false by simp; omega]
    simp
  · rw [if_neg c2, idv_2 (by omega), wr_nat (by omega), if_pos (by omega), h7 _ (by omega), secondCell_spec hy (by omega)]
    simp only [wrb, bd1_some, Int.toNat_natCast]
    rw [show decide (b < 2 * (W * H)) = true by simp; omega]
    have hs : sec W H op b = -1 ∨ (0 ≤ sec W H op b ∧ sec W H op b < 64) := by
      rw [sec_oth op (by omega) (by omega)]
      by_cases q : 0 ≤ oth W H b ∧ op (oth W H b).toNat = true
      · rw [if_pos q]
        have := oth_lt (W := W) (H := H) (b := b) (by omega) (by omega) q.1
        omega
      · rw [if_neg q]; exact Or.inl rfl
    cases h9 : op (b / 2)
    · simp [bd1_some]
    · rw [wr_id (by omega) (by omega)]
      by_cases c3 : sec W H op b < 0
      · simp [bd1_some, c3]
        try omega
      · simp [bd1_some, c3]
        try omega
