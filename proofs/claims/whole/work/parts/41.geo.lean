/-! the yard: numbers, cells, bricks -/
theorem idv_pos {x y : Int} (h0 : 0 ≤ x) (h1 : x ≤ 2147483647) (h2 : 0 < y) (h3 : y ≤ 2147483647) : idv x y = x / y := by
  unfold idv
  rw [wr_id (by omega) h1, wr_id (by omega) h3, Int.tdiv_eq_ediv_of_nonneg h0]
theorem irm_pos {x y : Int} (h0 : 0 ≤ x) (h1 : x ≤ 2147483647) (h2 : 0 < y) (h3 : y ≤ 2147483647) : irm x y = x % y := by
  unfold irm
  rw [wr_id (by omega) h1, wr_id (by omega) h3, Int.tmod_eq_emod_of_nonneg h0]
theorem idv_n {x y : Nat} (h1 : x ≤ 2147483647) (h2 : 0 < y) (h3 : y ≤ 2147483647) : idv (x : Int) (y : Int) = ((x / y : Nat) : Int) := by
  rw [idv_pos (by omega) (by omega) (by omega) (by omega)]; simp
theorem irm_n {x y : Nat} (h1 : x ≤ 2147483647) (h2 : 0 < y) (h3 : y ≤ 2147483647) : irm (x : Int) (y : Int) = ((x % y : Nat) : Int) := by
  rw [irm_pos (by omega) (by omega) (by omega) (by omega)]; simp
theorem idv_2 {x : Nat} (h1 : x ≤ 2147483647) : idv (x : Int) 2 = ((x / 2 : Nat) : Int) := idv_n (y := 2) h1 (by decide) (by decide)
theorem irm_2 {x : Nat} (h1 : x ≤ 2147483647) : irm (x : Int) 2 = ((x % 2 : Nat) : Int) := irm_n (y := 2) h1 (by decide) (by decide)
theorem wr_nat {n : Nat} (h : n ≤ 2147483647) : wr (n : Int) = (n : Int) := wr_id (by omega) (by omega)
theorem i2l_lt {a b : Int} (ha : -2147483648 ≤ a) (ha2 : a ≤ 2147483647) (hb : -2147483648 ≤ b) (hb2 : b ≤ 2147483647) : i2l a < i2l b ↔ a < b := by
  unfold i2l
  rw [Int64.lt_iff_toInt_lt, Int32.toInt_toInt64, Int32.toInt_toInt64, wr_toInt, wr_toInt, wr_id ha ha2, wr_id hb hb2]
/-- in(v, low, high) of ints -/
theorem in_spec {a b c : Int} (ha : -2147483648 ≤ a) (ha2 : a ≤ 2147483647) (hb : -2147483648 ≤ b) (hb2 : b ≤ 2147483647) (hc : -2147483648 ≤ c) (hc2 : c ≤ 2147483647) : m_X12_in (i2l a) (i2l b) (i2l c) = some (decide (b ≤ a ∧ a ≤ c)) := by
  unfold m_X12_in lt
  simp only [i2l_lt ha ha2 hb hb2, i2l_lt hc hc2 ha ha2]
  by_cases h1 : a < b
  · simp [h1]; omega
  · by_cases h2 : c < a
    · simp [h1, h2]
    · simp [h1, h2]; omega
theorem cell_lt {W H x y : Nat} (hx : x < W) (hy : y < H) : y * W + x < W * H := by
  have h : (y + 1) * W ≤ H * W := Nat.mul_le_mul_right W (by omega)
  rw [Nat.mul_comm W H]
  rw [Nat.add_mul] at h
  omega
def oAt (W H : Nat) (op : Nat → Bool) (x y : Int) : Int := if 0 ≤ x ∧ x < W ∧ 0 ≤ y ∧ y < H ∧ op (y * W + x).toNat = true then y * W + x else -1
theorem oAt_n (W H : Nat) (op : Nat → Bool) {x y : Nat} (hx : x < W) (hy : y < H) : oAt W H op x y = if op (y * W + x) = true then ((y * W + x : Nat) : Int) else -1 := by
  unfold oAt
  have e : ((y : Int) * W + x).toNat = y * W + x := by
    have : (y : Int) * W + x = ((y * W + x : Nat) : Int) := by simp
    rw [this]; exact Int.toNat_natCast _
  rw [e]
  by_cases h : op (y * W + x) = true
  · rw [if_pos ⟨by omega, by omega, by omega, by omega, h⟩, if_pos h]; simp
  · rw [if_neg (fun q => h q.2.2.2.2), if_neg h]
theorem oAt_out {W H : Nat} {op : Nat → Bool} {x y : Int} (h : x < 0 ∨ (W : Int) ≤ x ∨ y < 0 ∨ (H : Int) ≤ y) : oAt W H op x y = -1 := by
  unfold oAt
  rw [if_neg (fun q => by omega)]
theorem oAt_cases (W H : Nat) (op : Nat → Bool) (x y : Int) : oAt W H op x y = -1 ∨ ∃ a b : Nat, x = a ∧ y = b ∧ a < W ∧ b < H ∧ op (b * W + a) = true ∧ oAt W H op x y = ((b * W + a : Nat) : Int) := by
  by_cases h : x < 0 ∨ (W : Int) ≤ x ∨ y < 0 ∨ (H : Int) ≤ y
  · exact Or.inl (oAt_out h)
  · obtain ⟨a, rfl⟩ := Int.eq_ofNat_of_zero_le (a := x) (by omega)
    obtain ⟨b, rfl⟩ := Int.eq_ofNat_of_zero_le (a := y) (by omega)
    rw [oAt_n W H op (by omega) (by omega)]
    by_cases h2 : op (b * W + a) = true
    · rw [if_pos h2]; exact Or.inr ⟨a, b, rfl, rfl, by omega, by omega, h2, rfl⟩
    · rw [if_neg h2]; exact Or.inl rfl
theorem openAt_spec {M : Mem} {W H : Nat} {op : Nat → Bool} (hy : YdAt 1 2 M W H op) {x y : Int} (hx1 : wr x = x) (hy1 : wr y = y) : m_X10_openAt M x y = some (oAt W H op x y) := by
  obtain ⟨h1, h2, h3, h4, h5, h6, h7⟩ := hy
  have h8 := WH64 h4 h6
  unfold m_X10_openAt
  rw [h1, h2, wr_nat (n := W) (by omega), wr_nat (n := H) (by omega), hx1, hy1]
  by_cases c1 : x < 0
  · rw [if_pos c1, oAt_out (by omega)]
  rw [if_neg c1]
  by_cases c2 : (W : Int) ≤ x
  · rw [if_pos c2, oAt_out (by omega)]
  rw [if_neg c2]
  by_cases c3 : y < 0
  · rw [if_pos c3, oAt_out (by omega)]
  rw [if_neg c3]
  by_cases c4 : y < (H : Int)
  · rw [if_pos c4]
    obtain ⟨a, rfl⟩ := Int.eq_ofNat_of_zero_le (a := x) (by omega)
    obtain ⟨b, rfl⟩ := Int.eq_ofNat_of_zero_le (a := y) (by omega)
    have hc := cell_lt (W := W) (H := H) (x := a) (y := b) (by omega) (by omega)
    have e : (b : Int) * (W : Int) + (a : Int) = ((b * W + a : Nat) : Int) := by simp
    rw [e, wr_nat (by omega), if_pos ⟨by omega, by omega⟩, h7 _ (by omega), wr_bI, oAt_n W H op (by omega) (by omega)]
    unfold lt
    cases op (b * W + a) <;> simp [bI]
  · rw [if_neg c4, oAt_out (by omega)]
