/-! the yard: numbers, cells, bricks -/
theorem idv_pos {x y : Int} (h0 : 0 ≤ x) (h1 : x ≤ 2147483647) (h2 : 0 < y) (h3 : y ≤ 2147483647) : idv x y = x / y := by
  unfold idv
  rw [wr_id (by omega) h1, wr_id (by omega) h3, Int.tdiv_eq_ediv_of_nonneg h0]
theorem irm_pos {x y : Int} (h0 : 0 ≤ x) (h1 : x ≤ 2147483647) (h2 : 0 < y) (h3 : y ≤ 2147483647) : irm x y = x % y := by
  unfold irm
  rw [wr_id (by omega) h1, wr_id (by omega) h3, Int.tmod_eq_emod_of_nonneg h0]
theorem idv_n {x y : Nat} (h1 : x ≤ 2147483647) (h2 : 0 < y) (h3 : y ≤ 2147483647) : idv (x : Int) (y : Int) = ((x / y : Nat) : Int) := by
  rw [idv_pos (by omega) (by omega) (by omega) (by omega)]; simp
theorem irm_n {x y : Nat} (h1 : x ≤ 2147483647) (h2 : 0 < y) (h3 : y ≤ 2147483647) : irm (x : Int) (y : Int) = ((x % y : Nat) : Int) := by
  rw [irm_pos (by omega) (by omega) (by omega) (by omega)]; simp
theorem idv_2 {x : Nat} (h1 : x ≤ 2147483647) : idv (x : Int) 2 = ((x / 2 : Nat) : Int) := idv_n (y := 2) h1 (by decide) (by decide)
theorem irm_2 {x : Nat} (h1 : x ≤ 2147483647) : irm (x : Int) 2 = ((x % 2 : Nat) : Int) := irm_n (y := 2) h1 (by decide) (by decide)
theorem wr_nat {n : Nat} (h : n ≤ 2147483647) : wr (n : Int) = (n : Int) := wr_id (by omega) (by omega)
theorem i2l_lt {a b : Int} (ha : -2147483648 ≤ a) (ha2 : a ≤ 2147483647) (hb : -2147483648 ≤ b) (hb2 : b ≤ 2147483647) : i2l a < i2l b ↔ a < b := by
  unfold i2l
  rw [Int64.lt_iff_toInt_lt, Int32.toInt_toInt64, Int32.toInt_toInt64, wr_toInt, wr_toInt, wr_id ha ha2, wr_id hb hb2]
/-- in(v, low, high) of ints -/
theorem in_spec {a b c : Int} (ha : -2147483648 ≤ a) (ha2 : a ≤ 2147483647) (hb : -2147483648 ≤ b) (hb2 : b ≤ 2147483647) (hc : -2147483648 ≤ c) (hc2 : c ≤ 2147483647) : m_X12_in (i2l a) (i2l b) (i2l c) = some (decide (b ≤ a ∧ a ≤ c)) := by
  unfold m_X12_in lt
  simp only [i2l_lt ha ha2 hb hb2, i2l_lt hc hc2 ha ha2]
  by_cases h1 : a < b
  · simp [h1]; omega
  · by_cases h2 : c < a
    · simp [h1, h2]; omega
    · simp [h1, h2]; omega
