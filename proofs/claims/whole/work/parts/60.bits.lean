/-! bits of masks -/
theorem bt0 : ∀ x : Nat, x < 9 → shl 1 (x : Int) = p2 x ∧ shl 2 (x : Int) = 2 * p2 x ∧ p2 ((x : Int) + 1) = 2 * p2 x ∧ 1 ≤ p2 x ∧ p2 x ≤ 256 := by decide +kernel
theorem bt1 : ∀ u : Nat, u < 256 → ∀ x : Nat, x < 9 → (iand (u : Int) (p2 x) = 0 ↔ (u : Int) / p2 x % 2 = 0) := by decide +kernel
theorem bt2 : ∀ u : Nat, u < 256 → sar (u : Int) 1 = (u : Int) / 2 ∧ (iand (u : Int) 2 = 0 ↔ (u : Int) / 2 % 2 = 0) ∧ ((u : Int) / 2 % 2 = 0 → sar (ior (u : Int) 2) 1 = (u : Int) / 2 + 1) := by decide +kernel
theorem bt3 : ∀ W : Nat, W < 9 → 0 < W → ∀ u : Nat, u < 2 ^ W → sar (ior (u : Int) (p2 W)) 1 = (u : Int) / 2 + p2 ((W : Int) - 1) := by decide +kernel
theorem bt4 : ∀ u : Nat, u < 256 → ∀ x : Nat, x < 8 → iand (u : Int) (ixor (p2 x) (-1)) = (u : Int) - (u : Int) / p2 x % 2 * p2 x ∧ ((u : Int) / p2 x % 2 = 0 → ior (u : Int) (p2 x) = (u : Int) + p2 x) := by decide +kernel
theorem rt0 : ∀ W : Nat, W < 9 → ∀ x : Nat, x < W → ∀ u : Nat, u < 2 ^ W → 0 ≤ rot W x u ∧ rot W x u < p2 W ∧ rot W x u % 2 = (u : Int) / p2 x % 2 ∧ ((x : Int) + 1 < W → rot W x u / 2 % 2 = (u : Int) / (2 * p2 x) % 2) := by decide +kernel
theorem rt1a : ∀ W : Nat, W < 9 → ∀ x : Nat, x < W → ∀ u : Nat, u < 2 ^ W → (u : Int) / p2 x % 2 = 0 → rot W (((x : Int) + 1) % W) u = rot W x u / 2 ∧ rot W (((x : Int) + 1) % W) (u + p2 x) = rot W x u / 2 + p2 ((W : Int) - 1) ∧ (u : Int) + p2 x < p2 W := by decide +kernel
theorem rt1b : ∀ W : Nat, W < 9 → ∀ x : Nat, x < W → ∀ u : Nat, u < 2 ^ W → ((u : Int) / p2 x % 2 = 0 ∧ (x : Int) + 1 < W ∧ (u : Int) / (2 * p2 x) % 2 = 0) → rot W (((x : Int) + 1) % W) (u + 2 * p2 x) = rot W x u / 2 + 1 ∧ (u : Int) + 2 * p2 x < p2 W := by decide +kernel
theorem rt1c : ∀ W : Nat, W < 9 → ∀ x : Nat, x < W → ∀ u : Nat, u < 2 ^ W → ¬ (u : Int) / p2 x % 2 = 0 → rot W (((x : Int) + 1) % W) (u - p2 x) = rot W x u / 2 ∧ 0 ≤ (u : Int) - p2 x := by decide +kernel
theorem p2N (n : Nat) : p2 (n : Int) = ((2 ^ n : Nat) : Int) := by
  unfold p2
  rw [Int.toNat_natCast]
  simp
theorem p2_i {x : Int} (h : 0 ≤ x) (u : Int) (h2 : u < p2 x) : u.toNat < 2 ^ x.toNat := by
  have := p2N x.toNat
  rw [Int.toNat_of_nonneg h] at this
  rw [this] at h2
  have : 0 < 2 ^ x.toNat := Nat.two_pow_pos _
  omega
theorem p2_256 {W : Int} (h : 1 ≤ W) (h2 : W ≤ 8) : 2 ≤ p2 W ∧ p2 W ≤ 256 := by
  rcases W8 h h2 with rfl | rfl | rfl | rfl | rfl | rfl | rfl | rfl <;> decide
theorem Bt0 {x : Int} (h0 : 0 ≤ x) (h1 : x ≤ 8) : shl 1 x = p2 x ∧ shl 2 x = 2 * p2 x ∧ p2 (x + 1) = 2 * p2 x ∧ 1 ≤ p2 x ∧ p2 x ≤ 256 := by
  have := bt0 x.toNat (by omega)
  rw [Int.toNat_of_nonneg h0] at this
  exact this
theorem Bt1 {u x : Int} (u0 : 0 ≤ u) (u1 : u < 256) (h0 : 0 ≤ x) (h1 : x ≤ 8) : iand u (p2 x) = 0 ↔ u / p2 x % 2 = 0 := by
  have := bt1 u.toNat (by omega) x.toNat (by omega)
  rw [Int.toNat_of_nonneg h0, Int.toNat_of_nonneg u0] at this
  exact this
theorem Bt2 {u : Int} (u0 : 0 ≤ u) (u1 : u < 256) : sar u 1 = u / 2 ∧ (iand u 2 = 0 ↔ u / 2 % 2 = 0) ∧ (u / 2 % 2 = 0 → sar (ior u 2) 1 = u / 2 + 1) := by
  have := bt2 u.toNat (by omega)
  rw [Int.toNat_of_nonneg u0] at this
  exact this
theorem Bt3 {W u : Int} (h1 : 1 ≤ W) (h2 : W ≤ 8) (u0 : 0 ≤ u) (u1 : u < p2 W) : sar (ior u (p2 W)) 1 = u / 2 + p2 (W - 1) := by
  have := bt3 W.toNat (by omega) (by omega) u.toNat (p2_i (by omega) u u1)
  rw [Int.toNat_of_nonneg u0, Int.toNat_of_nonneg (show 0 ≤ W by omega)] at this
  exact this
theorem Bt4 {u x : Int} (u0 : 0 ≤ u) (u1 : u < 256) (h0 : 0 ≤ x) (h1 : x < 8) : iand u (ixor (p2 x) (-1)) = u - u / p2 x % 2 * p2 x ∧ (u / p2 x % 2 = 0 → ior u (p2 x) = u + p2 x) := by
  have := bt4 u.toNat (by omega) x.toNat (by omega)
  rw [Int.toNat_of_nonneg h0, Int.toNat_of_nonneg u0] at this
  exact this
theorem Rt0 {W x u : Int} (h1 : 1 ≤ W) (h2 : W ≤ 8) (x0 : 0 ≤ x) (x1 : x < W) (u0 : 0 ≤ u) (u1 : u < p2 W) : 0 ≤ rot W x u ∧ rot W x u < p2 W ∧ rot W x u % 2 = u / p2 x % 2 ∧ (x + 1 < W → rot W x u / 2 % 2 = u / (2 * p2 x) % 2) := by
  have := rt0 W.toNat (by omega) x.toNat (by omega) u.toNat (p2_i (by omega) u u1)
  rw [Int.toNat_of_nonneg x0, Int.toNat_of_nonneg u0, Int.toNat_of_nonneg (show 0 ≤ W by omega)] at this
  exact this
theorem Rt1 {W x u : Int} (h1 : 1 ≤ W) (h2 : W ≤ 8) (x0 : 0 ≤ x) (x1 : x < W) (u0 : 0 ≤ u) (u1 : u < p2 W) : (u / p2 x % 2 = 0 → rot W ((x + 1) % W) u = rot W x u / 2 ∧ rot W ((x + 1) % W) (u + p2 x) = rot W x u / 2 + p2 (W - 1) ∧ u + p2 x < p2 W ∧ (x + 1 < W → u / (2 * p2 x) % 2 = 0 → rot W ((x + 1) % W) (u + 2 * p2 x) = rot W x u / 2 + 1 ∧ u + 2 * p2 x < p2 W)) ∧ (¬ u / p2 x % 2 = 0 → rot W ((x + 1) % W) (u - p2 x) = rot W x u / 2 ∧ 0 ≤ u - p2 x) := by
  have a := rt1a W.toNat (by omega) x.toNat (by omega) u.toNat (p2_i (by omega) u u1)
  have b := rt1b W.toNat (by omega) x.toNat (by omega) u.toNat (p2_i (by omega) u u1)
  have c := rt1c W.toNat (by omega) x.toNat (by omega) u.toNat (p2_i (by omega) u u1)
  rw [Int.toNat_of_nonneg x0, Int.toNat_of_nonneg u0, Int.toNat_of_nonneg (show 0 ≤ W by omega)] at a b c
  exact ⟨fun z => ⟨(a z).1, (a z).2.1, (a z).2.2, fun z1 z2 => b ⟨z, z1, z2⟩⟩, c⟩
theorem rot_0 (W u : Int) : rot W 0 u = u := by
  unfold rot
  rw [show p2 0 = 1 by decide, Int.ediv_one, Int.emod_one]
  omega
theorem nx_x {W c : Int} (h1 : 1 ≤ W) (h2 : W ≤ 8) (c0 : 0 ≤ c) : (c + 1) % W = (c % W + 1) % W := by
  rcases W8 h1 h2 with rfl | rfl | rfl | rfl | rfl | rfl | rfl | rfl <;> omega
theorem NW0 {W H : Int} (h1 : 1 ≤ W) (h2 : W ≤ 8) : (W * H) % W = 0 := Int.mul_emod_right W H
