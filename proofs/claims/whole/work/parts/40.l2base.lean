/-! base of what the models answer -/
theorem itr_run {σ ρ : Type} {f : σ → Option (σ ⊕ ρ)} (S : Nat → σ) (n : Nat) (r : ρ) (hs : ∀ i, i < n → f (S i) = some (.inl (S (i + 1)))) (he : f (S n) = some (.inr r)) : ∀ m, n < m → itr f m (S 0) = some r := by
  have key : ∀ k i m, i + k = n → k < m → itr f m (S i) = some r := by
    intro k
    induction k with
    | zero =>
      intro i m hi hm
      obtain ⟨m, rfl⟩ : ∃ q, m = q + 1 := ⟨m - 1, by omega⟩
      have : i = n := by omega
      subst this
      unfold itr
      rw [he]
    | succ k ih =>
      intro i m hi hm
      obtain ⟨m, rfl⟩ : ∃ q, m = q + 1 := ⟨m - 1, by omega⟩
      unfold itr
      rw [hs i (by omega)]
      exact ih (i + 1) m (by omega) (by omega)
  intro m hm
  exact key n 0 m (by omega) hm
theorem itr_ind {σ ρ : Type} {f : σ → Option (σ ⊕ ρ)} (I : Nat → σ → Prop) (Q : ρ → Prop) (h : ∀ k s, I k s → (∃ s2, f s = some (.inl s2) ∧ ∃ k2, k2 < k ∧ I k2 s2) ∨ (∃ r, f s = some (.inr r) ∧ Q r)) : ∀ m k s, k < m → I k s → ∃ r, itr f m s = some r ∧ Q r := by
  intro m
  induction m with
  | zero => intro k s hk; omega
  | succ m ih =>
    intro k s hk hI
    unfold itr
    rcases h k s hI with ⟨s2, h1, k2, h2, h3⟩ | ⟨r, h1, h2⟩
    · rw [h1]
      exact ih k2 s2 (by omega) h3
    · rw [h1]
      exact ⟨r, rfl, h2⟩
theorem FU_gt {n : Nat} (h : n < 100000) : n < FU := h
def cnt (n : Nat) (P : Nat → Bool) : Nat := match n with
  | 0 => 0
  | n + 1 => cnt n P + (if P n = true then 1 else 0)
theorem cnt_succ (n : Nat) (P : Nat → Bool) : cnt (n + 1) P = cnt n P + (if P n = true then 1 else 0) := rfl
theorem cnt_le (n : Nat) (P : Nat → Bool) : cnt n P ≤ n := by
  induction n with
  | zero => exact Nat.le_refl _
  | succ n ih => unfold cnt; split <;> omega
theorem cnt_congr {n : Nat} {P Q : Nat → Bool} (h : ∀ i, i < n → P i = Q i) : cnt n P = cnt n Q := by
  induction n with
  | zero => rfl
  | succ n ih => unfold cnt; rw [ih (fun i hi => h i (by omega)), h n (by omega)]
def YdAt (o a : Nat) (M : Mem) (W H : Nat) (op : Nat → Bool) : Prop := gI M o 0 = W ∧ gI M o 1 = H ∧ 1 ≤ W ∧ W ≤ 8 ∧ 1 ≤ H ∧ H ≤ 8 ∧ ∀ c : Nat, c < 64 → gI M a c = bI (op c)
theorem WH64 {W H : Nat} (h1 : W ≤ 8) (h2 : H ≤ 8) : W * H ≤ 64 := Nat.mul_le_mul h1 h2
theorem openMany_spec {M : Mem} {W H : Nat} {op : Nat → Bool} (hy : YdAt 55 56 M W H op) : m_X12_openMany M = some ((cnt (W * H) op : Nat) : Int) := by
  obtain ⟨h1, h2, h3, h4, h5, h6, h7⟩ := hy
  have h8 := WH64 h4 h6
  have hWH : (gI M 55 0) * (gI M 55 1) = ((W * H : Nat) : Int) := by rw [h1, h2]; simp
  unfold m_X12_openMany
  have := itr_run (f := fun s => m_X12_openMany_L4 M s.1 s.2) (fun i => (((cnt i op : Nat) : Int), (i : Int))) (W * H) (((cnt (W * H) op : Nat) : Int), ((W * H : Nat) : Int)) ?_ ?_ FU (FU_gt (by omega))
  · rw [show ((0 : Int), (0 : Int)) = (((cnt 0 op : Nat) : Int), ((0 : Nat) : Int)) from rfl, this]
    rfl
  · intro i hi
    unfold m_X12_openMany_L4
    rw [hWH]
    simp (disch := omega) only [wr_id]
    rw [if_neg (by omega), if_pos (by omega), h7 i (by omega), wr_bI]
    unfold lt
    rw [cnt_succ]
    cases op i <;> simp [bI]
  · unfold m_X12_openMany_L4
    rw [hWH]
    simp (disch := omega) only [wr_id]
    rw [if_pos (by omega)]
theorem bd1_some {A B : Type} (a : A) (f : A → Option B) : bd1 (some a) f = f a := rfl
theorem bd2_some {A1 A2 B : Type} (a : A1) (b : A2) (f : A1 → A2 → Option B) : bd2 (some (a, b)) f = f a b := rfl
theorem bd3_some {A1 A2 A3 B : Type} (a : A1) (b : A2) (c : A3) (f : A1 → A2 → A3 → Option B) : bd3 (some (a, b, c)) f = f a b c := rfl
theorem lt_e {A B : Type} (a : A) (f : A → B) : lt a f = f a := rfl
theorem wrb (b : Bool) : (wr (bI b) = 0) = (b = false) := by rw [wr_bI]; cases b <;> simp [bI]
