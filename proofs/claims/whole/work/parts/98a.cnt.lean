/-! counting sets of cells -/
def cn (n : Nat) (P : Int → Bool) : Nat := sn n (fun x => if P x = true then 1 else 0)
theorem cn_s (n : Nat) (P : Int → Bool) : cn (n + 1) P = cn n P + (if P n = true then 1 else 0) := rfl
theorem cn_le {P Q : Int → Bool} : ∀ n : Nat, (∀ x : Int, 0 ≤ x → x < n → P x = true → Q x = true) → cn n P ≤ cn n Q := by
  intro n
  induction n with
  | zero => intro _; exact Nat.le_refl _
  | succ n ih =>
    intro h
    rw [cn_s, cn_s]
    have h1 := ih (fun x a b => h x a (by omega))
    have h2 := h n (by omega) (by omega)
    by_cases z : P n = true
    · rw [if_pos z, if_pos (h2 z)]; omega
    · rw [if_neg z]; split <;> omega
theorem cn_eq {P Q : Int → Bool} : ∀ n : Nat, (∀ x : Int, 0 ≤ x → x < n → P x = true → Q x = true) → cn n Q ≤ cn n P → ∀ x : Int, 0 ≤ x → x < n → Q x = true → P x = true := by
  intro n
  induction n with
  | zero => intro _ _ x x0 x1; omega
  | succ n ih =>
    intro h hc x x0 x1 hx
    rw [cn_s, cn_s] at hc
    have hl := cn_le (P := P) (Q := Q) n (fun x a b => h x a (by omega))
    have h2 := h n (by omega) (by omega)
    by_cases z : P n = true
    · rw [if_pos z, if_pos (h2 z)] at hc
      by_cases e : x = n
      · rw [e]; exact z
      · exact ih (fun x a b => h x a (by omega)) (by omega) x x0 (by omega) hx
    · rw [if_neg z] at hc
      by_cases y : Q n = true
      · rw [if_pos y] at hc; omega
      · rw [if_neg y] at hc
        by_cases e : x = n
        · rw [e] at hx; exact absurd hx y
        · exact ih (fun x a b => h x a (by omega)) (by omega) x x0 (by omega) hx
theorem cn_congr {P Q : Int → Bool} (n : Nat) (h : ∀ x : Int, 0 ≤ x → x < n → (P x = true ↔ Q x = true)) : cn n P = cn n Q :=
  Nat.le_antisymm (cn_le n (fun x a b => (h x a b).mp)) (cn_le n (fun x a b => (h x a b).mpr))
theorem cn_sp (P R : Int → Bool) : ∀ n : Nat, cn n P = cn n (fun x => P x && R x) + cn n (fun x => P x && !R x) := by
  intro n
  induction n with
  | zero => rfl
  | succ n ih =>
    rw [cn_s, cn_s, cn_s, ih]
    cases P n <;> cases R n <;> simp <;> omega
noncomputable def imA (P : Int → Bool) (g : Int → Int) (k : Int) (y : Int) : Bool := bp (∃ x, 0 ≤ x ∧ x < k ∧ P x = true ∧ g x = y)
theorem imA_c {P : Int → Bool} {g : Int → Int} {n : Nat} : ∀ k : Nat, (∀ x : Int, 0 ≤ x → x < k → P x = true → 0 ≤ g x ∧ g x < n) → (∀ x y : Int, 0 ≤ x → x < k → 0 ≤ y → y < k → P x = true → P y = true → g x = g y → x = y) → cn n (imA P g k) = cn k P := by
  intro k
  induction k with
  | zero =>
    intro _ _
    show cn n (imA P g ((0 : Nat) : Int)) = 0
    unfold cn
    exact sn_0 n (fun i _ _ => if_neg (by
      unfold imA
      rw [bp_t]
      rintro ⟨x, q1, q2, -⟩
      omega))
  | succ k ih =>
    intro h1 h2
    rw [cn_s, ← ih (fun x a b => h1 x a (by omega)) (fun x y a b c d => h2 x y a (by omega) c (by omega))]
    by_cases z : P k = true
    · have hr := h1 k (by omega) (by omega) z
      rw [if_pos z]
      unfold cn
      rw [sn_pick _ (g k) hr.1 n hr.2, sn_pick (fun x => if imA P g (k : Int) x = true then 1 else 0) (g k) hr.1 n hr.2]
      have t1 : imA P g ((k + 1 : Nat) : Int) (g k) = true := bp_t.mpr ⟨k, by omega, by omega, z, rfl⟩
      have t2 : ¬ imA P g (k : Int) (g k) = true := fun q => by
        obtain ⟨x, q1, q2, q3, q4⟩ := bp_t.mp q
        have := h2 x k q1 (by omega) (by omega) (by omega) q3 z q4
        omega
      rw [if_pos t1, if_neg t2]
      have e : sn n (fun x => if x = g k then 0 else if imA P g ((k + 1 : Nat) : Int) x = true then 1 else 0) = sn n (fun x => if x = g k then 0 else if imA P g (k : Int) x = true then 1 else 0) := sn_congr n (fun x _ _ => by
        by_cases y : x = g k
        · rw [if_pos y, if_pos y]
        · rw [if_neg y, if_neg y]
          have : imA P g ((k + 1 : Nat) : Int) x = imA P g (k : Int) x := by
            apply bx
            unfold imA
            rw [bp_t, bp_t]
            constructor
            · rintro ⟨t, q1, q2, q3, q4⟩
              exact ⟨t, q1, by have : t ≠ k := fun q => y (by rw [← q4, q]); omega, q3, q4⟩
            · rintro ⟨t, q1, q2, q3, q4⟩
              exact ⟨t, q1, by omega, q3, q4⟩
          rw [this])
      rw [e]; omega
    · rw [if_neg z]
      refine cn_congr n (fun x _ _ => ?_)
      unfold imA
      rw [bp_t, bp_t]
      constructor
      · rintro ⟨t, q1, q2, q3, q4⟩
        exact ⟨t, q1, by have : t ≠ k := fun q => z (q ▸ q3); omega, q3, q4⟩
      · rintro ⟨t, q1, q2, q3, q4⟩
        exact ⟨t, q1, by omega, q3, q4⟩
theorem cn_inj {P Q : Int → Bool} {g : Int → Int} {k n : Nat} (h1 : ∀ x : Int, 0 ≤ x → x < k → P x = true → 0 ≤ g x ∧ g x < n ∧ Q (g x) = true) (h2 : ∀ x y : Int, 0 ≤ x → x < k → 0 ≤ y → y < k → P x = true → P y = true → g x = g y → x = y) : cn k P ≤ cn n Q ∧ (cn n Q ≤ cn k P → ∀ y : Int, 0 ≤ y → y < n → Q y = true → ∃ x : Int, 0 ≤ x ∧ x < k ∧ P x = true ∧ g x = y) := by
  have hc := imA_c (P := P) (g := g) (n := n) k (fun x a b c => ⟨(h1 x a b c).1, (h1 x a b c).2.1⟩) h2
  have hs : ∀ y : Int, 0 ≤ y → y < n → imA P g k y = true → Q y = true := fun y _ _ hy => by
    obtain ⟨x, q1, q2, q3, q4⟩ := bp_t.mp hy
    rw [← q4]; exact (h1 x q1 q2 q3).2.2
  rw [← hc]
  exact ⟨cn_le n hs, fun hq y y0 y1 hy => bp_t.mp (cn_eq n hs hq y y0 y1 hy)⟩
