/-! the words that the models are written in -/
def lt {α β : Type} (a : α) (f : α → β) : β := f a
theorem of_lt {α β : Type} {a : α} {f : α → β} {o : β} (h : lt a f = o) : ∃ v, v = a ∧ f v = o := ⟨a, rfl, h⟩
theorem of_ck {α : Type} {c : Prop} [Decidable c] {x : Option α} {o : α} (h : (if c then x else none) = some o) : c ∧ x = some o := by
  by_cases hc : c
  · rw [if_pos hc] at h; exact ⟨hc, h⟩
  · rw [if_neg hc] at h; cases h
def bI (b : Bool) : Int := match b with
  | true => 1
  | false => 0
theorem bI_01 (b : Bool) : bI b = 0 ∨ bI b = 1 := by cases b <;> simp [bI]
theorem bI_dec {v : Int} (h : v = 0 ∨ v = 1) : bI (decide (v = 1)) = v := by
  rcases h with rfl | rfl <;> rfl
theorem wr_bI (b : Bool) : wr (bI b) = bI b := by cases b <;> rfl
def dR (M : Mem) (k j : Nat) : Nat := M.2.2 k j
def FU : Nat := 100000
def itr {σ ρ : Type} (f : σ → Option (σ ⊕ ρ)) : Nat → σ → Option ρ
  | 0, _ => none
  | n + 1, s => match f s with
    | none => none
    | some (.inl s2) => itr f n s2
    | some (.inr r) => some r
theorem itr_inv {σ ρ : Type} {f : σ → Option (σ ⊕ ρ)} {n : Nat} {s : σ} {out : ρ} (h : itr f (n + 1) s = some out) : ∃ w, f s = some w ∧ (∀ s2, w = .inl s2 → itr f n s2 = some out) ∧ (∀ r, w = .inr r → r = out) := by
  unfold itr at h
  cases hf : f s with
  | none => rw [hf] at h; cases h
  | some w =>
    rw [hf] at h
    refine ⟨w, rfl, fun s2 e => ?_, fun r e => ?_⟩
    · subst e; exact h
    · subst e; exact Option.some.inj h

def bd1 {A1 B : Type} (x : Option (A1)) (f : A1 → Option B) : Option B := match x with
  | none => none
  | some (a1) => f a1
theorem of_bd1 {A1 B : Type} {x : Option (A1)} {f : A1 → Option B} {o : B} (h : bd1 x f = some o) : ∃ (a1 : A1), x = some (a1) ∧ f a1 = some o := by
  unfold bd1 at h
  cases x with
  | none => cases h
  | some q => exact ⟨q, rfl, h⟩
def be1 {A1 B : Type} (x : Option ((A1) ⊕ B)) (f : A1 → Option B) : Option B := match x with
  | none => none
  | some (.inl (a1)) => f a1
  | some (.inr r) => some r
theorem of_be1 {A1 B : Type} {x : Option ((A1) ⊕ B)} {f : A1 → Option B} {o : B} (h : be1 x f = some o) : ∃ w, x = some w ∧ (∀ (a1 : A1), w = .inl (a1) → f a1 = some o) ∧ (∀ r, w = .inr r → some r = some o) := by
  unfold be1 at h
  cases x with
  | none => cases h
  | some q =>
    refine ⟨q, rfl, fun a1 e => ?_, fun r e => ?_⟩
    · subst e; exact h
    · subst e; exact h
def be1l {A1 B C : Type} (x : Option ((A1) ⊕ B)) (f : A1 → Option (C ⊕ (C ⊕ B))) : Option (C ⊕ (C ⊕ B)) := match x with
  | none => none
  | some (.inl (a1)) => f a1
  | some (.inr r) => some (.inr (.inr r))
theorem of_be1l {A1 B C : Type} {x : Option ((A1) ⊕ B)} {f : A1 → Option (C ⊕ (C ⊕ B))} {o : C ⊕ (C ⊕ B)} (h : be1l x f = some o) : ∃ w, x = some w ∧ (∀ (a1 : A1), w = .inl (a1) → f a1 = some o) ∧ (∀ r, w = .inr r → some (.inr (.inr r)) = some o) := by
  unfold be1l at h
  cases x with
  | none => cases h
  | some q =>
    refine ⟨q, rfl, fun a1 e => ?_, fun r e => ?_⟩
    · subst e; exact h
    · subst e; exact h

def bd2 {A1 A2 B : Type} (x : Option (A1 × A2)) (f : A1 → A2 → Option B) : Option B := match x with
  | none => none
  | some (a1, a2) => f a1 a2
theorem of_bd2 {A1 A2 B : Type} {x : Option (A1 × A2)} {f : A1 → A2 → Option B} {o : B} (h : bd2 x f = some o) : ∃ (a1 : A1) (a2 : A2), x = some (a1, a2) ∧ f a1 a2 = some o := by
  unfold bd2 at h
  cases x with
  | none => cases h
  | some q => exact ⟨q.1, q.2, rfl, h⟩
def be2 {A1 A2 B : Type} (x : Option ((A1 × A2) ⊕ B)) (f : A1 → A2 → Option B) : Option B := match x with
  | none => none
  | some (.inl (a1, a2)) => f a1 a2
  | some (.inr r) => some r
theorem of_be2 {A1 A2 B : Type} {x : Option ((A1 × A2) ⊕ B)} {f : A1 → A2 → Option B} {o : B} (h : be2 x f = some o) : ∃ w, x = some w ∧ (∀ (a1 : A1) (a2 : A2), w = .inl (a1, a2) → f a1 a2 = some o) ∧ (∀ r, w = .inr r → some r = some o) := by
  unfold be2 at h
  cases x with
  | none => cases h
  | some q =>
    refine ⟨q, rfl, fun a1 a2 e => ?_, fun r e => ?_⟩
    · subst e; exact h
    · subst e; exact h
def be2l {A1 A2 B C : Type} (x : Option ((A1 × A2) ⊕ B)) (f : A1 → A2 → Option (C ⊕ (C ⊕ B))) : Option (C ⊕ (C ⊕ B)) := match x with
  | none => none
  | some (.inl (a1, a2)) => f a1 a2
  | some (.inr r) => some (.inr (.inr r))
theorem of_be2l {A1 A2 B C : Type} {x : Option ((A1 × A2) ⊕ B)} {f : A1 → A2 → Option (C ⊕ (C ⊕ B))} {o : C ⊕ (C ⊕ B)} (h : be2l x f = some o) : ∃ w, x = some w ∧ (∀ (a1 : A1) (a2 : A2), w = .inl (a1, a2) → f a1 a2 = some o) ∧ (∀ r, w = .inr r → some (.inr (.inr r)) = some o) := by
  unfold be2l at h
  cases x with
  | none => cases h
  | some q =>
    refine ⟨q, rfl, fun a1 a2 e => ?_, fun r e => ?_⟩
    · subst e; exact h
    · subst e; exact h

def bd3 {A1 A2 A3 B : Type} (x : Option (A1 × A2 × A3)) (f : A1 → A2 → A3 → Option B) : Option B := match x with
  | none => none
  | some (a1, a2, a3) => f a1 a2 a3
theorem of_bd3 {A1 A2 A3 B : Type} {x : Option (A1 × A2 × A3)} {f : A1 → A2 → A3 → Option B} {o : B} (h : bd3 x f = some o) : ∃ (a1 : A1) (a2 : A2) (a3 : A3), x = some (a1, a2, a3) ∧ f a1 a2 a3 = some o := by
  unfold bd3 at h
  cases x with
  | none => cases h
  | some q => exact ⟨q.1, q.2.1, q.2.2, rfl, h⟩
def be3 {A1 A2 A3 B : Type} (x : Option ((A1 × A2 × A3) ⊕ B)) (f : A1 → A2 → A3 → Option B) : Option B := match x with
  | none => none
  | some (.inl (a1, a2, a3)) => f a1 a2 a3
  | some (.inr r) => some r
theorem of_be3 {A1 A2 A3 B : Type} {x : Option ((A1 × A2 × A3) ⊕ B)} {f : A1 → A2 → A3 → Option B} {o : B} (h : be3 x f = some o) : ∃ w, x = some w ∧ (∀ (a1 : A1) (a2 : A2) (a3 : A3), w = .inl (a1, a2, a3) → f a1 a2 a3 = some o) ∧ (∀ r, w = .inr r → some r = some o) := by
  unfold be3 at h
  cases x with
  | none => cases h
  | some q =>
    refine ⟨q, rfl, fun a1 a2 a3 e => ?_, fun r e => ?_⟩
    · subst e; exact h
    · subst e; exact h
def be3l {A1 A2 A3 B C : Type} (x : Option ((A1 × A2 × A3) ⊕ B)) (f : A1 → A2 → A3 → Option (C ⊕ (C ⊕ B))) : Option (C ⊕ (C ⊕ B)) := match x with
  | none => none
  | some (.inl (a1, a2, a3)) => f a1 a2 a3
  | some (.inr r) => some (.inr (.inr r))
theorem of_be3l {A1 A2 A3 B C : Type} {x : Option ((A1 × A2 × A3) ⊕ B)} {f : A1 → A2 → A3 → Option (C ⊕ (C ⊕ B))} {o : C ⊕ (C ⊕ B)} (h : be3l x f = some o) : ∃ w, x = some w ∧ (∀ (a1 : A1) (a2 : A2) (a3 : A3), w = .inl (a1, a2, a3) → f a1 a2 a3 = some o) ∧ (∀ r, w = .inr r → some (.inr (.inr r)) = some o) := by
  unfold be3l at h
  cases x with
  | none => cases h
  | some q =>
    refine ⟨q, rfl, fun a1 a2 a3 e => ?_, fun r e => ?_⟩
    · subst e; exact h
    · subst e; exact h

def bd4 {A1 A2 A3 A4 B : Type} (x : Option (A1 × A2 × A3 × A4)) (f : A1 → A2 → A3 → A4 → Option B) : Option B := match x with
  | none => none
  | some (a1, a2, a3, a4) => f a1 a2 a3 a4
theorem of_bd4 {A1 A2 A3 A4 B : Type} {x : Option (A1 × A2 × A3 × A4)} {f : A1 → A2 → A3 → A4 → Option B} {o : B} (h : bd4 x f = some o) : ∃ (a1 : A1) (a2 : A2) (a3 : A3) (a4 : A4), x = some (a1, a2, a3, a4) ∧ f a1 a2 a3 a4 = some o := by
  unfold bd4 at h
  cases x with
  | none => cases h
  | some q => exact ⟨q.1, q.2.1, q.2.2.1, q.2.2.2, rfl, h⟩
def be4 {A1 A2 A3 A4 B : Type} (x : Option ((A1 × A2 × A3 × A4) ⊕ B)) (f : A1 → A2 → A3 → A4 → Option B) : Option B := match x with
  | none => none
  | some (.inl (a1, a2, a3, a4)) => f a1 a2 a3 a4
  | some (.inr r) => some r
theorem of_be4 {A1 A2 A3 A4 B : Type} {x : Option ((A1 × A2 × A3 × A4) ⊕ B)} {f : A1 → A2 → A3 → A4 → Option B} {o : B} (h : be4 x f = some o) : ∃ w, x = some w ∧ (∀ (a1 : A1) (a2 : A2) (a3 : A3) (a4 : A4), w = .inl (a1, a2, a3, a4) → f a1 a2 a3 a4 = some o) ∧ (∀ r, w = .inr r → some r = some o) := by
  unfold be4 at h
  cases x with
  | none => cases h
  | some q =>
    refine ⟨q, rfl, fun a1 a2 a3 a4 e => ?_, fun r e => ?_⟩
    · subst e; exact h
    · subst e; exact h
def be4l {A1 A2 A3 A4 B C : Type} (x : Option ((A1 × A2 × A3 × A4) ⊕ B)) (f : A1 → A2 → A3 → A4 → Option (C ⊕ (C ⊕ B))) : Option (C ⊕ (C ⊕ B)) := match x with
  | none => none
  | some (.inl (a1, a2, a3, a4)) => f a1 a2 a3 a4
  | some (.inr r) => some (.inr (.inr r))
theorem of_be4l {A1 A2 A3 A4 B C : Type} {x : Option ((A1 × A2 × A3 × A4) ⊕ B)} {f : A1 → A2 → A3 → A4 → Option (C ⊕ (C ⊕ B))} {o : C ⊕ (C ⊕ B)} (h : be4l x f = some o) : ∃ w, x = some w ∧ (∀ (a1 : A1) (a2 : A2) (a3 : A3) (a4 : A4), w = .inl (a1, a2, a3, a4) → f a1 a2 a3 a4 = some o) ∧ (∀ r, w = .inr r → some (.inr (.inr r)) = some o) := by
  unfold be4l at h
  cases x with
  | none => cases h
  | some q =>
    refine ⟨q, rfl, fun a1 a2 a3 a4 e => ?_, fun r e => ?_⟩
    · subst e; exact h
    · subst e; exact h

def bd5 {A1 A2 A3 A4 A5 B : Type} (x : Option (A1 × A2 × A3 × A4 × A5)) (f : A1 → A2 → A3 → A4 → A5 → Option B) : Option B := match x with
  | none => none
  | some (a1, a2, a3, a4, a5) => f a1 a2 a3 a4 a5
theorem of_bd5 {A1 A2 A3 A4 A5 B : Type} {x : Option (A1 × A2 × A3 × A4 × A5)} {f : A1 → A2 → A3 → A4 → A5 → Option B} {o : B} (h : bd5 x f = some o) : ∃ (a1 : A1) (a2 : A2) (a3 : A3) (a4 : A4) (a5 : A5), x = some (a1, a2, a3, a4, a5) ∧ f a1 a2 a3 a4 a5 = some o := by
  unfold bd5 at h
  cases x with
  | none => cases h
  | some q => exact ⟨q.1, q.2.1, q.2.2.1, q.2.2.2.1, q.2.2.2.2, rfl, h⟩
def be5 {A1 A2 A3 A4 A5 B : Type} (x : Option ((A1 × A2 × A3 × A4 × A5) ⊕ B)) (f : A1 → A2 → A3 → A4 → A5 → Option B) : Option B := match x with
  | none => none
  | some (.inl (a1, a2, a3, a4, a5)) => f a1 a2 a3 a4 a5
  | some (.inr r) => some r
theorem of_be5 {A1 A2 A3 A4 A5 B : Type} {x : Option ((A1 × A2 × A3 × A4 × A5) ⊕ B)} {f : A1 → A2 → A3 → A4 → A5 → Option B} {o : B} (h : be5 x f = some o) : ∃ w, x = some w ∧ (∀ (a1 : A1) (a2 : A2) (a3 : A3) (a4 : A4) (a5 : A5), w = .inl (a1, a2, a3, a4, a5) → f a1 a2 a3 a4 a5 = some o) ∧ (∀ r, w = .inr r → some r = some o) := by
  unfold be5 at h
  cases x with
  | none => cases h
  | some q =>
    refine ⟨q, rfl, fun a1 a2 a3 a4 a5 e => ?_, fun r e => ?_⟩
    · subst e; exact h
    · subst e; exact h
def be5l {A1 A2 A3 A4 A5 B C : Type} (x : Option ((A1 × A2 × A3 × A4 × A5) ⊕ B)) (f : A1 → A2 → A3 → A4 → A5 → Option (C ⊕ (C ⊕ B))) : Option (C ⊕ (C ⊕ B)) := match x with
  | none => none
  | some (.inl (a1, a2, a3, a4, a5)) => f a1 a2 a3 a4 a5
  | some (.inr r) => some (.inr (.inr r))
theorem of_be5l {A1 A2 A3 A4 A5 B C : Type} {x : Option ((A1 × A2 × A3 × A4 × A5) ⊕ B)} {f : A1 → A2 → A3 → A4 → A5 → Option (C ⊕ (C ⊕ B))} {o : C ⊕ (C ⊕ B)} (h : be5l x f = some o) : ∃ w, x = some w ∧ (∀ (a1 : A1) (a2 : A2) (a3 : A3) (a4 : A4) (a5 : A5), w = .inl (a1, a2, a3, a4, a5) → f a1 a2 a3 a4 a5 = some o) ∧ (∀ r, w = .inr r → some (.inr (.inr r)) = some o) := by
  unfold be5l at h
  cases x with
  | none => cases h
  | some q =>
    refine ⟨q, rfl, fun a1 a2 a3 a4 a5 e => ?_, fun r e => ?_⟩
    · subst e; exact h
    · subst e; exact h

def bd6 {A1 A2 A3 A4 A5 A6 B : Type} (x : Option (A1 × A2 × A3 × A4 × A5 × A6)) (f : A1 → A2 → A3 → A4 → A5 → A6 → Option B) : Option B := match x with
  | none => none
  | some (a1, a2, a3, a4, a5, a6) => f a1 a2 a3 a4 a5 a6
theorem of_bd6 {A1 A2 A3 A4 A5 A6 B : Type} {x : Option (A1 × A2 × A3 × A4 × A5 × A6)} {f : A1 → A2 → A3 → A4 → A5 → A6 → Option B} {o : B} (h : bd6 x f = some o) : ∃ (a1 : A1) (a2 : A2) (a3 : A3) (a4 : A4) (a5 : A5) (a6 : A6), x = some (a1, a2, a3, a4, a5, a6) ∧ f a1 a2 a3 a4 a5 a6 = some o := by
  unfold bd6 at h
  cases x with
  | none => cases h
  | some q => exact ⟨q.1, q.2.1, q.2.2.1, q.2.2.2.1, q.2.2.2.2.1, q.2.2.2.2.2, rfl, h⟩
def be6 {A1 A2 A3 A4 A5 A6 B : Type} (x : Option ((A1 × A2 × A3 × A4 × A5 × A6) ⊕ B)) (f : A1 → A2 → A3 → A4 → A5 → A6 → Option B) : Option B := match x with
  | none => none
  | some (.inl (a1, a2, a3, a4, a5, a6)) => f a1 a2 a3 a4 a5 a6
  | some (.inr r) => some r
theorem of_be6 {A1 A2 A3 A4 A5 A6 B : Type} {x : Option ((A1 × A2 × A3 × A4 × A5 × A6) ⊕ B)} {f : A1 → A2 → A3 → A4 → A5 → A6 → Option B} {o : B} (h : be6 x f = some o) : ∃ w, x = some w ∧ (∀ (a1 : A1) (a2 : A2) (a3 : A3) (a4 : A4) (a5 : A5) (a6 : A6), w = .inl (a1, a2, a3, a4, a5, a6) → f a1 a2 a3 a4 a5 a6 = some o) ∧ (∀ r, w = .inr r → some r = some o) := by
  unfold be6 at h
  cases x with
  | none => cases h
  | some q =>
    refine ⟨q, rfl, fun a1 a2 a3 a4 a5 a6 e => ?_, fun r e => ?_⟩
    · subst e; exact h
    · subst e; exact h
def be6l {A1 A2 A3 A4 A5 A6 B C : Type} (x : Option ((A1 × A2 × A3 × A4 × A5 × A6) ⊕ B)) (f : A1 → A2 → A3 → A4 → A5 → A6 → Option (C ⊕ (C ⊕ B))) : Option (C ⊕ (C ⊕ B)) := match x with
  | none => none
  | some (.inl (a1, a2, a3, a4, a5, a6)) => f a1 a2 a3 a4 a5 a6
  | some (.inr r) => some (.inr (.inr r))
theorem of_be6l {A1 A2 A3 A4 A5 A6 B C : Type} {x : Option ((A1 × A2 × A3 × A4 × A5 × A6) ⊕ B)} {f : A1 → A2 → A3 → A4 → A5 → A6 → Option (C ⊕ (C ⊕ B))} {o : C ⊕ (C ⊕ B)} (h : be6l x f = some o) : ∃ w, x = some w ∧ (∀ (a1 : A1) (a2 : A2) (a3 : A3) (a4 : A4) (a5 : A5) (a6 : A6), w = .inl (a1, a2, a3, a4, a5, a6) → f a1 a2 a3 a4 a5 a6 = some o) ∧ (∀ r, w = .inr r → some (.inr (.inr r)) = some o) := by
  unfold be6l at h
  cases x with
  | none => cases h
  | some q =>
    refine ⟨q, rfl, fun a1 a2 a3 a4 a5 a6 e => ?_, fun r e => ?_⟩
    · subst e; exact h
    · subst e; exact h

theorem pav_on0 : ∀ p, p < NC → (ly p).1 = 8 → dynR p 1 = false ∧ (rfL.getD p []).getD 1 none = some (p + 1) ∧ ly (p + 1) = (0, 64) := by decide +kernel
theorem pav_on {M : Mem} {p : Nat} (h : (ly p).1 = 8) : gR M p 1 = some (p + 1) ∧ ly (p + 1) = (0, 64) := by
  obtain ⟨h1, h2, h3⟩ := pav_on0 p (ly_lt (ly_t h) (by decide)) h
  refine ⟨?_, h3⟩
  unfold gR
  rw [if_neg (by rw [h1]; decide)]
  exact h2

theorem she_it0 : ∀ p, p < NC → (ly p).1 = 11 → dynR p 3 = false ∧ (rfL.getD p []).getD 3 none = some (p + 1) ∧ ly (p + 1) = (0, 64) := by decide +kernel
theorem she_it {M : Mem} {p : Nat} (h : (ly p).1 = 11) : gR M p 3 = some (p + 1) ∧ ly (p + 1) = (0, 64) := by
  obtain ⟨h1, h2, h3⟩ := she_it0 p (ly_lt (ly_t h) (by decide)) h
  refine ⟨?_, h3⟩
  unfold gR
  rw [if_neg (by rw [h1]; decide)]
  exact h2

theorem wav_se0 : ∀ p, p < NC → (ly p).1 = 14 → dynR p 0 = false ∧ (rfL.getD p []).getD 0 none = some (p + 1) ∧ ly (p + 1) = (1, 100) := by decide +kernel
theorem wav_se {M : Mem} {p : Nat} (h : (ly p).1 = 14) : gR M p 0 = some (p + 1) ∧ ly (p + 1) = (1, 100) := by
  obtain ⟨h1, h2, h3⟩ := wav_se0 p (ly_lt (ly_t h) (by decide)) h
  refine ⟨?_, h3⟩
  unfold gR
  rw [if_neg (by rw [h1]; decide)]
  exact h2

theorem wav_pl0 : ∀ p, p < NC → (ly p).1 = 14 → dynR p 1 = false ∧ (rfL.getD p []).getD 1 none = some (p + 2) ∧ ly (p + 2) = (0, 100) := by decide +kernel
theorem wav_pl {M : Mem} {p : Nat} (h : (ly p).1 = 14) : gR M p 1 = some (p + 2) ∧ ly (p + 2) = (0, 100) := by
  obtain ⟨h1, h2, h3⟩ := wav_pl0 p (ly_lt (ly_t h) (by decide)) h
  refine ⟨?_, h3⟩
  unfold gR
  rw [if_neg (by rw [h1]; decide)]
  exact h2

theorem slo_el0 : ∀ i, i < 4 → (rfL.getD 37 []).getD i none = some (39 + 2 * i) ∧ (ly (39 + 2 * i)).1 = 8 := by decide +kernel
theorem slo_el {M : Mem} {i : Int} (h : 0 ≤ wr i ∧ wr i < 4) : gR M 37 (wr i).toNat = some (39 + 2 * (wr i).toNat) ∧ (ly (39 + 2 * (wr i).toNat)).1 = 8 := by
  obtain ⟨h1, h2⟩ := slo_el0 (wr i).toNat (by omega)
  exact ⟨h1, h2⟩

theorem she_el0 : ∀ i, i < 4 → (rfL.getD 38 []).getD i none = some (47 + 2 * i) ∧ (ly (47 + 2 * i)).1 = 11 := by decide +kernel
theorem she_el {M : Mem} {i : Int} (h : 0 ≤ wr i ∧ wr i < 4) : gR M 38 (wr i).toNat = some (47 + 2 * (wr i).toNat) ∧ (ly (47 + 2 * (wr i).toNat)).1 = 11 := by
  obtain ⟨h1, h2⟩ := she_el0 (wr i).toNat (by omega)
  exact ⟨h1, h2⟩
