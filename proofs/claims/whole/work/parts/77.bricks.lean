/-! bricks: a paving told by a sheet -/
theorem be2_l {A1 A2 B : Type} (a : A1) (b : A2) (f : A1 → A2 → Option B) : be2 (some (Sum.inl (a, b))) f = f a b := (Eq.refl (f a b)).trans (Eq.refl _)
theorem be2_r {A1 A2 B : Type} (r : B) (f : A1 → A2 → Option B) : be2 (some (Sum.inr r)) f = some r := (Eq.refl (some r)).trans (Eq.refl _)
theorem be1_l {A1 B : Type} (a : A1) (f : A1 → Option B) : be1 (some (Sum.inl a)) f = f a := (Eq.refl (f a)).trans (Eq.refl _)
theorem be1_r {A1 B : Type} (r : B) (f : A1 → Option B) : be1 (some (Sum.inr r)) f = some r := (Eq.refl (some r)).trans (Eq.refl _)
def LB (x : Int64) (q : Int) : Prop := x.toBitVec.getLsbD q.toNat = true
theorem lb1 : ∀ i : Nat, i < 64 → ∀ q : Nat, q < 64 → ((lshl 1 (i : Int)).toBitVec.getLsbD q = true ↔ q = i) := by decide +kernel
theorem LB_1 {i q : Int} (i0 : 0 ≤ i) (i1 : i < 64) (q0 : 0 ≤ q) (q1 : q < 64) : LB (lshl 1 i) q ↔ q = i := by
  have := lb1 i.toNat (by omega) q.toNat (by omega)
  rw [Int.toNat_of_nonneg i0] at this
  unfold LB
  rw [this]
  omega
theorem LB_or (x y : Int64) (q : Int) : LB (x ||| y) q ↔ (LB x q ∨ LB y q) := by
  unfold LB
  rw [Int64.toBitVec_or, BitVec.getLsbD_or, Bool.or_eq_true]
theorem LB_and (x y : Int64) (q : Int) : LB (x &&& y) q ↔ (LB x q ∧ LB y q) := by
  unfold LB
  rw [Int64.toBitVec_and, BitVec.getLsbD_and, Bool.and_eq_true]
theorem LB_0 (q : Int) : ¬ LB 0 q := by
  unfold LB
  show ¬ (0#64).getLsbD q.toNat = true
  simp
theorem LB_z (x : Int64) : x = 0 ↔ ∀ q, 0 ≤ q → q < 64 → ¬ LB x q := by
  constructor
  · intro h q _ _
    rw [h]; exact LB_0 q
  · intro h
    apply Int64.toBitVec_inj.mp
    apply BitVec.eq_of_getLsbD_eq
    intro i hi
    have := h (i : Int) (by omega) (by omega)
    unfold LB at this
    rw [Int.toNat_natCast] at this
    have h2 : x.toBitVec.getLsbD i = false := by simpa using this
    rw [h2]
    show false = (0#64).getLsbD i
    simp
/-- the first n bricks stand and lie beside one another -/
def sq (W H : Int) (op : Int → Bool) (b : Int → Int) (n : Int) : Prop := ∀ k, 0 ≤ k → k < n → stn W H op (b k) = true ∧ ∀ j, 0 ≤ j → j < k → djt W H (b k) (b j)
def cvd (W H : Int) (b : Int → Int) (n q : Int) : Prop := ∃ k, 0 ≤ k ∧ k < n ∧ (q = b k / 2 ∨ q = oth W H (b k))
theorem sq_s {W H : Int} {op : Int → Bool} {b : Int → Int} {n : Int} (h0 : 0 ≤ n) : sq W H op b (n + 1) ↔ (sq W H op b n ∧ stn W H op (b n) = true ∧ ¬ cvd W H b n (b n / 2) ∧ ¬ cvd W H b n (oth W H (b n))) := by
  constructor
  · intro h
    have hn := h n h0 (by omega)
    refine ⟨fun k k0 k1 => h k k0 (by omega), hn.1, ?_, ?_⟩
    · rintro ⟨j, j0, j1, e | e⟩
      · exact (hn.2 j j0 j1).1 e
      · exact (hn.2 j j0 j1).2.1 e
    · rintro ⟨j, j0, j1, e | e⟩
      · exact (hn.2 j j0 j1).2.2.1 e
      · exact (hn.2 j j0 j1).2.2.2 e
  · rintro ⟨h1, h2, h3, h4⟩ k k0 k1
    by_cases z : k = n
    · rw [z]
      refine ⟨h2, fun j j0 j1 => ⟨fun e => h3 ⟨j, j0, j1, Or.inl e⟩, fun e => h3 ⟨j, j0, j1, Or.inr e⟩, fun e => h4 ⟨j, j0, j1, Or.inl e⟩, fun e => h4 ⟨j, j0, j1, Or.inr e⟩⟩⟩
    · exact h1 k k0 (by omega)
theorem cvd_s {W H : Int} {b : Int → Int} {n q : Int} (h0 : 0 ≤ n) : cvd W H b (n + 1) q ↔ (cvd W H b n q ∨ q = b n / 2 ∨ q = oth W H (b n)) := by
  constructor
  · rintro ⟨k, k0, k1, h⟩
    by_cases z : k = n
    · rw [z] at h; exact Or.inr h
    · exact Or.inl ⟨k, k0, by omega, h⟩
  · rintro (⟨k, k0, k1, h⟩ | h)
    · exact ⟨k, k0, by omega, h⟩
    · exact ⟨n, h0, by omega, h⟩
theorem cvd_iso {W H : Int} {op : Int → Bool} {b : Int → Int} {n q : Int} (hW : WHr W H) (hs : sq W H op b n) (h : cvd W H b n q) : iso W H op q = true := by
  obtain ⟨k, k0, k1, h⟩ := h
  obtain ⟨s1, s2, s3, s4, s5, s6, s7, s8⟩ := stn_t hW (hs k k0 k1).1
  rcases h with h | h
  · rw [h]; exact iso_t.mpr ⟨⟨by omega, by omega⟩, s3⟩
  · rw [h]; exact iso_t.mpr ⟨⟨s4, s6⟩, s7⟩
/-- how many cells are covered -/
noncomputable def nCv (W H : Int) (b : Int → Int) (n : Int) : Int := sI' (W * H) (fun q => bI (bp (cvd W H b n q)))
theorem nCv_n {W H : Int} {op : Int → Bool} {b : Int → Int} (hW : WHr W H) : ∀ n : Nat, sq W H op b n → nCv W H b n = 2 * n := by
  intro n
  induction n with
  | zero =>
    intro _
    unfold nCv sI'
    have key : ∀ k : Nat, sm k (fun q => bI (bp (cvd W H b ((0 : Nat) : Int) q))) = 0 := by
      intro k
      induction k with
      | zero => rfl
      | succ k ih =>
        rw [sm_s, ih, bp_f.mpr (fun ⟨j, j0, j1, _⟩ => by omega)]
        rfl
    rw [key]; rfl
  | succ n ih =>
    intro hs
    have hs' := (sq_s (n := (n : Int)) (by omega)).mp hs
    obtain ⟨h1, h2, h3, h4⟩ := hs'
    obtain ⟨s1, s2, s3, s4, s5, s6, s7, s8⟩ := stn_t hW h2
    have ih := ih h1
    have e : (fun q => bI (bp (cvd W H b ((n + 1 : Nat) : Int) q))) = (fun q => if q = oth W H (b n) then 1 else (if q = b n / 2 then 1 else bI (bp (cvd W H b n q)))) := by
      funext q
      have hc : cvd W H b ((n + 1 : Nat) : Int) q ↔ (cvd W H b n q ∨ q = b n / 2 ∨ q = oth W H (b n)) := cvd_s (W := W) (H := H) (b := b) (n := (n : Int)) (q := q) (by omega)
      by_cases z1 : q = oth W H (b n)
      · rw [if_pos z1, bp_t.mpr (hc.mpr (Or.inr (Or.inr z1)))]; rfl
      · rw [if_neg z1]
        by_cases z2 : q = b n / 2
        · rw [if_pos z2, bp_t.mpr (hc.mpr (Or.inr (Or.inl z2)))]; rfl
        · rw [if_neg z2]
          congr 1
          apply bp_congr
          constructor
          · intro y
            rcases hc.mp y with y | y | y
            · exact y
            · exact absurd y z2
            · exact absurd y z1
          · intro y; exact hc.mpr (Or.inl y)
    unfold nCv sI' at ih ⊢
    rw [e, sm_up _ (oth W H (b n)) 1 s4, if_pos (by omega), sm_up _ (b n / 2) 1 (by omega), if_pos (by omega), if_neg (by omega), bp_f.mpr h3, bp_f.mpr h4, ih, show bI false = 0 from rfl]
    omega
theorem sm_eq {f g : Int → Int} : ∀ n : Nat, (∀ i : Int, 0 ≤ i → i < n → f i ≤ g i) → sm n f ≤ sm n g ∧ (sm n f = sm n g → ∀ i : Int, 0 ≤ i → i < n → f i = g i) := by
  intro n
  induction n with
  | zero => intro _; exact ⟨Int.le_refl _, fun _ i h1 h2 => by omega⟩
  | succ n ih =>
    intro h
    obtain ⟨i1, i2⟩ := ih (fun i a b => h i a (by omega))
    have hn := h n (by omega) (by omega)
    rw [sm_s, sm_s]
    refine ⟨by omega, fun e i a b => ?_⟩
    by_cases z : i = n
    · rw [z]; omega
    · exact i2 (by omega) i a (by omega)
theorem all_cvd {W H : Int} {op : Int → Bool} {b : Int → Int} {n : Int} (hW : WHr W H) (n0 : 0 ≤ n) (hs : sq W H op b n) : 2 * n = nOp W H op ↔ ∀ q, iso W H op q = true → cvd W H b n q := by
  have h8 := WH_le hW
  have hc := nCv_n hW n.toNat (by rw [Int.toNat_of_nonneg n0]; exact hs)
  rw [Int.toNat_of_nonneg n0] at hc
  have key := sm_eq (f := fun q => bI (bp (cvd W H b n q))) (g := fun q => bI (op q)) (W * H).toNat (fun q q0 q1 => by
    by_cases z : cvd W H b n q
    · rw [bp_t.mpr z, (iso_t.mp (cvd_iso hW hs z)).2]; exact Int.le_refl _
    · rw [bp_f.mpr z]; exact bI_lo _)
  unfold nCv sI' at hc
  unfold nOp sI'
  constructor
  · intro e q hq
    have hqr := (iso_t.mp hq).1
    have := key.2 (by omega) q (by omega) (by omega)
    rw [(iso_t.mp hq).2] at this
    exact bp_t.mp (bI_inj.mp this)
  · intro h
    rw [← hc]
    apply sm_congr
    intro q q0 q1
    cases ho : op q
    · rw [bp_f.mpr (fun z => by
        have := (iso_t.mp (cvd_iso hW hs z)).2
        rw [ho] at this
        exact absurd this (by decide))]
    · rw [bp_t.mpr (h q (iso_t.mpr ⟨⟨q0, by omega⟩, ho⟩))]
/-- what is laid -/
def pl (W H : Int) (b : Int → Int) (p : Int → Int) : Nat → Int → Int
  | 0 => p
  | k + 1 => puts W H (pl W H b p k) (b k)
theorem pl_at {W H : Int} {op : Int → Bool} {b p : Int → Int} : ∀ n : Nat, sq W H op b n → ∀ j : Int, 0 ≤ j → j < n → pl W H b p n (b j / 2) = b j ∧ pl W H b p n (oth W H (b j)) = b j := by
  intro n
  induction n with
  | zero => intro _ j a c; omega
  | succ n ih =>
    intro hs j j0 j1
    show puts W H (pl W H b p n) (b n) (b j / 2) = b j ∧ puts W H (pl W H b p n) (b n) (oth W H (b j)) = b j
    by_cases z : j = n
    · rw [z]; exact ⟨puts_i, puts_o⟩
    · have hd := (hs n (by omega) (by omega)).2 j j0 (by omega)
      have := ih (fun k a c => hs k a (by omega)) j j0 (by omega)
      rw [puts_n (fun y => hd.1 y.symm) (fun y => hd.2.2.1 y.symm), puts_n (fun y => hd.2.1 y.symm) (fun y => hd.2.2.2 y.symm)]
      exact this
theorem pl_pav {W H : Int} {op : Int → Bool} {b p : Int → Int} {n : Nat} (hs : sq W H op b n) (hc : ∀ q, iso W H op q = true → cvd W H b n q) : Pav W H op (pl W H b p n) := by
  intro q hq
  obtain ⟨k, k0, k1, h⟩ := hc q hq
  have hk := pl_at (p := p) n hs k k0 k1
  have e : pl W H b p n q = b k := by
    rcases h with h | h
    · rw [h]; exact hk.1
    · rw [h]; exact hk.2
  rw [e]
  refine ⟨(hs k k0 k1).1, ?_, hk.1, hk.2⟩
  rcases h with h | h
  · exact Or.inl h.symm
  · exact Or.inr h.symm
