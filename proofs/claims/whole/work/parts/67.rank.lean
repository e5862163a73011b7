/-! rank -/
theorem be3_l {A1 A2 A3 B : Type} (a : A1) (b : A2) (c : A3) (f : A1 → A2 → A3 → Option B) : be3 (some (Sum.inl (a, b, c))) f = f a b c := (Eq.refl (f a b c)).trans (Eq.refl _)
theorem be3_r {A1 A2 A3 B : Type} (r : B) (f : A1 → A2 → A3 → Option B) : be3 (some (Sum.inr r)) f = some r := (Eq.refl (some r)).trans (Eq.refl _)
def selP (W : Int) (op f : Int → Bool) (N : Int) (p : Int → Int) (c : Int) (l : Nat) (m : Int) : Bool × Nat := (decide (p c % 2 = 0), l + if p c % 2 = 0 then 0 else eW W op f N c m)
def JP (W H : Int) (op : Int → Bool) (p : Int → Int) (c : Int) (m : Int) : Prop := ∀ i, 0 ≤ i → i < W → (bit m i ↔ (iso W H op (c + i) = true ∧ p (c + i) / 2 < c))
theorem oth_le {W H b : Int} (hW : WHr W H) (h : 0 ≤ oth W H b) : oth W H b ≤ b / 2 + W := by
  have := hW.1
  unfold oth at h ⊢
  by_cases z : b % 2 = 0
  · rw [if_pos z] at h ⊢
    by_cases y : b / 2 % W + 1 < W
    · rw [if_pos y]; omega
    · rw [if_neg y] at h; omega
  · rw [if_neg z] at h ⊢
    by_cases y : b / 2 / W + 1 < H
    · rw [if_pos y]; omega
    · rw [if_neg y] at h; omega
theorem Pav.at {W H : Int} {op : Int → Bool} {p : Int → Int} (hW : WHr W H) (hp : Pav W H op p) {q : Int} (hq : iso W H op q = true) : stn W H op (p q) = true ∧ p q / 2 ≤ q ∧ q ≤ p q / 2 + W ∧ (p q / 2 = q ∨ oth W H (p q) = q) ∧ iso W H op (p q / 2) = true ∧ p (p q / 2) = p q ∧ p (oth W H (p q)) = p q := by
  obtain ⟨a1, a2, a3, a4⟩ := hp q hq
  obtain ⟨s1, s2, s3, s4, s5, s6, s7, s8⟩ := stn_t hW a1
  have := oth_le hW s4
  have := hW.1
  refine ⟨a1, ?_, ?_, a2, iso_t.mpr ⟨⟨by omega, by omega⟩, s3⟩, a3, a4⟩ <;> rcases a2 with z | z <;> omega
theorem keepsP {W H : Int} {op f : Int → Bool} {p : Int → Int} (hW : WHr W H) (hp : Pav W H op p) : Keeps W H op (selP W op f (W * H) p) (fun c _ m => JP W H op p c m) ∧ (∀ c m, 0 ≤ c → c < W * H → 0 ≤ m → m < p2 W → JP W H op p c m → op c = true ∧ m % 2 = 0 → p c = (if p c % 2 = 0 then 2 * c else 2 * c + 1)) := by
  have hw1 := hW.1
  have bare : ∀ c m, 0 ≤ c → c < W * H → 0 ≤ m → m < p2 W → JP W H op p c m → op c = true ∧ m % 2 = 0 → p c / 2 = c := by
    intro c m c0 c1 m0 m1 hJ z
    have hi : iso W H op c = true := iso_t.mpr ⟨⟨c0, c1⟩, z.1⟩
    obtain ⟨a1, a2, a3, a4, -⟩ := hp.at hW hi
    have := hJ 0 (by omega) (by omega)
    rw [bit0, Int.add_zero] at this
    have : ¬ p c / 2 < c := fun y => by
      have := this.mpr ⟨hi, y⟩
      omega
    omega
  refine ⟨?_, fun c m c0 c1 m0 m1 hJ z => ?_⟩
  · intro c l m c0 c1 m0 m1 hJ
    have hnW : ¬ bit m W := by
      intro z
      unfold bit at z
      rw [Int.ediv_eq_zero_of_lt m0 m1] at z
      omega
    have hBd := fun i (i0 : 0 ≤ i) (i1 : i < W) => Bd hW.1 hW.2.1 m0 m1 i0 i1
    -- a covered cell ahead
    have old : ∀ i, 0 ≤ i → i < W → (bit m (i + 1) ↔ (iso W H op (c + 1 + i) = true ∧ p (c + 1 + i) / 2 < c)) := by
      intro i i0 i1
      by_cases y : i + 1 < W
      · have := hJ (i + 1) (by omega) y
        rw [show c + (i + 1) = c + 1 + i by omega] at this
        exact this
      · have e : i + 1 = W := by omega
        rw [e]
        constructor
        · intro z; exact absurd z hnW
        · rintro ⟨z1, z2⟩
          have := (hp.at hW z1).2.2.1
          omega
    refine ⟨fun z => ?_, fun z => ?_⟩
    · have hi : iso W H op c = true := iso_t.mpr ⟨⟨c0, c1⟩, z.1⟩
      have hb := bare c m c0 c1 m0 m1 hJ z
      obtain ⟨a1, a2, a3, a4, a5, a6, a7⟩ := hp.at hW hi
      obtain ⟨s1, s2, s3, s4, s5, s6, s7, s8⟩ := stn_t hW a1
      have hio : iso W H op (oth W H (p c)) = true := iso_t.mpr ⟨⟨s4, s6⟩, s7⟩
      -- who lies on c
      have who : ∀ q, q ≠ c → ((iso W H op q = true ∧ p q / 2 < c + 1) ↔ (q = oth W H (p c) ∨ (iso W H op q = true ∧ p q / 2 < c))) := by
        intro q hqc
        constructor
        · rintro ⟨y1, y2⟩
          by_cases y3 : p q / 2 < c
          · exact Or.inr ⟨y1, y3⟩
          · left
            obtain ⟨b1, b2, b3, b4, b5, b6, b7⟩ := hp.at hW y1
            have e : p q / 2 = c := by omega
            rw [e] at b6
            rw [b6]
            rcases b4 with b4 | b4
            · omega
            · exact b4.symm
        · rintro (y | ⟨y1, y2⟩)
          · rw [y]
            refine ⟨hio, ?_⟩
            rw [a7]; omega
          · exact ⟨y1, by omega⟩
      unfold selP
      dsimp only
      by_cases ev : p c % 2 = 0
      · have e2 : p c = 2 * c := by omega
        have hx := stn_east hW (by rw [← e2]; exact a1)
        have eo : oth W H (p c) = c + 1 := by rw [e2]; exact oth_e hx
        rw [decide_eq_true ev, if_pos rfl, if_pos rfl]
        have hcx := cx_r hW c0 c1
        have hm2 : m / 2 % 2 = 0 := by
          have := hJ 1 (by omega) (by omega)
          rw [bit1] at this
          have n : ¬ (iso W H op (c + 1) = true ∧ p (c + 1) / 2 < c) := by
            rintro ⟨-, y⟩
            rw [← eo, a7] at y
            omega
          have : ¬ m / 2 % 2 = 1 := fun y => n (this.mp y)
          omega
        refine ⟨by rw [← e2]; exact a1, fun _ => hm2, fun i i0 i1 => ?_⟩
        rw [(hBd i i0 i1).2.1 hm2, old i i0 i1, who (c + 1 + i) (by omega), eo]
        constructor
        · rintro (y | y); exact Or.inl (by omega); exact Or.inr y
        · rintro (y | y); exact Or.inl (by omega); exact Or.inr y
      · have e2 : p c = 2 * c + 1 := by omega
        have eo : oth W H (p c) = c + W := by rw [e2]; exact oth_so hW (by rw [← e2]; exact a1)
        rw [decide_eq_false ev, if_neg (by decide), if_neg (by decide)]
        refine ⟨by rw [← e2]; exact a1, fun y => absurd y (by decide), fun i i0 i1 => ?_⟩
        rw [(hBd i i0 i1).2.2, old i i0 i1, who (c + 1 + i) (by omega), eo]
        constructor
        · rintro (y | y); exact Or.inl (by omega); exact Or.inr y
        · rintro (y | y); exact Or.inl (by omega); exact Or.inr y
    · intro i i0 i1
      rw [(hBd i i0 i1).1, old i i0 i1]
      constructor
      · rintro ⟨y1, y2⟩; exact ⟨y1, by omega⟩
      · rintro ⟨y1, y2⟩
        refine ⟨y1, ?_⟩
        obtain ⟨b1, b2, b3, b4, b5, b6, b7⟩ := hp.at hW y1
        by_cases e : p (c + 1 + i) / 2 = c
        · exfalso
          rw [e] at b5 b6
          have ho := (iso_t.mp b5).2
          have hm : m % 2 = 1 := by
            have : ¬ m % 2 = 0 := fun y => z ⟨ho, y⟩
            omega
          have := (hJ 0 (by omega) (by omega)).mp (bit0.mpr hm)
          rw [Int.add_zero, b6] at this
          omega
        · omega
  · have := bare c m c0 c1 m0 m1 hJ z
    by_cases ev : p c % 2 = 0
    · rw [if_pos ev]; omega
    · rw [if_neg ev]; omega
theorem JP_0 {W H : Int} {op : Int → Bool} {p : Int → Int} (hW : WHr W H) (hp : Pav W H op p) : JP W H op p 0 0 := by
  intro i i0 i1
  constructor
  · intro h
    unfold bit at h
    rw [Int.zero_ediv] at h
    omega
  · rintro ⟨h1, h2⟩
    have := (stn_t hW (hp.at hW h1).1).1
    omega
noncomputable def TP (W H : Int) (op : Int → Bool) (wa : Int → Int) (p : Int → Int) : Nat → TJ := trj W H op (selP W op (fit W H op wa) (W * H) p) 0
/-- all bricks of the paving fit -/
def AF (W H : Int) (op : Int → Bool) (wa : Int → Int) (p : Int → Int) (k : Int) : Prop := ∀ c, 0 ≤ c → c < k → op c = true ∧ (TP W H op wa p c.toNat).2.1 % 2 = 0 → fit W H op wa (p c) = true
theorem AF_pos {W H : Int} {op : Int → Bool} {wa : Int → Int} {p : Int → Int} (hW : WHr W H) (hp : Pav W H op p) (hA : AF W H op wa p (W * H)) : 0 < nPav W H op wa := by
  have h8 := WH_le hW
  have hK := keepsP (f := fit W H op wa) hW hp
  have hPV : ∀ c : Nat, (c : Int) ≤ W * H → PV W H op c (TP W H op wa p c).2.1 (TP W H op wa p c).2.2.1 (TP W H op wa p c).2.2.2 ∧ JP W H op p c (TP W H op wa p c).2.1 := trj_PV hW hK.1 (r := 0) (JP_0 hW hp)
  have key : ∀ k : Nat, (k : Int) ≤ W * H → 0 < wyc W op (fit W H op wa) (W * H) (W * H - k) (TP W H op wa p (W * H - k).toNat).2.1 := by
    intro k
    induction k with
    | zero =>
      intro _
      rw [show W * H - ((0 : Nat) : Int) = W * H by omega, wyc_e]
      have h1 := (hPV (W * H).toNat (by omega)).1
      rw [Int.toNat_of_nonneg (by omega)] at h1
      obtain ⟨m0, m1, hA, hB, hn⟩ := h1
      have hz : ∀ i, 0 ≤ i → i < W → ¬ bit (TP W H op wa p (W * H).toNat).2.1 i := fun i i0 i1 z => by
        have := (iso_t.mp (hA i i0 i1 z)).1
        omega
      have hm : (TP W H op wa p (W * H).toNat).2.1 = 0 := by
        have key : ∀ W : Nat, W < 9 → ∀ m : Nat, m < 2 ^ W → (∀ i : Nat, i < W → ¬ (m : Int) / p2 i % 2 = 1) → m = 0 := by decide +kernel
        have := key W.toNat (by have := hW.2.1; omega) _ (p2_i (by have := hW.1; omega) _ m1) (fun i hi => by
          have := hz i (by omega) (by omega)
          unfold bit at this
          rw [Int.toNat_of_nonneg m0]
          exact this)
        omega
      rw [hm, if_pos rfl]
      decide
    | succ k ih =>
      intro hk
      have ih := ih (by omega)
      obtain ⟨c, ec⟩ : ∃ c, c = W * H - ((k + 1 : Nat) : Int) := ⟨_, rfl⟩
      rw [← ec]
      rw [show W * H - (k : Int) = c + 1 by omega] at ih
      have c0 : 0 ≤ c := by omega
      have c1 : c < W * H := by omega
      obtain ⟨p1, p2'⟩ := hPV c.toNat (by omega)
      rw [Int.toNat_of_nonneg c0] at p1 p2'
      have hts : TP W H op wa p (c + 1).toNat = stp W H op (selP W op (fit W H op wa) (W * H) p) c (TP W H op wa p c.toNat) := trj_s c0
      rw [hts] at ih
      unfold stp at ih
      rw [wyc_s c1]
      generalize hm : (TP W H op wa p c.toNat).2.1 = m at *
      by_cases z : op c = true ∧ m % 2 = 0
      · rw [if_pos z] at ih
        have hfp := hA c c0 c1 (by rw [hm]; exact z)
        have hpc := hK.2 c m c0 c1 p1.1 p1.2.1 p2' z
        have hkk := (hK.1 c (TP W H op wa p c.toNat).1 m c0 c1 p1.1 p1.2.1 p2').1 z
        rw [if_neg (by rw [z.1]; decide), if_neg (by omega)]
        unfold selP at ih hkk
        dsimp only at ih hkk
        by_cases ev : p c % 2 = 0
        · rw [decide_eq_true ev, if_pos rfl] at ih
          rw [if_pos ev] at hpc
          rw [decide_eq_true ev] at hkk
          rw [hpc] at hfp
          rw [if_pos ⟨hfp, hkk.2.1 rfl⟩]
          omega
        · rw [decide_eq_false ev, if_neg (by decide)] at ih
          rw [if_neg ev] at hpc
          rw [hpc] at hfp
          rw [if_pos hfp]
          omega
      · rw [if_neg z] at ih
        dsimp only at ih
        cases ho : op c
        · rw [if_pos rfl]
          have : ¬ m % 2 = 1 := fun y => by
            have := p1.2.2.1 0 (by omega) (by have := hW.1; omega) (bit0.mpr y)
            rw [Int.add_zero] at this
            have := (iso_t.mp this).2
            rw [ho] at this
            exact absurd this (by decide)
          rw [if_neg this]; exact ih
        · have : m % 2 = 1 := by
            have : ¬ m % 2 = 0 := fun y => z ⟨ho, y⟩
            omega
          rw [if_neg (by decide), if_pos this]; exact ih
  have := key (W * H).toNat (by omega)
  rw [Int.toNat_of_nonneg (by omega), show W * H - W * H = 0 by omega] at this
  exact this
