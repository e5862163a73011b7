/-! laying bricks cell by cell: what comes out is a paving -/
def bit (m i : Int) : Prop := m / p2 i % 2 = 1
theorem bd1' : ∀ W : Nat, W < 9 → ∀ i : Nat, i < W → ∀ m : Nat, m < 2 ^ W → ((m : Int) / 2) / p2 i % 2 = (m : Int) / p2 ((i : Int) + 1) % 2 ∧ ((m : Int) / 2 % 2 = 0 → ((m : Int) / 2 + 1) / p2 i % 2 = if i = 0 then 1 else (m : Int) / p2 ((i : Int) + 1) % 2) ∧ ((m : Int) / 2 + p2 ((W : Int) - 1)) / p2 i % 2 = if i + 1 = W then 1 else (m : Int) / p2 ((i : Int) + 1) % 2 := by decide +kernel
theorem Bd {W m i : Int} (h1 : 1 ≤ W) (h2 : W ≤ 8) (m0 : 0 ≤ m) (m1 : m < p2 W) (i0 : 0 ≤ i) (i1 : i < W) : (bit (m / 2) i ↔ bit m (i + 1)) ∧ (m / 2 % 2 = 0 → (bit (m / 2 + 1) i ↔ (i = 0 ∨ bit m (i + 1)))) ∧ (bit (m / 2 + p2 (W - 1)) i ↔ (i + 1 = W ∨ bit m (i + 1))) := by
  have := bd1' W.toNat (by omega) i.toNat (by omega) m.toNat (p2_i (by omega) m m1)
  rw [Int.toNat_of_nonneg i0, Int.toNat_of_nonneg m0, Int.toNat_of_nonneg (show 0 ≤ W by omega)] at this
  obtain ⟨a1, a2, a3⟩ := this
  unfold bit
  refine ⟨by rw [a1], fun z => ?_, ?_⟩
  · rw [a2 z]
    by_cases y : i.toNat = 0
    · rw [if_pos y]; constructor
      · intro _; left; omega
      · intro _; rfl
    · rw [if_neg y]; constructor
      · intro q; exact Or.inr q
      · rintro (q | q)
        · omega
        · exact q
  · rw [a3]
    by_cases y : i.toNat + 1 = W.toNat
    · rw [if_pos y]; constructor
      · intro _; left; omega
      · intro _; rfl
    · rw [if_neg y]; constructor
      · intro q; exact Or.inr q
      · rintro (q | q)
        · omega
        · exact q
def pc (m : Int) : Int := m % 2 + m / 2 % 2 + m / 4 % 2 + m / 8 % 2 + m / 16 % 2 + m / 32 % 2 + m / 64 % 2 + m / 128 % 2
theorem pc1a : ∀ W : Nat, W < 9 → 0 < W → ∀ m : Nat, m < 2 ^ W → (m : Int) / 2 < p2 W ∧ pc ((m : Int) / 2) = pc m - m % 2 := by decide +kernel
theorem pc1b : ∀ W : Nat, W < 9 → 0 < W → ∀ m : Nat, m < 2 ^ W → (m : Int) % 2 = 0 → (m : Int) / 2 + p2 ((W : Int) - 1) < p2 W ∧ pc ((m : Int) / 2 + p2 ((W : Int) - 1)) = pc m + 1 := by decide +kernel
theorem pc1c : ∀ W : Nat, W < 9 → 1 < W → ∀ m : Nat, m < 2 ^ W → (m : Int) % 4 = 0 → (m : Int) / 2 + 1 < p2 W ∧ pc ((m : Int) / 2 + 1) = pc m + 1 := by decide +kernel
theorem Pc {W m : Int} (h1 : 1 ≤ W) (h2 : W ≤ 8) (m0 : 0 ≤ m) (m1 : m < p2 W) : m / 2 < p2 W ∧ pc (m / 2) = pc m - m % 2 ∧ (m % 2 = 0 → m / 2 + p2 (W - 1) < p2 W ∧ pc (m / 2 + p2 (W - 1)) = pc m + 1 ∧ (m / 2 % 2 = 0 → 1 < W → m / 2 + 1 < p2 W ∧ pc (m / 2 + 1) = pc m + 1)) := by
  have hm := p2_i (by omega) m m1
  have a := pc1a W.toNat (by omega) (by omega) m.toNat hm
  have b := pc1b W.toNat (by omega) (by omega) m.toNat hm
  have c := fun z => pc1c W.toNat (by omega) z m.toNat hm
  rw [Int.toNat_of_nonneg m0, Int.toNat_of_nonneg (show 0 ≤ W by omega)] at a b c
  exact ⟨a.1, a.2, fun z => ⟨(b z).1, (b z).2, fun z1 z2 => c (by omega) (by omega)⟩⟩
def Cov (W c m q : Int) : Prop := q < c ∨ (c ≤ q ∧ q < c + W ∧ bit m (q - c))
def puts (W H : Int) (p : Int → Int) (b : Int) : Int → Int := fun q => if q = b / 2 ∨ q = oth W H b then b else p q
/-- what stands after the cells before c -/
def PV (W H : Int) (op : Int → Bool) (c m : Int) (p : Int → Int) (n : Int) : Prop := 0 ≤ m ∧ m < p2 W ∧ (∀ i, 0 ≤ i → i < W → bit m i → iso W H op (c + i) = true) ∧ (∀ q, iso W H op q = true → Cov W c m q → stn W H op (p q) = true ∧ (p q / 2 = q ∨ oth W H (p q) = q) ∧ p (p q / 2) = p q ∧ p (oth W H (p q)) = p q ∧ Cov W c m (p q / 2) ∧ Cov W c m (oth W H (p q))) ∧ 2 * n = sI' c (fun q => bI (op q)) + pc m
theorem bit0 {m : Int} : bit m 0 ↔ m % 2 = 1 := by
  unfold bit
  rw [show p2 0 = 1 by decide, Int.ediv_one]
theorem bit1 {m : Int} : bit m 1 ↔ m / 2 % 2 = 1 := by
  unfold bit
  rw [show p2 1 = 2 by decide]
theorem PV_0 (W H : Int) (op : Int → Bool) (p : Int → Int) (h1 : 1 ≤ W) (h2 : W ≤ 8) : PV W H op 0 0 p 0 := by
  have hp := p2_256 h1 h2
  have nb : ∀ i, ¬ bit 0 i := fun i h => by
    unfold bit at h
    rw [Int.zero_ediv] at h
    omega
  refine ⟨by omega, by omega, fun i _ _ h => absurd h (nb i), fun q hq hc => ?_, by rw [sI'_z]; decide⟩
  have := (iso_t.mp hq).1
  rcases hc with hc | ⟨_, _, hc⟩
  · omega
  · exact absurd hc (nb _)
theorem PV_skip {W H : Int} {op : Int → Bool} {c m : Int} {p : Int → Int} {n : Int} (hW : WHr W H) (c0 : 0 ≤ c) (c1 : c < W * H) (h : PV W H op c m p n) (hb : op c = false ∨ m % 2 = 1) : PV W H op (c + 1) (m / 2) p n ∧ (∀ q, iso W H op q = true → (Cov W (c + 1) (m / 2) q ↔ Cov W c m q)) := by
  obtain ⟨m0, m1, hA, hB, hn⟩ := h
  have hPc := Pc hW.1 hW.2.1 m0 m1
  have hw1 := hW.1
  have hbd : ∀ i, 0 ≤ i → i < W → (bit (m / 2) i ↔ bit m (i + 1)) := fun i i0 i1 => (Bd hW.1 hW.2.1 m0 m1 i0 i1).1
  have hnW : ¬ bit m W := by
    intro z
    unfold bit at z
    rw [Int.ediv_eq_zero_of_lt m0 m1] at z
    omega
  have hcov : ∀ q, Cov W c m q → Cov W (c + 1) (m / 2) q := by
    rintro q (hq | ⟨hq0, hq, hq2⟩)
    · left; omega
    · by_cases e : q ≤ c
      · left; omega
      · right
        refine ⟨by omega, by omega, (hbd (q - (c + 1)) (by omega) (by omega)).mpr ?_⟩
        rw [show q - (c + 1) + 1 = q - c by omega]; exact hq2
  have hcov2 : ∀ q, iso W H op q = true → Cov W (c + 1) (m / 2) q → Cov W c m q := by
    rintro q hi (hq | ⟨hq0, hq, hq2⟩)
    · by_cases e : q = c
      · rw [e] at hi
        have := (iso_t.mp hi).2
        right
        refine ⟨by omega, by omega, ?_⟩
        rw [show q - c = 0 by omega, bit0]
        rcases hb with hb | hb
        · rw [hb] at this; exact absurd this (by decide)
        · exact hb
      · left; omega
    · have := (hbd (q - (c + 1)) (by omega) (by omega)).mp hq2
      rw [show q - (c + 1) + 1 = q - c by omega] at this
      by_cases e3 : q < c + W
      · exact Or.inr ⟨by omega, e3, this⟩
      · exfalso
        rw [show q - c = W by omega] at this
        exact hnW this
  refine ⟨⟨by omega, hPc.1, fun i i0 i1 hi => ?_, fun q hi hc => ?_, ?_⟩, fun q hi => ⟨hcov2 q hi, hcov q⟩⟩
  · have := (hbd i i0 i1).mp hi
    by_cases e : i + 1 = W
    · rw [e] at this; exact absurd this hnW
    · have := hA (i + 1) (by omega) (by omega) this
      rw [show c + 1 + i = c + (i + 1) by omega]; exact this
  · obtain ⟨a1, a2, a3, a4, a5, a6⟩ := hB q hi (hcov2 q hi hc)
    exact ⟨a1, a2, a3, a4, hcov _ a5, hcov _ a6⟩
  · rw [sI'_s c0, hPc.2.1, hn]
    rcases hb with hb | hb
    · rw [hb]
      have : m % 2 = 0 := by
        by_cases z : m % 2 = 1
        · have := hA 0 (by omega) (by omega) (bit0.mpr z)
          rw [Int.add_zero] at this
          have := (iso_t.mp this).2
          rw [hb] at this
          exact absurd this (by decide)
        · omega
      show _ = _ + bI false + (pc m - m % 2)
      rw [this, show bI false = 0 from rfl]
      omega
    · have : op c = true := by
        have := hA 0 (by omega) (by omega) (bit0.mpr hb)
        rw [Int.add_zero] at this
        exact (iso_t.mp this).2
      show _ = _ + bI (op c) + (pc m - m % 2)
      rw [this, hb, show bI true = 1 from rfl]
      omega
theorem puts_i {W H b : Int} {p : Int → Int} : puts W H p b (b / 2) = b := if_pos (Or.inl rfl)
theorem puts_o {W H b : Int} {p : Int → Int} : puts W H p b (oth W H b) = b := if_pos (Or.inr rfl)
theorem puts_n {W H b q : Int} {p : Int → Int} (h1 : q ≠ b / 2) (h2 : q ≠ oth W H b) : puts W H p b q = p q := if_neg (fun z => z.elim h1 h2)
theorem oth_e {W H c : Int} (h : c % W + 1 < W) : oth W H (2 * c) = c + 1 := by
  unfold oth
  rw [if_pos (by omega), show 2 * c / 2 = c by omega, if_pos h]
theorem oth_so {W H : Int} {op : Int → Bool} {c : Int} (hW : WHr W H) (h : stn W H op (2 * c + 1) = true) : oth W H (2 * c + 1) = c + W := by
  obtain ⟨s1, s2, s3, s4, -⟩ := stn_t hW h
  unfold oth at s4 ⊢
  rw [if_neg (by omega), show (2 * c + 1) / 2 = c by omega] at s4 ⊢
  by_cases z : c / W + 1 < H
  · rw [if_pos z]
  · rw [if_neg z] at s4; omega
theorem PV_put {W H : Int} {op : Int → Bool} {c m : Int} {p : Int → Int} {n : Int} (hW : WHr W H) (c0 : 0 ≤ c) (c1 : c < W * H) (h : PV W H op c m p n) (ho : op c = true) (hm : m % 2 = 0) {e : Bool} (hb : stn W H op (if e = true then 2 * c else 2 * c + 1) = true) (he : e = true → m / 2 % 2 = 0) : PV W H op (c + 1) (if e = true then m / 2 + 1 else m / 2 + p2 (W - 1)) (puts W H p (if e = true then 2 * c else 2 * c + 1)) (n + 1) ∧ (∀ q, Cov W (c + 1) (if e = true then m / 2 + 1 else m / 2 + p2 (W - 1)) q ↔ (Cov W c m q ∨ q = c ∨ q = oth W H (if e = true then 2 * c else 2 * c + 1))) := by
  obtain ⟨m0, m1, hA, hB, hn⟩ := h
  have hPc := Pc hW.1 hW.2.1 m0 m1
  have hw1 := hW.1
  have hp1 : 0 ≤ p2 (W - 1) := by
    have := (Bt0 (x := W - 1) (by omega) (by have := hW.2.1; omega)).2.2.2.1
    omega
  have hBd := fun i (i0 : 0 ≤ i) (i1 : i < W) => Bd hW.1 hW.2.1 m0 m1 i0 i1
  have hnW : ¬ bit m W := by
    intro z
    unfold bit at z
    rw [Int.ediv_eq_zero_of_lt m0 m1] at z
    omega
  obtain ⟨b, eb⟩ : ∃ b, b = (if e = true then 2 * c else 2 * c + 1) := ⟨_, rfl⟩
  obtain ⟨m', em⟩ : ∃ m', m' = (if e = true then m / 2 + 1 else m / 2 + p2 (W - 1)) := ⟨_, rfl⟩
  rw [← eb, ← em]
  rw [← eb] at hb
  obtain ⟨s1, s2, s3, s4, s5, s6, s7, s8⟩ := stn_t hW hb
  have hb2 : b / 2 = c := by
    rw [eb]; split <;> omega
  rw [hb2] at s5
  -- the other cell, its place in the mask
  have hk : ∃ k, 1 ≤ k ∧ k ≤ W ∧ oth W H b = c + k ∧ ¬ bit m k ∧ (∀ i, 0 ≤ i → i < W → (bit m' i ↔ (i + 1 = k ∨ bit m (i + 1)))) ∧ 0 ≤ m' ∧ m' < p2 W ∧ pc m' = pc m + 1 := by
    cases e
    · rw [if_neg (by simp)] at eb em
      rw [eb] at hb ⊢
      refine ⟨W, hw1, by omega, oth_so hW hb, hnW, fun i i0 i1 => ?_, by rw [em]; omega, by rw [em]; exact (hPc.2.2 hm).1, by rw [em]; exact (hPc.2.2 hm).2.1⟩
      rw [em]; exact (hBd i i0 i1).2.2
    · rw [if_pos rfl] at eb em
      rw [eb] at hb ⊢
      have hx := stn_east hW hb
      have hxr := cx_r hW c0 c1
      have z := he rfl
      refine ⟨1, by omega, by omega, oth_e hx, fun q => by have := bit1.mp q; omega, fun i i0 i1 => ?_, by rw [em]; omega, by rw [em]; exact ((hPc.2.2 hm).2.2 z (by omega)).1, by rw [em]; exact ((hPc.2.2 hm).2.2 z (by omega)).2⟩
      rw [em, (hBd i i0 i1).2.1 z]
      constructor
      · rintro (q | q); exact Or.inl (by omega); exact Or.inr q
      · rintro (q | q); exact Or.inl (by omega); exact Or.inr q
  obtain ⟨k, k1, k2, ko, kn, kb, km0, km1, kpc⟩ := hk
  have hcov : ∀ q, Cov W (c + 1) m' q ↔ (Cov W c m q ∨ q = c ∨ q = oth W H b) := by
    intro q
    rw [ko]
    constructor
    · rintro (hq | ⟨hq0, hq, hq2⟩)
      · by_cases z : q = c
        · exact Or.inr (Or.inl z)
        · exact Or.inl (Or.inl (by omega))
      · rcases (kb _ (by omega) (by omega)).mp hq2 with z | z
        · right; right; omega
        · rw [show q - (c + 1) + 1 = q - c by omega] at z
          by_cases y : q < c + W
          · exact Or.inl (Or.inr ⟨by omega, y, z⟩)
          · rw [show q - c = W by omega] at z; exact absurd z hnW
    · rintro ((hq | ⟨hq0, hq, hq2⟩) | hq | hq)
      · left; omega
      · by_cases z : q ≤ c
        · left; omega
        · right
          refine ⟨by omega, by omega, (kb _ (by omega) (by omega)).mpr (Or.inr ?_)⟩
          rw [show q - (c + 1) + 1 = q - c by omega]; exact hq2
      · left; omega
      · right
        exact ⟨by omega, by omega, (kb _ (by omega) (by omega)).mpr (Or.inl (by omega))⟩
  have nc : ¬ Cov W c m c := by
    rintro (q | ⟨_, _, q⟩)
    · omega
    · rw [show c - c = 0 by omega, bit0] at q; omega
  have no : ¬ Cov W c m (oth W H b) := by
    rw [ko]
    rintro (q | ⟨_, _, q⟩)
    · omega
    · rw [show c + k - c = k by omega] at q; exact kn q
  refine ⟨⟨km0, km1, fun i i0 i1 hi => ?_, fun q hi hc => ?_, ?_⟩, hcov⟩
  · rcases (kb i i0 i1).mp hi with z | z
    · rw [show c + 1 + i = oth W H b by omega]
      exact iso_t.mpr ⟨⟨by omega, s6⟩, s7⟩
    · by_cases y : i + 1 = W
      · rw [y] at z; exact absurd z hnW
      · have := hA (i + 1) (by omega) (by omega) z
        rw [show c + 1 + i = c + (i + 1) by omega]; exact this
  · rcases (hcov q).mp hc with z | z
    · obtain ⟨a1, a2, a3, a4, a5, a6⟩ := hB q hi z
      have e1 : puts W H p b q = p q := puts_n (fun y => nc (by have y' := y.trans hb2; rw [y'] at z; exact z)) (fun y => no (by rw [← y]; exact z))
      have e2 : puts W H p b (p q / 2) = p (p q / 2) := puts_n (fun y => nc (by have y' := y.trans hb2; rw [y'] at a5; exact a5)) (fun y => no (by rw [← y]; exact a5))
      have e3 : puts W H p b (oth W H (p q)) = p (oth W H (p q)) := puts_n (fun y => nc (by have y' := y.trans hb2; rw [y'] at a6; exact a6)) (fun y => no (by rw [← y]; exact a6))
      rw [e1, e2, e3]
      exact ⟨a1, a2, a3, a4, (hcov _).mpr (Or.inl a5), (hcov _).mpr (Or.inl a6)⟩
    · have e1 : puts W H p b q = b := by
        rcases z with z | z
        · rw [z, ← hb2]; exact puts_i
        · rw [z]; exact puts_o
      rw [e1]
      refine ⟨hb, ?_, puts_i, puts_o, ?_, (hcov _).mpr (Or.inr (Or.inr rfl))⟩
      · rcases z with z | z
        · left; rw [z]; exact hb2
        · right; exact z.symm
      · rw [hb2]; exact (hcov _).mpr (Or.inr (Or.inl rfl))
  · rw [sI'_s c0, kpc]
    show _ = _ + bI (op c) + (pc m + 1)
    rw [ho, show bI true = 1 from rfl]
    omega
theorem PV_end {W H : Int} {op : Int → Bool} {m : Int} {p : Int → Int} {n : Int} (hW : WHr W H) (h : PV W H op (W * H) m p n) : Pav W H op p ∧ 2 * n = nOp W H op := by
  obtain ⟨m0, m1, hA, hB, hn⟩ := h
  refine ⟨fun q hq => ?_, ?_⟩
  · have := (iso_t.mp hq).1
    obtain ⟨a1, a2, a3, a4, -⟩ := hB q hq (Or.inl this.2)
    exact ⟨a1, a2, a3, a4⟩
  · have hz : ∀ i, 0 ≤ i → i < W → ¬ bit m i := fun i i0 i1 z => by
      have := (iso_t.mp (hA i i0 i1 z)).1
      omega
    have hm : m = 0 := by
      have key : ∀ W : Nat, W < 9 → ∀ m : Nat, m < 2 ^ W → (∀ i : Nat, i < W → ¬ (m : Int) / p2 i % 2 = 1) → m = 0 := by decide +kernel
      have := key W.toNat (by have := hW.2.1; omega) m.toNat (p2_i (by have := hW.1; omega) m m1) (fun i hi => by
        have := hz i (by omega) (by omega)
        unfold bit at this
        rw [Int.toNat_of_nonneg m0]
        exact this)
      omega
    rw [hn, hm]
    show nOp W H op + pc 0 = nOp W H op
    rw [show pc 0 = 0 by decide]
    omega
