/-! rings of two pavings -/
theorem fb_holes : ∀ (m n : Nat) (f : Nat → Nat), (∀ i, i < n → f i < m) → (∀ i j, i < j → j < n → f i ≠ f j) → n ≤ m := by
  intro m
  induction m with
  | zero =>
    intro n f h1 _
    rcases Nat.eq_zero_or_pos n with h | h
    · omega
    · exact absurd (h1 0 h) (Nat.not_lt_zero _)
  | succ m ih =>
    intro n f h1 h2
    by_cases hx : ∃ i, i < n ∧ f i = m
    · obtain ⟨a, ha, hfa⟩ := hx
      have hg := ih (n - 1) (fun i => if i < a then f i else f (i + 1)) (by
        intro i hi
        by_cases q : i < a
        · simp only [if_pos q]
          have b1 := h1 i (by omega)
          have b2 := h2 i a q ha
          omega
        · simp only [if_neg q]
          have b1 := h1 (i + 1) (by omega)
          have b2 := h2 a (i + 1) (by omega) (by omega)
          omega) (by
        intro i j hij hj
        by_cases q : i < a
        · by_cases r : j < a
          · simp only [if_pos q, if_pos r]
            exact h2 i j hij (by omega)
          · simp only [if_pos q, if_neg r]
            exact h2 i (j + 1) (by omega) (by omega)
        · have r : ¬ j < a := by omega
          simp only [if_neg q, if_neg r]
          exact h2 (i + 1) (j + 1) (by omega) (by omega))
      omega
    · have hg := ih n f (fun i hi => by
        have b1 := h1 i hi
        have b2 : f i ≠ m := fun e => hx ⟨i, hi, e⟩
        omega) h2
      omega
/-- the cell that lies with q under p's brick -/
def mt (W H : Int) (p : Int → Int) (q : Int) : Int := if p q / 2 = q then oth W H (p q) else p q / 2
theorem drk_oth {W H b : Int} (hW : WHr W H) (b0 : 0 ≤ b) (b1 : b < 2 * (W * H)) (h : 0 ≤ oth W H b) : drk W (oth W H b) = !drk W (b / 2) := by
  obtain ⟨a1, a2, a3, a4⟩ := hW
  have key : ((oth W H b % W + oth W H b / W) % 2 = 0) ↔ ¬ ((b / 2 % W + b / 2 / W) % 2 = 0) := by
    unfold oth at h ⊢
    by_cases z : b % 2 = 0
    · rw [if_pos z] at h ⊢
      by_cases y : b / 2 % W + 1 < W
      · have d : (b / 2 + 1) % W = b / 2 % W + 1 ∧ (b / 2 + 1) / W = b / 2 / W := by
          rcases W8 a1 a2 with q | q | q | q | q | q | q | q <;> rw [q] at y ⊢ <;> omega
        rw [if_pos y, d.1, d.2]
        omega
      · rw [if_neg y] at h; omega
    · rw [if_neg z] at h ⊢
      by_cases y : b / 2 / W + 1 < H
      · have d : (b / 2 + W) % W = b / 2 % W ∧ (b / 2 + W) / W = b / 2 / W + 1 := by
          rcases W8 a1 a2 with q | q | q | q | q | q | q | q <;> rw [q] <;> omega
        rw [if_pos y, d.1, d.2]
        omega
      · rw [if_neg y] at h; omega
  unfold drk
  by_cases z : (b / 2 % W + b / 2 / W) % 2 = 0
  · rw [decide_eq_true z, decide_eq_false (fun q => (key.mp q) z)]; rfl
  · rw [decide_eq_false z, decide_eq_true (key.mpr z)]; rfl
theorem mt_s {W H : Int} {op : Int → Bool} {p : Int → Int} (hW : WHr W H) (hp : Pav W H op p) {q : Int} (hq : iso W H op q = true) : iso W H op (mt W H p q) = true ∧ p (mt W H p q) = p q ∧ mt W H p (mt W H p q) = q ∧ mt W H p q ≠ q ∧ drk W (mt W H p q) = !drk W q := by
  obtain ⟨a1, a2, a3, a4, a5, a6, a7⟩ := hp.at hW hq
  obtain ⟨s1, s2, s3, s4, s5, s6, s7, s8⟩ := stn_t hW a1
  have hio : iso W H op (oth W H (p q)) = true := iso_t.mpr ⟨⟨s4, s6⟩, s7⟩
  have hdk := drk_oth hW s1 s2 s4
  unfold mt
  by_cases z : p q / 2 = q
  · rw [if_pos z, a7]
    refine ⟨hio, rfl, ?_, by omega, by rw [hdk, z]⟩
    rw [if_neg (by omega)]; exact z
  · have z2 : oth W H (p q) = q := by
      rcases a4 with y | y
      · exact absurd y z
      · exact y
    rw [if_neg z, a6]
    refine ⟨a5, rfl, ?_, z, ?_⟩
    · rw [if_pos rfl]; exact z2
    · rw [z2] at hdk
      rw [hdk]
      cases drk W (p q / 2) <;> rfl
/-- the walk: every second step by a, then by b -/
def eo (W H : Int) (pa pb : Int → Int) (c : Int) : Nat → Int
  | 0 => c
  | k + 1 => mt W H pb (mt W H pa (eo W H pa pb c k))
theorem eo_iso {W H : Int} {op : Int → Bool} {pa pb : Int → Int} (hW : WHr W H) (ha : Pav W H op pa) (hb : Pav W H op pb) {c : Int} (hc : iso W H op c = true) : ∀ k, iso W H op (eo W H pa pb c k) = true ∧ drk W (eo W H pa pb c k) = drk W c := by
  intro k
  induction k with
  | zero => exact ⟨hc, rfl⟩
  | succ k ih =>
    have h1 := mt_s hW ha ih.1
    have h2 := mt_s hW hb h1.1
    refine ⟨h2.1, ?_⟩
    show drk W (mt W H pb (mt W H pa (eo W H pa pb c k))) = _
    rw [h2.2.2.2.2, h1.2.2.2.2, ih.2]
    cases drk W c <;> rfl
theorem eo_inj {W H : Int} {op : Int → Bool} {pa pb : Int → Int} (hW : WHr W H) (ha : Pav W H op pa) (hb : Pav W H op pb) {c : Int} (hc : iso W H op c = true) {i j : Nat} (h : eo W H pa pb c (i + 1) = eo W H pa pb c (j + 1)) : eo W H pa pb c i = eo W H pa pb c j := by
  have i1 := (eo_iso hW ha hb hc i).1
  have j1 := (eo_iso hW ha hb hc j).1
  have a1 := mt_s hW ha i1
  have a2 := mt_s hW ha j1
  have b1 := mt_s hW hb a1.1
  have b2 := mt_s hW hb a2.1
  change mt W H pb (mt W H pa (eo W H pa pb c i)) = mt W H pb (mt W H pa (eo W H pa pb c j)) at h
  have e1 : mt W H pa (eo W H pa pb c i) = mt W H pa (eo W H pa pb c j) := by rw [← b1.2.2.1, h, b2.2.2.1]
  rw [← a1.2.2.1, e1, a2.2.2.1]
theorem eo_down {W H : Int} {op : Int → Bool} {pa pb : Int → Int} (hW : WHr W H) (ha : Pav W H op pa) (hb : Pav W H op pb) {c : Int} (hc : iso W H op c = true) : ∀ (i j : Nat), eo W H pa pb c i = eo W H pa pb c (i + j) → eo W H pa pb c j = c := by
  intro i
  induction i with
  | zero => intro j h; rw [Nat.zero_add] at h; exact h.symm
  | succ i ih =>
    intro j h
    rw [Nat.add_right_comm] at h
    exact ih j (eo_inj hW ha hb hc h)
/-- when the walk is back -/
theorem eo_per {W H : Int} {op : Int → Bool} {pa pb : Int → Int} (hW : WHr W H) (ha : Pav W H op pa) (hb : Pav W H op pb) {c : Int} (hc : iso W H op c = true) : ∃ t : Nat, 1 ≤ t ∧ eo W H pa pb c t = c ∧ (∀ i j, i < j → j < t → eo W H pa pb c i ≠ eo W H pa pb c j) ∧ 2 * (t : Int) ≤ W * H := by
  have h8 := WH_le hW
  have hr : ∀ k, 0 ≤ eo W H pa pb c k ∧ eo W H pa pb c k < W * H := fun k => (iso_t.mp (eo_iso hW ha hb hc k).1).1
  have ex : ∃ k, 1 ≤ k ∧ eo W H pa pb c k = c := by
    refine Classical.byContradiction fun hx => ?_
    have := fb_holes 64 65 (fun i => (eo W H pa pb c i).toNat) (fun i _ => by have := hr i; omega) (fun i j hij _ e => by
      have h1 := hr i
      have h2 := hr j
      have e2 : eo W H pa pb c i = eo W H pa pb c (i + (j - i)) := by rw [show i + (j - i) = j by omega]; omega
      exact hx ⟨j - i, by omega, eo_down hW ha hb hc i (j - i) e2⟩)
    omega
  obtain ⟨t, ⟨t1, t2⟩, t3⟩ := pk_least (fun k => 1 ≤ k ∧ eo W H pa pb c k = c) ex
  have hd : ∀ i j, i < j → j < t → eo W H pa pb c i ≠ eo W H pa pb c j := by
    intro i j hij hj e
    refine t3 (j - i) (by omega) ⟨by omega, eo_down hW ha hb hc i (j - i) ?_⟩
    rw [show i + (j - i) = j by omega]; exact e
  refine ⟨t, t1, t2, hd, ?_⟩
  -- both colours: 2 t cells, none twice
  have := fb_holes (W * H).toNat (2 * t) (fun i => if i < t then (eo W H pa pb c i).toNat else (mt W H pa (eo W H pa pb c (i - t))).toNat) (fun i hi => by
    split
    · have := hr i; omega
    · have := (iso_t.mp (mt_s hW ha (eo_iso hW ha hb hc (i - t)).1).1).1
      omega) (fun i j hij hj e => by
    by_cases y1 : j < t
    · rw [if_pos (by omega), if_pos y1] at e
      have h1 := hr i
      have h2 := hr j
      exact hd i j hij y1 (by omega)
    · rw [if_neg y1] at e
      have mj := mt_s hW ha (eo_iso hW ha hb hc (j - t)).1
      have mjr := (iso_t.mp mj.1).1
      by_cases y2 : i < t
      · rw [if_pos y2] at e
        have h1 := hr i
        have e2 : eo W H pa pb c i = mt W H pa (eo W H pa pb c (j - t)) := by omega
        have d1 := (eo_iso hW ha hb hc i).2
        have d2 := (eo_iso hW ha hb hc (j - t)).2
        have d3 := mj.2.2.2.2
        rw [← e2, d1, d2] at d3
        cases hq : drk W c <;> rw [hq] at d3 <;> exact absurd d3 (by decide)
      · rw [if_neg y2] at e
        have mi := mt_s hW ha (eo_iso hW ha hb hc (i - t)).1
        have mir := (iso_t.mp mi.1).1
        have e2 : mt W H pa (eo W H pa pb c (i - t)) = mt W H pa (eo W H pa pb c (j - t)) := by omega
        have e3 : eo W H pa pb c (i - t) = eo W H pa pb c (j - t) := by rw [← mi.2.2.1, e2, mj.2.2.1]
        exact hd (i - t) (j - t) (by omega) (by omega) e3)
  omega
/-- the ring of c, up to k steps of the walk -/
def ob (W H : Int) (pa pb : Int → Int) (c : Int) (k : Nat) (q : Int) : Prop := ∃ i, i < k ∧ (q = eo W H pa pb c i ∨ q = mt W H pa (eo W H pa pb c i))
theorem ob_all {W H : Int} {pa pb : Int → Int} {c : Int} {t : Nat} (h1 : 1 ≤ t) (h2 : eo W H pa pb c t = c) : ∀ i : Nat, ∃ j, j < t ∧ eo W H pa pb c i = eo W H pa pb c j := by
  intro i
  induction i with
  | zero => exact ⟨0, by omega, rfl⟩
  | succ i ih =>
    obtain ⟨j, hj, e⟩ := ih
    have e2 : eo W H pa pb c (i + 1) = eo W H pa pb c (j + 1) := by
      show mt W H pb (mt W H pa (eo W H pa pb c i)) = mt W H pb (mt W H pa (eo W H pa pb c j))
      rw [e]
    by_cases z : j + 1 < t
    · exact ⟨j + 1, z, e2⟩
    · rw [show j + 1 = t by omega, h2] at e2
      exact ⟨0, by omega, e2⟩
def OB (W H : Int) (pa pb : Int → Int) (c q : Int) : Prop := ∃ k, ob W H pa pb c k q
theorem OB_t {W H : Int} {pa pb : Int → Int} {c q : Int} {t : Nat} (h1 : 1 ≤ t) (h2 : eo W H pa pb c t = c) : OB W H pa pb c q ↔ ob W H pa pb c t q := by
  constructor
  · rintro ⟨k, i, hi, h⟩
    obtain ⟨j, hj, e⟩ := ob_all h1 h2 i
    exact ⟨j, hj, by rw [← e]; exact h⟩
  · intro h; exact ⟨t, h⟩
theorem OB_iso {W H : Int} {op : Int → Bool} {pa pb : Int → Int} (hW : WHr W H) (ha : Pav W H op pa) (hb : Pav W H op pb) {c q : Int} (hc : iso W H op c = true) (h : OB W H pa pb c q) : iso W H op q = true := by
  obtain ⟨k, i, hi, h⟩ := h
  have := (eo_iso hW ha hb hc i).1
  rcases h with h | h
  · rw [h]; exact this
  · rw [h]; exact (mt_s hW ha this).1
theorem OB_cl {W H : Int} {op : Int → Bool} {pa pb : Int → Int} (hW : WHr W H) (ha : Pav W H op pa) (hb : Pav W H op pb) {c q : Int} (hc : iso W H op c = true) (h : OB W H pa pb c q) : OB W H pa pb c (mt W H pa q) ∧ OB W H pa pb c (mt W H pb q) := by
  obtain ⟨k, i, hi, h⟩ := h
  have hi1 := (eo_iso hW ha hb hc i).1
  have m1 := mt_s hW ha hi1
  rcases h with h | h
  · refine ⟨⟨i + 1, i, by omega, Or.inr (by rw [h])⟩, ?_⟩
    obtain ⟨t, t1, t2, t3, t4⟩ := eo_per hW ha hb hc
    rw [h]
    -- back along b: from e_i to the cell before
    obtain ⟨j, hj⟩ : ∃ j, eo W H pa pb c i = eo W H pa pb c (j + 1) := by
      cases i with
      | zero => exact ⟨t - 1, by rw [show t - 1 + 1 = t by omega, t2]; rfl⟩
      | succ i => exact ⟨i, rfl⟩
    have hj1 := (eo_iso hW ha hb hc j).1
    have mj := mt_s hW ha hj1
    have mb := mt_s hW hb mj.1
    refine ⟨j + 1, j, by omega, Or.inr ?_⟩
    rw [hj]
    exact mb.2.2.1
  · refine ⟨⟨i + 1, i, by omega, Or.inl ?_⟩, ⟨i + 2, i + 1, by omega, Or.inl ?_⟩⟩
    · rw [h]; exact m1.2.2.1
    · rw [h]; rfl
noncomputable def rgS (W H : Int) (op : Int → Bool) (pa pb : Int → Int) : Nat → Int × (Int → Int)
  | 0 => (0, fun _ => -1)
  | c + 1 => if op c = true ∧ (rgS W H op pa pb c).2 c < 0 ∧ pa c ≠ pb c then ((rgS W H op pa pb c).1 + 1, fun q => if bp (OB W H pa pb c q) = true then (rgS W H op pa pb c).1 else (rgS W H op pa pb c).2 q) else rgS W H op pa pb c
theorem rgS_s {W H : Int} {op : Int → Bool} {pa pb : Int → Int} {c : Int} (h : 0 ≤ c) : rgS W H op pa pb (c + 1).toNat = if op c = true ∧ (rgS W H op pa pb c.toNat).2 c < 0 ∧ pa c ≠ pb c then ((rgS W H op pa pb c.toNat).1 + 1, fun q => if bp (OB W H pa pb c q) = true then (rgS W H op pa pb c.toNat).1 else (rgS W H op pa pb c.toNat).2 q) else rgS W H op pa pb c.toNat := by
  rw [show (c + 1).toNat = c.toNat + 1 by omega]
  show (if op ((c.toNat : Nat) : Int) = true ∧ _ then _ else _) = _
  rw [Int.toNat_of_nonneg h]
def RG (W H : Int) (op : Int → Bool) (pa pb : Int → Int) (c n : Int) (r : Int → Int) : Prop := 0 ≤ n ∧ n ≤ c ∧ (∀ q, r q = -1 ∨ (0 ≤ r q ∧ r q < n)) ∧ (∀ q, 0 ≤ r q → iso W H op q = true ∧ r (mt W H pa q) = r q ∧ r (mt W H pb q) = r q)
theorem rgS_ok {W H : Int} {op : Int → Bool} {pa pb : Int → Int} (hW : WHr W H) (ha : Pav W H op pa) (hb : Pav W H op pb) : ∀ c : Nat, (c : Int) ≤ W * H → RG W H op pa pb c (rgS W H op pa pb c).1 (rgS W H op pa pb c).2 := by
  intro c
  induction c with
  | zero => intro _; exact ⟨Int.le_refl _, Int.le_refl _, fun q => Or.inl rfl, fun q h => absurd h (by show ¬ (0 : Int) ≤ -1; decide)⟩
  | succ c ih =>
    intro hc
    obtain ⟨i1, i2, i3, i4⟩ := ih (by omega)
    show RG W H op pa pb ((c : Int) + 1) (if op c = true ∧ _ then _ else _ : Int × (Int → Int)).1 (if op c = true ∧ _ then _ else _ : Int × (Int → Int)).2
    by_cases z : op c = true ∧ (rgS W H op pa pb c).2 c < 0 ∧ pa c ≠ pb c
    · rw [if_pos z]
      have hi : iso W H op c = true := iso_t.mpr ⟨⟨by omega, by omega⟩, z.1⟩
      refine ⟨by dsimp only; omega, by dsimp only; omega, fun q => ?_, fun q hq => ?_⟩
      · dsimp only
        by_cases y : OB W H pa pb c q
        · rw [if_pos (bp_t.mpr y)]; right; omega
        · rw [if_neg (fun x => y (bp_t.mp x))]; have := i3 q; omega
      · dsimp only at hq ⊢
        by_cases y : OB W H pa pb c q
        · have y2 := OB_cl hW ha hb hi y
          rw [if_pos (bp_t.mpr y), if_pos (bp_t.mpr y2.1), if_pos (bp_t.mpr y2.2)]
          exact ⟨OB_iso hW ha hb hi y, rfl, rfl⟩
        · rw [if_neg (fun x => y (bp_t.mp x))] at hq ⊢
          obtain ⟨j1, j2, j3⟩ := i4 q hq
          have n1 : ¬ OB W H pa pb c (mt W H pa q) := fun x => y (by
            have := (OB_cl hW ha hb hi x).1
            rw [(mt_s hW ha j1).2.2.1] at this
            exact this)
          have n2 : ¬ OB W H pa pb c (mt W H pb q) := fun x => y (by
            have := (OB_cl hW ha hb hi x).2
            rw [(mt_s hW hb j1).2.2.1] at this
            exact this)
          rw [if_neg (fun x => n1 (bp_t.mp x)), if_neg (fun x => n2 (bp_t.mp x))]
          exact ⟨j1, j2, j3⟩
    · rw [if_neg z]
      exact ⟨i1, by omega, i3, i4⟩
/-- no cell of a bare ring is marked -/
theorem OB_bare {W H : Int} {op : Int → Bool} {pa pb : Int → Int} (hW : WHr W H) (ha : Pav W H op pa) (hb : Pav W H op pb) {c n : Int} {r : Int → Int} (hR : RG W H op pa pb c n r) {d q : Int} (hd : iso W H op d = true) (h : r d < 0) (hq : OB W H pa pb d q) : r q = -1 := by
  have key : ∀ i : Nat, r (eo W H pa pb d i) < 0 ∧ r (mt W H pa (eo W H pa pb d i)) < 0 := by
    have stepA : ∀ x, iso W H op x = true → r x < 0 → r (mt W H pa x) < 0 := by
      intro x hx h1
      refine Int.not_le.mp fun h2 => ?_
      have := (hR.2.2.2 _ h2).2.1
      rw [(mt_s hW ha hx).2.2.1] at this
      omega
    have stepB : ∀ x, iso W H op x = true → r x < 0 → r (mt W H pb x) < 0 := by
      intro x hx h1
      refine Int.not_le.mp fun h2 => ?_
      have := (hR.2.2.2 _ h2).2.2
      rw [(mt_s hW hb hx).2.2.1] at this
      omega
    intro i
    induction i with
    | zero => exact ⟨h, stepA _ hd h⟩
    | succ i ih =>
      have h1 := (eo_iso hW ha hb hd i).1
      have h2 := mt_s hW ha h1
      have h3 := stepB _ h2.1 ih.2
      exact ⟨h3, stepA _ (mt_s hW hb h2.1).1 h3⟩
  obtain ⟨k, i, hi, hq⟩ := hq
  have k := key i
  have h3 := hR.2.2.1 q
  rcases hq with hq | hq
  · rw [hq] at h3 ⊢; omega
  · rw [hq] at h3 ⊢; omega
