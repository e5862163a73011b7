/-! the class's find, and its marks -/
/-- the heap after the cells below c were tried -/
def FI (W H : Int) (op : Int → Bool) (mu : Int → Int) (U : Int → Prop) (c : Int) : Prop := MT W H op mu ∧ (∀ d, U d → iso W H op d = true ∧ drk W d = true) ∧ (∀ d l, U d → adj W H op d l → U (mu l)) ∧ (∀ d, iso W H op d = true → drk W d = true → d < c → mu d = -1 → U d) ∧ (∀ d, iso W H op d = true → drk W d = true → c ≤ d → mu d = -1)
noncomputable def mtd (W H : Int) (op : Int → Bool) (mu : Int → Int) (x : Int) : Bool := bp (iso W H op x = true ∧ drk W x = true ∧ mu x ≠ -1)
theorem FI_0 {W H : Int} {op : Int → Bool} : FI W H op (fun _ => -1) (fun _ => False) 0 := ⟨fun _ _ => Or.inl rfl, fun d h => absurd h (fun q => q), fun d l h => absurd h (fun q => q), fun d d1 d2 d3 => by have := (iso_t.mp d1).1; omega, fun _ _ _ _ => rfl⟩
theorem FI_skip {W H : Int} {op : Int → Bool} {mu : Int → Int} {U : Int → Prop} {c : Int} (h : FI W H op mu U c) (hc : ¬ (iso W H op c = true ∧ drk W c = true)) : FI W H op mu U (c + 1) := by
  obtain ⟨h1, h2, h3, h4, h5⟩ := h
  refine ⟨h1, h2, h3, fun d d1 d2 d3 d4 => ?_, fun d d1 d2 d3 => h5 d d1 d2 (by omega)⟩
  have : d ≠ c := fun q => hc (q ▸ ⟨d1, d2⟩)
  exact h4 d d1 d2 (by omega) d4
theorem FI_no {W H : Int} {op : Int → Bool} {mu : Int → Int} {U Z : Int → Prop} {c : Int} (h : FI W H op mu U c) (z1 : Z c) (z2 : ∀ d, Z d → iso W H op d = true ∧ drk W d = true) (z3 : ∀ d l, Z d → adj W H op d l → Z (mu l)) : FI W H op mu (fun d => U d ∨ Z d) (c + 1) := by
  obtain ⟨h1, h2, h3, h4, h5⟩ := h
  refine ⟨h1, fun d q => q.elim (h2 d) (z2 d), fun d l q ha => q.elim (fun p => Or.inl (h3 d l p ha)) (fun p => Or.inr (z3 d l p ha)), fun d d1 d2 d3 d4 => ?_, fun d d1 d2 d3 => h5 d d1 d2 (by omega)⟩
  by_cases z : d = c
  · rw [z]; exact Or.inr z1
  · exact Or.inl (h4 d d1 d2 (by omega) d4)
theorem FI_yes {W H : Int} {op : Int → Bool} {mu mu' : Int → Int} {U : Int → Prop} {c : Int} (h : FI W H op mu U c) (hs : SU W H op true mu U c mu') : FI W H op mu' U (c + 1) := by
  obtain ⟨h1, h2, h3, h4, h5⟩ := h
  obtain ⟨s1, s2, s3⟩ := hs
  refine ⟨s1, h2, fun d l q ha => by rw [s2 d l q ha]; exact h3 d l q ha, fun d d1 d2 d3 d4 => ?_, fun d d1 d2 d3 => (s3 d d1 d2).mpr ⟨h5 d d1 d2 (by omega), by omega⟩⟩
  have := (s3 d d1 d2).mp d4
  exact h4 d d1 d2 (by omega) this.1
theorem find_s {M : Mem} {W H : Int} {op : Int → Bool} (hy : YC M W H op) : ∃ mu U M2, m_X2_find M = some ((cn (W * H).toNat (mtd W H op mu) : Int), M2) ∧ gX M2 18 mu ∧ MT W H op mu ∧ CL W H op true mu U := by
  have hW := hy.2.2.1
  have h8 := WH_le hW
  obtain ⟨M1, e1, h1⟩ := fill_s M 18 (-1) 64 (by decide) (by omega)
  have f1 := fr_J7_fill_53178 e1
  unfold m_X2_find
  rw [e1, bd1_q]
  have ks : ∀ k ∈ [18, 19, 21, 22, 23], k ∈ [18, 19, 21, 22, 23] := fun _ h => h
  obtain ⟨⟨u, z, M2⟩, e, mu, U, g1, g2, g3⟩ := for_g (f := fun t => m_X2_find_L12 t.2.2 t.1 t.2.1) 0 (W * H) (fun c t => t.2.1 = c ∧ ∃ mu U, FI W H op mu U c ∧ gX t.2.2 18 mu ∧ t.1 = (cn c.toNat (mtd W H op mu) : Int) ∧ Fr [18, 19, 21, 22, 23] M t.2.2) (fun r => ∃ mu U, FI W H op mu U (W * H) ∧ gX r.2.2 18 mu ∧ r.1 = (cn (W * H).toNat (mtd W H op mu) : Int)) (by
    rintro c ⟨u, c', M'⟩ c0 c1 ⟨g0, mu, U, g1, g2, g3, g4⟩
    dsimp only at g0 g1 g2 g3 g4
    subst g0
    left
    show ∃ s2, m_X2_find_L12 M' u c' = _ ∧ _
    have hyM := hy.fr g4 (by decide) (by decide)
    have ec : m_X10_cells M' = W * H := by unfold m_X10_cells; rw [hyM.1, hyM.2.1]
    have es : ∀ mu', cn (c' + 1).toNat (mtd W H op mu') = cn c'.toNat (mtd W H op mu') + (if mtd W H op mu' c' = true then 1 else 0) := fun mu' => by
      rw [show (c' + 1).toNat = c'.toNat + 1 by omega, cn_s, Int.toNat_of_nonneg c0]
    unfold m_X2_find_L12
    rw [ec, wr_id (x := W * H) (by omega) (by omega), wr_id (x := c') (by omega) (by omega), if_neg (by omega), if_pos (by omega), hyM.2.2.2 c' c0 (by omega)]
    simp only [wrb]
    cases ho : op c'
    · rw [if_ff, bd2_q]
      have hno : ¬ (iso W H op c' = true ∧ drk W c' = true) := fun q => by
        have := (iso_t.mp q.1).2
        rw [ho] at this
        exact absurd this (by simp)
      refine ⟨_, rfl, rfl, mu, U, FI_skip g1 hno, g2, ?_, g4⟩
      dsimp only
      rw [es, if_neg (fun q => hno ⟨(bp_t.mp q).1, (bp_t.mp q).2.1⟩)]
      exact g3
    · rw [if_tf, isDark_s hyM c0 (by omega), bd1_q]
      have hi : iso W H op c' = true := isoW c0 c1 ho
      cases hd : drk W c'
      · rw [if_ff, bd2_q]
        have hno : ¬ (iso W H op c' = true ∧ drk W c' = true) := fun q => by
          have := q.2
          rw [hd] at this
          exact absurd this (by simp)
        refine ⟨_, rfl, rfl, mu, U, FI_skip g1 hno, g2, ?_, g4⟩
        dsimp only
        rw [es, if_neg (fun q => hno ⟨(bp_t.mp q).1, (bp_t.mp q).2.1⟩)]
        exact g3
      · have hb : mu c' = -1 := g1.2.2.2.2 c' hi hd (Int.le_refl _)
        obtain ⟨b, M3, e3, f3, h3⟩ := findMateFor_s hyM g1.1 g2 hi hd hb g1.2.1 g1.2.2.1
        rw [if_tf, e3, bd2_q, bd2_q]
        rcases h3 with ⟨q1, q2, Z, z1, z2, z3⟩ | ⟨q1, mu', q2, q3⟩
        · refine ⟨_, rfl, rfl, mu, _, FI_no g1 z1 z2 z3, q2, ?_, g4.trans f3 ks⟩
          dsimp only
          rw [es, if_neg (fun q => (bp_t.mp q).2.2 hb), q1, g3]
          show _ + 0 = _
          omega
        · refine ⟨_, rfl, rfl, mu', U, FI_yes g1 q3, q2, ?_, g4.trans f3 ks⟩
          dsimp only
          have hs := q3.2.2
          have hne : mu' c' ≠ -1 := fun q => ((hs c' hi hd).mp q).2 rfl
          have ec2 : cn c'.toNat (mtd W H op mu') = cn c'.toNat (mtd W H op mu) := cn_congr _ (fun x x0 x1 => by
            unfold mtd
            rw [bp_t, bp_t]
            constructor
            · rintro ⟨p1, p2, p3⟩
              exact ⟨p1, p2, fun p => p3 ((hs x p1 p2).mpr ⟨p, by omega⟩)⟩
            · rintro ⟨p1, p2, p3⟩
              exact ⟨p1, p2, fun p => p3 ((hs x p1 p2).mp p).1⟩)
          have hmt : mtd W H op mu' c' = true := bp_t.mpr ⟨hi, hd, hne⟩
          rw [es, if_pos hmt, q1, g3, ec2]
          show _ + 1 = _
          omega) (by
    rintro ⟨u, c', M'⟩ ⟨g0, mu, U, g1, g2, g3, g4⟩
    dsimp only at g0 g1 g2 g3 g4
    have hyM := hy.fr g4 (by decide) (by decide)
    have ec : m_X10_cells M' = W * H := by unfold m_X10_cells; rw [hyM.1, hyM.2.1]
    refine ⟨(u, c', M'), ?_, mu, U, g1, g2, g3⟩
    show m_X2_find_L12 M' u c' = _
    unfold m_X2_find_L12
    rw [ec, g0, if_pos (Int.le_refl _)]) (by omega) (by omega) (s0 := (0, 0, M1)) ⟨rfl, _, _, FI_0, fun x x0 x1 => h1 x x0 x1, rfl, f1.mono (by decide)⟩
  dsimp only at g2 g3
  refine ⟨mu, U, M2, by rw [e, bd3_q, g3], g2, g1.1, g1.2.1, fun d d1 d2 d3 => ?_, g1.2.2.1⟩
  exact g1.2.2.2.1 d d1 d2 (iso_t.mp d1).1.2 d3
/-- the number of the heap is the same for all heaps with a closed set -/
theorem mtd_eq {W H : Int} {op : Int → Bool} (hW : WHr W H) {mu mu' : Int → Int} {U U' : Int → Prop} (hm : MT W H op mu) (hm' : MT W H op mu') (hU : CL W H op true mu U) (hU' : CL W H op true mu' U') : cn (W * H).toNat (mtd W H op mu) = cn (W * H).toNat (mtd W H op mu') := by
  have h8 := WH_le hW
  have h1 := (CL_12 hW hm hm' hU).1
  have h2 := (CL_12 hW hm' hm hU').1
  have e64 : ∀ (P : Int → Bool), (∀ x, P x = true → iso W H op x = true) → cn 64 P = cn (W * H).toNat P := fun P hP => by
    have key : ∀ j : Nat, cn ((W * H).toNat + j) P = cn (W * H).toNat P := by
      intro j
      induction j with
      | zero => rfl
      | succ j ih =>
        rw [show (W * H).toNat + (j + 1) = (W * H).toNat + j + 1 by omega, cn_s, ih, if_neg (fun q => by
          have := (iso_t.mp (hP _ q)).1
          omega), Nat.add_zero]
    have := key (64 - (W * H).toNat)
    rw [show (W * H).toNat + (64 - (W * H).toNat) = 64 by omega] at this
    exact this
  have sp : ∀ nu : Int → Int, cn (W * H).toNat (fun c => bp (iso W H op c = true ∧ drk W c = true)) = cn (W * H).toNat (mtd W H op nu) + bare W H op true nu := fun nu => by
    have hb : bare W H op true nu = cn (W * H).toNat (fun c => bp (iso W H op c = true ∧ drk W c = true ∧ nu c = -1)) := e64 _ (fun x q => (bp_t.mp q).1)
    rw [hb, cn_sp _ (fun c => !bp (nu c = -1))]
    congr 1
    · refine cn_congr _ (fun x _ _ => ?_)
      unfold mtd
      rw [Bool.and_eq_true, bp_t, Bool.not_eq_true', bp_f, bp_t]
      exact ⟨fun q => ⟨q.1.1, q.1.2, q.2⟩, fun q => ⟨⟨q.1, q.2.1⟩, q.2.2⟩⟩
    · refine cn_congr _ (fun x _ _ => ?_)
      rw [Bool.and_eq_true, bp_t, Bool.not_not, bp_t, bp_t]
      exact ⟨fun q => ⟨q.1.1, q.1.2, q.2⟩, fun q => ⟨⟨q.1, q.2.1⟩, q.2.2⟩⟩
  have s1 := sp mu
  have s2 := sp mu'
  omega
