/-! rings: all of them -/
theorem rnew_j {W H : Int} {op : Int → Bool} {pa pb : Int → Int} (hW : WHr W H) (ha : Pav W H op pa) (hb : Pav W H op pb) {c n : Int} {r : Int → Int} (hR : RG W H op pa pb c n r) (hc : iso W H op c = true) (hcr : r c < 0) {j : Int} (j0 : 0 ≤ j) (j1 : j < n) : cnR (W * H) (rnew W H pa pb c n r) j = cnR (W * H) r j := by
  unfold cnR
  apply sI'_congr
  intro q _ _
  unfold rnew
  by_cases z : OB W H pa pb c q
  · have := OB_bare hW ha hb hR hc hcr z
    rw [if_pos (bp_t.mpr z), decide_eq_false (by omega), decide_eq_false (by omega)]
  · rw [if_neg (fun y => z (bp_t.mp y))]
theorem trace_s {M : Mem} {W H : Int} {op : Int → Bool} {pa pb : Int → Int} (hy : YC M W H op) (ha : Pav W H op pa) (hb : Pav W H op pb) {a b : Nat} (la : 38 < a) (lb : 38 < b) (hna : ∀ q, iso W H op q = true → gI M (a + 1) q = pa q) (hnb : ∀ q, iso W H op q = true → gI M (b + 1) q = pb q) : ∃ M2, m_X4_trace M a b = some ((rgS W H op pa pb (W * H).toNat).1, M2) ∧ (∀ q, 0 ≤ q → q < 64 → gI M2 36 q = (rgS W H op pa pb (W * H).toNat).2 q) ∧ (∀ j, 0 ≤ j → j < (rgS W H op pa pb (W * H).toNat).1 → gI M2 35 j = cnR (W * H) (rgS W H op pa pb (W * H).toNat).2 j ∧ 0 ≤ gI M2 35 j ∧ gI M2 35 j ≤ 64) ∧ Fr [35, 36] M M2 := by
  have hW := hy.2.2.1
  have h8 := WH_le hW
  obtain ⟨M1, e1, h1⟩ := fill_s M 36 (-1) 64 (by decide) (by decide)
  have f1 := fr_J7_fill_53178 e1
  unfold m_X4_trace
  rw [e1, bd1_q]
  have ec : ∀ M', Fr [35, 36] M M' → m_X10_cells M' = W * H := fun M' f => by
    unfold m_X10_cells
    rw [fI f (by decide), fI f (by decide), hy.1, hy.2.1]
  obtain ⟨⟨n, c, M2⟩, e2, g1, g2, g3, g4⟩ := for_g (f := fun s => m_X4_trace_L14 s.2.2 a b s.1 s.2.1) 0 (W * H) (fun c s => s.2.1 = c ∧ s.1 = (rgS W H op pa pb c.toNat).1 ∧ (∀ q, 0 ≤ q → q < 64 → gI s.2.2 36 q = (rgS W H op pa pb c.toNat).2 q) ∧ (∀ j, 0 ≤ j → j < (rgS W H op pa pb c.toNat).1 → gI s.2.2 35 j = cnR (W * H) (rgS W H op pa pb c.toNat).2 j ∧ 0 ≤ gI s.2.2 35 j ∧ gI s.2.2 35 j ≤ 64) ∧ Fr [35, 36] M s.2.2) (fun s => s.1 = (rgS W H op pa pb (W * H).toNat).1 ∧ (∀ q, 0 ≤ q → q < 64 → gI s.2.2 36 q = (rgS W H op pa pb (W * H).toNat).2 q) ∧ (∀ j, 0 ≤ j → j < (rgS W H op pa pb (W * H).toNat).1 → gI s.2.2 35 j = cnR (W * H) (rgS W H op pa pb (W * H).toNat).2 j ∧ 0 ≤ gI s.2.2 35 j ∧ gI s.2.2 35 j ≤ 64) ∧ Fr [35, 36] M s.2.2) (by
    rintro c ⟨n, c', M'⟩ c0 c1 ⟨g0, g1, g2, g3, g4⟩
    dsimp only at g0 g1 g2 g3 g4
    subst g0
    subst g1
    left
    have hR := rgS_ok hW ha hb c'.toNat (by omega)
    rw [Int.toNat_of_nonneg c0] at hR
    rw [rgS_s c0]
    generalize rgS W H op pa pb c'.toNat = S at *
    obtain ⟨n, r⟩ := S
    dsimp only at hR g2 g3
    have hy' := hy.fr g4 (by decide) (by decide)
    have hr3 := hR.2.2.1 c'
    have hn0 := hR.1
    have hn1 := hR.2.1
    show ∃ s2, m_X4_trace_L14 M' a b n c' = _ ∧ _
    unfold m_X4_trace_L14
    rw [ec M' g4, wr_id (x := W * H) (by omega) (by omega), wr_id (x := c') (by omega) (by omega), if_neg (by omega), if_pos (c := 0 ≤ c' ∧ c' < 64) (by omega), hy'.2.2.2 c' c0 (by omega), g2 c' c0 (by omega), wr_id (x := r c') (by omega) (by omega)]
    simp only [wrb]
    cases ho : op c'
    · rw [if_ff, bd2_q, if_neg (by simp)]
      exact ⟨_, rfl, rfl, rfl, g2, g3, g4⟩
    · have hi : iso W H op c' = true := iso_t.mpr ⟨⟨c0, c1⟩, ho⟩
      rw [if_tf]
      by_cases zr : 0 ≤ r c'
      · rw [if_pos zr, bd2_q, if_neg (by omega)]
        exact ⟨_, rfl, rfl, rfl, g2, g3, g4⟩
      · obtain ⟨a1, a2, -⟩ := stn_t hW (ha.at hW hi).1
        obtain ⟨b1, b2, -⟩ := stn_t hW (hb.at hW hi).1
        rw [if_neg zr, fI g4 (by simp; omega), fI g4 (by simp; omega), hna c' hi, hnb c' hi, wr_id (x := pa c') (by omega) (by omega), wr_id (x := pb c') (by omega) (by omega)]
        by_cases zp : pa c' = pb c'
        · rw [if_pos zp, bd2_q, if_neg (fun y => y.2.2 zp)]
          exact ⟨_, rfl, rfl, rfl, g2, g3, g4⟩
        · rw [if_neg zp, if_pos ⟨rfl, by omega, zp⟩]
          obtain ⟨M3, e3, q1, q2, q3, q4⟩ := goRound_s hy' ha hb la lb (fun q hq => (fI g4 (by simp; omega) q).trans (hna q hq)) (fun q hq => (fI g4 (by simp; omega) q).trans (hnb q hq)) hR hi (by omega) (by omega) g2
          rw [e3, bd2_q, wr_id (x := n) (by omega) (by omega), if_pos (by omega), lt_q, bd2_q]
          refine ⟨_, rfl, rfl, rfl, fun q q0 q1' => ?_, fun j j0 j1 => ?_, (g4.trans q2 (by decide)).sI (by decide) rfl⟩
          · rw [gI_sI, if_neg (by simp)]; exact q1 q q0 q1'
          · dsimp only at j1 ⊢
            rw [gI_sI]
            by_cases y : j = n
            · rw [if_pos ⟨rfl, y⟩, y]; exact ⟨rfl, q3, q4⟩
            · rw [if_neg (fun x => y x.2), fI q2 (by decide)]
              have := g3 j j0 (by omega)
              refine ⟨?_, this.2⟩
              rw [this.1]
              exact (rnew_j hW ha hb hR hi (by omega) j0 (by omega)).symm) (by
    rintro ⟨n, c', M'⟩ ⟨g0, g1, g2, g3, g4⟩
    dsimp only at g0 g1 g2 g3 g4
    refine ⟨(n, c', M'), ?_, g1, g2, g3, g4⟩
    show m_X4_trace_L14 M' a b n c' = _
    unfold m_X4_trace_L14
    rw [ec M' g4, g0, if_pos (by omega)]) (by omega) (by omega) (s0 := (0, 0, M1)) ⟨rfl, rfl, fun q q0 q1 => h1 q q0 q1, fun j j0 j1 => by
      exfalso
      change j < 0 at j1
      omega, f1.mono (by decide)⟩
  dsimp only at g1 g2 g3 g4
  rw [e2, bd3_q, g1]
  exact ⟨M2, rfl, g2, g3, g4⟩
theorem ringR_s {M : Mem} {W H : Int} {op : Int → Bool} {pa pb : Int → Int} (hy : YR M W H op) (ha : Pav W H op pa) (hb : Pav W H op pb) {a b : Int} (a0 : 0 ≤ a) (a1 : a < 4) (b0 : 0 ≤ b) (b1 : b < 4) (hna : ∀ q, iso W H op q = true → gI M 60 (64 * a + q) = pa q) (hnb : ∀ q, iso W H op q = true → gI M 60 (64 * b + q) = pb q) {c n : Int} {r : Int → Int} (hR : RG W H op pa pb c n r) (hc : iso W H op c = true) (hcr : r c < 0) (hn : n < 64) (hr : ∀ q, 0 ≤ q → q < 64 → gI M 75 q = r q) : ∃ y M2, itr (fun s => m_X12_ringMany_L91 s.2 a b n c s.1) FU (c, M) = some (y, M2) ∧ (∀ q, 0 ≤ q → q < 64 → gI M2 75 q = rnew W H pa pb c n r q) ∧ Fr [75] M M2 := by
  have hW := hy.2.2.1
  have h8 := WH_le hW
  obtain ⟨t, t1, t2, t3, t4⟩ := eo_per hW ha hb hc
  have hiso := fun k => eo_iso hW ha hb hc k
  have hme := fun k => mt_s hW ha (hiso k).1
  have hu : ∀ k : Nat, r (eo W H pa pb c k) = -1 := fun k => OB_bare hW ha hb hR hc hcr ⟨k + 1, k, by omega, Or.inl rfl⟩
  have n0 := hR.1
  obtain ⟨⟨y, M2⟩, e, r', g1, g2, g3⟩ := for_g (f := fun s => m_X12_ringMany_L91 s.2 a b n c s.1) 0 (t : Int) (fun k s => s.1 = eo W H pa pb c k.toNat ∧ ∃ r' : Int → Int, (∀ q, 0 ≤ q → q < 64 → gI s.2 75 q = r' q) ∧ (∀ q, ob W H pa pb c k.toNat q → r' q = n) ∧ (∀ q, ¬ ob W H pa pb c k.toNat q → r' q = r q) ∧ Fr [75] M s.2) (fun s => ∃ r' : Int → Int, (∀ q, 0 ≤ q → q < 64 → gI s.2 75 q = r' q) ∧ r' = rnew W H pa pb c n r ∧ Fr [75] M s.2) (by
    rintro k ⟨x, M'⟩ k0 k1 ⟨g0, r', g1, g2, g3, g4⟩
    dsimp only at g0 g1 g4
    subst g0
    left
    have hxi := (hiso k.toNat).1
    have hxr := (iso_t.mp hxi).1
    have hmi := (hme k.toNat).1
    have hmr := (iso_t.mp hmi).1
    have hnx : ¬ ob W H pa pb c k.toNat (eo W H pa pb c k.toNat) := by
      rintro ⟨i, hi, h | h⟩
      · exact t3 i k.toNat hi (by omega) h.symm
      · have d2 := (hme i).2.2.2.2
        rw [← h, (hiso k.toNat).2, (hiso i).2] at d2
        cases hq : drk W c <;> rw [hq] at d2 <;> exact absurd d2 (by decide)
    show ∃ s2, m_X12_ringMany_L91 M' a b n c (eo W H pa pb c k.toNat) = _ ∧ _
    unfold m_X12_ringMany_L91
    have f5 : Fr [75] M (sI M' 75 (eo W H pa pb c k.toNat) n) := g4.sI (by decide) rfl
    have f6 : Fr [75] M (sI (sI M' 75 (eo W H pa pb c k.toNat) n) 75 (mt W H pa (eo W H pa pb c k.toNat)) n) := f5.sI (by decide) rfl
    rw [wr_id (x := eo W H pa pb c k.toNat) (by omega) (by omega), if_pos (by omega), g1 _ (by omega) (by omega), (g3 _ hnx).trans (hu _), if_neg (by decide), lt_q, mateIn_s (hy.fr f5 (by decide) (by decide)) a0 a1 ha (fun q hq => (fI f5 (by decide) _).trans (hna q hq)) hxi, bd1_q, wr_id (x := mt W H pa (eo W H pa pb c k.toNat)) (by omega) (by omega), if_pos (by omega), lt_q, mateIn_s (hy.fr f6 (by decide) (by decide)) b0 b1 hb (fun q hq => (fI f6 (by decide) _).trans (hnb q hq)) hmi, bd1_q]
    have hk1 : (k + 1).toNat = k.toNat + 1 := by omega
    have hob : ∀ q, ob W H pa pb c (k.toNat + 1) q ↔ (ob W H pa pb c k.toNat q ∨ q = eo W H pa pb c k.toNat ∨ q = mt W H pa (eo W H pa pb c k.toNat)) := by
      intro q
      constructor
      · rintro ⟨i, hi, h⟩
        by_cases z : i = k.toNat
        · rw [z] at h; exact Or.inr h
        · exact Or.inl ⟨i, by omega, h⟩
      · rintro (⟨i, hi, h⟩ | h)
        · exact ⟨i, by omega, h⟩
        · exact ⟨k.toNat, by omega, h⟩
    refine ⟨_, rfl, by rw [hk1]; rfl, fun q => if q = eo W H pa pb c k.toNat ∨ q = mt W H pa (eo W H pa pb c k.toNat) then n else r' q, fun q q0 q1 => ?_, fun q hq => ?_, fun q hq => ?_, f6⟩
    · dsimp only
      rw [gI_sI, gI_sI]
      by_cases z1 : q = mt W H pa (eo W H pa pb c k.toNat)
      · rw [if_pos ⟨rfl, z1⟩, if_pos (Or.inr z1)]
      · rw [if_neg (fun y => z1 y.2)]
        by_cases z2 : q = eo W H pa pb c k.toNat
        · rw [if_pos ⟨rfl, z2⟩, if_pos (Or.inl z2)]
        · rw [if_neg (fun y => z2 y.2), if_neg (fun y => y.elim z2 z1)]; exact g1 q q0 q1
    · rw [hk1] at hq
      dsimp only
      by_cases z : q = eo W H pa pb c k.toNat ∨ q = mt W H pa (eo W H pa pb c k.toNat)
      · rw [if_pos z]
      · rw [if_neg z]
        rcases (hob q).mp hq with y | y
        · exact g2 q y
        · exact absurd y z
    · rw [hk1] at hq
      dsimp only
      rw [if_neg (fun z => hq ((hob q).mpr (Or.inr z)))]
      exact g3 q (fun z => hq ((hob q).mpr (Or.inl z)))) (by
    rintro ⟨x, M'⟩ ⟨g0, r', g1, g2, g3, g4⟩
    dsimp only at g0 g1 g4
    rw [Int.toNat_natCast] at g0 g2 g3
    rw [t2] at g0
    have hr' : r' = rnew W H pa pb c n r := by
      funext q
      unfold rnew
      by_cases z : OB W H pa pb c q
      · rw [if_pos (bp_t.mpr z)]; exact g2 q ((OB_t t1 t2).mp z)
      · rw [if_neg (fun y => z (bp_t.mp y))]; exact g3 q (fun y => z ((OB_t t1 t2).mpr y))
    refine ⟨(x, M'), ?_, r', g1, hr', g4⟩
    show m_X12_ringMany_L91 M' a b n c x = _
    unfold m_X12_ringMany_L91
    have hcr' := (iso_t.mp hc).1
    rw [g0, wr_id (x := c) (by omega) (by omega), if_pos (by omega), g1 c (by omega) (by omega), g2 c ⟨0, by omega, Or.inl rfl⟩, wr_id (x := n) (by omega) (by omega), if_pos n0]) (by omega) (by omega) (s0 := (c, M)) ⟨rfl, r, hr, fun q ⟨i, hi, _⟩ => by
      change i < 0 at hi
      omega, fun q _ => rfl, Fr.rf⟩
  dsimp only at g1 g3
  subst g2
  exact ⟨y, M2, e, g1, g3⟩
theorem ringMany_s {M : Mem} {W H : Int} {op : Int → Bool} {pa pb : Int → Int} (hy : YR M W H op) (ha : Pav W H op pa) (hb : Pav W H op pb) {a b : Int} (a0 : 0 ≤ a) (a1 : a < 4) (b0 : 0 ≤ b) (b1 : b < 4) (hna : ∀ q, iso W H op q = true → gI M 60 (64 * a + q) = pa q) (hnb : ∀ q, iso W H op q = true → gI M 60 (64 * b + q) = pb q) : ∃ M2, m_X12_ringMany M a b = some ((rgS W H op pa pb (W * H).toNat).1, M2) ∧ (∀ q, 0 ≤ q → q < 64 → gI M2 75 q = (rgS W H op pa pb (W * H).toNat).2 q) ∧ Fr [75] M M2 := by
  have hW := hy.2.2.1
  have h8 := WH_le hW
  unfold m_X12_ringMany
  obtain ⟨M1, e1, h1, f1⟩ := for_M (f := fun s => m_X12_ringMany_L2 s.2 a b s.1) 0 64 (fun i M' => (∀ j, 0 ≤ j → j < i → gI M' 75 j = -1) ∧ Fr [75] M M') (fun i M' h1 h2 hI => by
    show ∃ M2, m_X12_ringMany_L2 M' a b i = _ ∧ _
    unfold m_X12_ringMany_L2
    rw [show wr 64 = 64 by decide, wr_id (by omega) (by omega), if_neg (by omega), if_pos ⟨h1, h2⟩, lt_q]
    refine ⟨_, rfl, fun j q1 q2 => ?_, hI.2.sI (by decide) rfl⟩
    rw [gI_sI]
    by_cases e : j = i
    · rw [if_pos ⟨rfl, e⟩]
    · rw [if_neg (fun z => e z.2)]; exact hI.1 j q1 (by omega)) (fun M' hI => by
    show m_X12_ringMany_L2 M' a b 64 = _
    unfold m_X12_ringMany_L2
    rw [if_pos (by decide)]) (by omega) (by omega) (M0 := M) ⟨fun j q1 q2 => by omega, Fr.rf⟩
  rw [e1, bd2_q]
  obtain ⟨⟨n, c, M2⟩, e2, g1, g2, g4⟩ := for_g (f := fun s => m_X12_ringMany_L26 s.2.2 a b s.1 s.2.1) 0 (W * H) (fun c s => s.2.1 = c ∧ s.1 = (rgS W H op pa pb c.toNat).1 ∧ (∀ q, 0 ≤ q → q < 64 → gI s.2.2 75 q = (rgS W H op pa pb c.toNat).2 q) ∧ Fr [75] M s.2.2) (fun s => s.1 = (rgS W H op pa pb (W * H).toNat).1 ∧ (∀ q, 0 ≤ q → q < 64 → gI s.2.2 75 q = (rgS W H op pa pb (W * H).toNat).2 q) ∧ Fr [75] M s.2.2) (by
    rintro c ⟨n, c', M'⟩ c0 c1 ⟨g0, g1, g2, g4⟩
    dsimp only at g0 g1 g2 g4
    subst g0
    subst g1
    left
    have hR := rgS_ok hW ha hb c'.toNat (by omega)
    rw [Int.toNat_of_nonneg c0] at hR
    rw [rgS_s c0]
    generalize rgS W H op pa pb c'.toNat = S at *
    obtain ⟨n, r⟩ := S
    dsimp only at hR g2
    have hy' := hy.fr g4 (by decide) (by decide)
    have hr3 := hR.2.2.1 c'
    have hn0 := hR.1
    have hn1 := hR.2.1
    show ∃ s2, m_X12_ringMany_L26 M' a b n c' = _ ∧ _
    unfold m_X12_ringMany_L26
    rw [hy'.1, hy'.2.1, wr_id (x := W * H) (by omega) (by omega), wr_id (x := c') (by omega) (by omega), if_neg (by omega), if_pos (c := 0 ≤ c' ∧ c' < 64) (by omega), hy'.2.2.2 c' c0 (by omega), g2 c' c0 (by omega), wr_id (x := r c') (by omega) (by omega)]
    simp only [wrb]
    cases ho : op c'
    · rw [if_ff, bd2_q, if_neg (by simp)]
      exact ⟨_, rfl, rfl, rfl, g2, g4⟩
    · have hi : iso W H op c' = true := iso_t.mpr ⟨⟨c0, c1⟩, ho⟩
      rw [if_tf]
      by_cases zr : 0 ≤ r c'
      · rw [if_pos zr, bd2_q, if_neg (by omega)]
        exact ⟨_, rfl, rfl, rfl, g2, g4⟩
      · obtain ⟨a1', a2', -⟩ := stn_t hW (ha.at hW hi).1
        obtain ⟨b1', b2', -⟩ := stn_t hW (hb.at hW hi).1
        rw [if_neg zr, wr_id (x := 64 * a + c') (by omega) (by omega), wr_id (x := 64 * b + c') (by omega) (by omega), if_pos (c := 0 ≤ 64 * a + c' ∧ 64 * a + c' < 256) (by omega), if_pos (c := 0 ≤ 64 * b + c' ∧ 64 * b + c' < 256) (by omega), fI g4 (by decide), fI g4 (by decide), hna c' hi, hnb c' hi, wr_id (x := pa c') (by omega) (by omega), wr_id (x := pb c') (by omega) (by omega)]
        by_cases zp : pa c' = pb c'
        · rw [if_pos zp, bd2_q, if_neg (fun y => y.2.2 zp)]
          exact ⟨_, rfl, rfl, rfl, g2, g4⟩
        · rw [if_neg zp, if_pos ⟨rfl, by omega, zp⟩]
          obtain ⟨y, M3, e3, q1, q2⟩ := ringR_s hy' ha hb a0 a1 b0 b1 (fun q hq => (fI g4 (by decide) _).trans (hna q hq)) (fun q hq => (fI g4 (by decide) _).trans (hnb q hq)) hR hi (by omega) (by omega) g2
          rw [e3, bd2_q, bd2_q]
          exact ⟨_, rfl, rfl, rfl, q1, g4.trans q2 (by decide)⟩) (by
    rintro ⟨n, c', M'⟩ ⟨g0, g1, g2, g4⟩
    dsimp only at g0 g1 g2 g4
    refine ⟨(n, c', M'), ?_, g1, g2, g4⟩
    show m_X12_ringMany_L26 M' a b n c' = _
    unfold m_X12_ringMany_L26
    rw [fI g4 (by decide), fI g4 (by decide), hy.1, hy.2.1, g0, if_pos (by omega)]) (by omega) (by omega) (s0 := (0, 0, M1)) ⟨rfl, rfl, fun q q0 q1 => h1 q q0 q1, f1⟩
  dsimp only at g1 g2 g4
  rw [e2, bd3_q, g1]
  exact ⟨M2, rfl, g2, g4⟩
