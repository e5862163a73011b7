/-! the reference's doubtful cells; bar, bars -/
theorem BI_U {W H : Int} {op : Int → Bool} {col : Bool} {mu : Int → Int} {O : Int → Prop} {nbf : Int → Int → Int} {s n : Int} {L F : Int → Int} {i k : Int} (h : BI W H op col mu O nbf s n L F i k) {U : Int → Prop} (hs : U s) (hU : ∀ d l, U d → adj W H op d l → U (mu l)) : ∀ j, 0 ≤ j → j < n → U (L j) := by
  have key : ∀ m : Nat, ∀ j : Int, 0 ≤ j → j ≤ m → j < n → U (L j) := by
    intro m
    induction m with
    | zero =>
      intro j j0 j1 _
      rw [show j = 0 by omega, h.1.2]; exact hs
    | succ m ih =>
      intro j j0 j1 jn
      by_cases z : j = 0
      · rw [z, h.1.2]; exact hs
      · obtain ⟨a, l, a0, a1, q1, q2, q3⟩ := h.2.2.2.1 j (by omega) jn
        rw [← q3]
        exact hU _ _ (ih a a0 (by omega) (by omega)) q1
  exact fun j j0 j1 => key j.toNat j j0 (by omega) j1
theorem mkR_eq {W H : Int} {op : Int → Bool} {R R' : Int → Prop} (h : ∀ d, R d ↔ R' d) (x : Int) : mkR W H op R x = mkR W H op R' x := by
  have : R = R' := funext (fun d => propext (h d))
  rw [this]
theorem mkR_r {W H : Int} {op : Int → Bool} {R : Int → Prop} {x : Int} : 0 ≤ mkR W H op R x ∧ mkR W H op R x ≤ 2 := by
  unfold mkR
  split
  · omega
  · split <;> omega
theorem doubtAll_s {M : Mem} {W H : Int} {op : Int → Bool} (hy : YR M W H op) {a : Int} (ha : a = 0 ∨ a = 1) {col : Bool} (hcol : col = decide (a = 0)) : ∃ (mu : Int → Int) (U R : Int → Prop) (M2 : Mem), m_X12_doubtAll M a = some M2 ∧ MT W H op mu ∧ CL W H op col mu U ∧ LeC W H op col mu R ∧ ∀ x, 0 ≤ x → x < 64 → gI M2 70 x = mkR W H op R x := by
  have hW := hy.2.2.1
  have h8 := WH_le hW
  obtain ⟨mu, U1, M3, e3, h3, hm, hU1⟩ := matches_s hy
  have f3 := fr_X12_matches e3
  have hy3 := hy.fr f3 (by decide) (by decide)
  obtain ⟨U, hU⟩ : ∃ U, CL W H op col mu U := by
    cases col
    · exact ⟨_, CL_light hW hm hU1⟩
    · exact ⟨_, hU1⟩
  have hv : ∀ b : Bool, (wr (bI b) = wr (if wr a = 0 then 1 else 0)) = (b = col) := fun b => by
    rw [hcol]
    rcases ha with z | z <;> subst z <;> cases b <;> decide
  generalize hr2 : (cn (W * H).toNat (mtd W H op mu) : Int) = r2 at *
  have hr2' : 0 ≤ r2 ∧ r2 ≤ 64 := by
    have : ∀ m : Nat, cn m (mtd W H op mu) ≤ m := by
      intro m
      induction m with
      | zero => exact Nat.le_refl _
      | succ m ih => rw [cn_s]; split <;> omega
    have := this (W * H).toNat
    omega
  unfold m_X12_doubtAll
  rw [e3, bd2_q]
  -- nothing is marked
  obtain ⟨M5, e5, h5, f5⟩ := for_M (f := fun s => m_X12_doubtAll_L7 s.2 a r2 s.1) 0 64 (fun i M' => (∀ x, 0 ≤ x → x < i → gI M' 70 x = 0) ∧ Fr [70] M3 M') (fun i M' i0 i1 hI => by
    show ∃ M2, m_X12_doubtAll_L7 M' a r2 i = _ ∧ _
    unfold m_X12_doubtAll_L7
    rw [show wr 64 = 64 by decide, wr_id (x := i) (by omega) (by omega), if_neg (by omega), wr_id (x := r2) (by omega) (by omega), if_pos hr2'.1, lt_q, if_pos (by omega), lt_q]
    refine ⟨_, rfl, fun x x0 x1 => ?_, hI.2.sI (by decide) rfl⟩
    rw [gI_sI]
    by_cases z : x = i
    · rw [if_pos ⟨rfl, z⟩]
    · rw [if_neg (fun q => z q.2)]; exact hI.1 x x0 (by omega)) (fun M' hI => by
    show m_X12_doubtAll_L7 M' a r2 64 = _
    unfold m_X12_doubtAll_L7
    rw [if_pos (by decide)]) (by omega) (by omega) (M0 := M3) ⟨fun x x0 x1 => by omega, Fr.rf⟩
  obtain ⟨M7, e7, h7⟩ := forgets_s M5
  have f7 := fr_X12_forgets e7
  have f57 : Fr [68, 69, 70] M3 M7 := (f5.mono (by decide)).trans f7 (by decide)
  rw [e5, bd2_q, e7, bd1_q]
  -- the searches
  obtain ⟨M8, e8, R, F8, k1, k2, k3, k4, k5, k6⟩ := for_M (f := fun t => m_X12_doubtAll_L40 t.2 a t.1) 0 (W * H) (fun c M' => ∃ (O : Int → Prop) (F : Int → Int), (∀ d, O d → LsP W H op col mu d) ∧ (∀ d, iso W H op d = true → drk W d = col → mu d = -1 → d < c → O d) ∧ (∀ d l, O d → adj W H op d l → O (mu l)) ∧ (∀ l, iso W H op l = true → drk W l = !col → F l = -1 ∨ (0 ≤ F l ∧ F l < 64 ∧ O (mu l))) ∧ RF W H op col O 0 (fun _ => 0) F M' ∧ Fr [68, 69] M7 M') (fun c M' c0 c1 hI => by
    show ∃ M2, m_X12_doubtAll_L40 M' a c = _ ∧ _
    obtain ⟨O, F, k1, k2, k3, k4, k5, k6⟩ := hI
    have f0 : Fr [68, 69, 70] M3 M' := f57.trans k6 (by decide)
    have hyM := hy3.fr f0 (by decide) (by decide)
    have keep : (iso W H op c = true → drk W c = col → mu c = -1 → O c) → ∀ d, iso W H op d = true → drk W d = col → mu d = -1 → d < c + 1 → O d := fun hno d d1 d2 d3 d4 => by
      by_cases z : d = c
      · rw [z] at d1 d2 d3 ⊢; exact hno d1 d2 d3
      · exact k2 d d1 d2 d3 (by omega)
    unfold m_X12_doubtAll_L40
    rw [hyM.1, hyM.2.1, wr_id (x := W * H) (by omega) (by omega), wr_id (x := c) (by omega) (by omega), if_neg (by omega), if_pos (by omega), hyM.2.2.2 c c0 (by omega)]
    simp only [wrb]
    cases ho : op c
    · rw [if_ff, bd1_q]
      exact ⟨M', rfl, O, F, k1, keep (fun q => by have := (iso_t.mp q).2; rw [ho] at this; exact absurd this (by simp)), k3, k4, k5, k6⟩
    · have hi : iso W H op c = true := isoW c0 c1 ho
      rw [if_tf, isDarkCellR_s hyM c0 (by omega), bd1_q, lt_q]
      simp only [hv]
      by_cases hd : drk W c = col
      rotate_left
      · rw [if_neg hd, bd1_q]
        exact ⟨M', rfl, O, F, k1, keep (fun _ q => absurd q hd), k3, k4, k5, k6⟩
      · have hmr : mu c = -1 ∨ (0 ≤ mu c ∧ mu c < 64) := by
          rcases hm c hi with p | p
          · exact Or.inl p
          · have := adj_r hW p.1; exact Or.inr ⟨this.2.2.1, this.2.2.2⟩
        have e67 : gI M' 67 c = mu c := (fI f0 (by decide) c).trans (h3 c c0 (by omega))
        rw [if_pos hd, e67, wr_id (x := mu c) (by omega) (by omega)]
        rcases hmr with p | p
        rotate_left
        · rw [if_pos p.1, bd1_q]
          exact ⟨M', rfl, O, F, k1, keep (fun _ _ q => by omega), k3, k4, k5, k6⟩
        · have hx := (k5 c hi).2 hd
          rw [if_neg (by omega), wr_id (x := gI M' 68 c) (by omega) (by omega)]
          by_cases t : 0 ≤ gI M' 68 c
          · rw [if_pos t, bd1_q]
            refine ⟨M', rfl, O, F, k1, keep (fun _ _ _ => ?_), k3, k4, k5, k6⟩
            rcases hx.2.2.mp t with ⟨j, j0, j1, -⟩ | q
            · omega
            · exact q
          · have hnO : ¬ O c := fun q => t (hx.2.2.mpr (Or.inr q))
            rw [if_neg t]
            have hLs : LsP W H op col mu c := fun V hV => hV.2.1 c hi hd p
            rcases searches_s hyM hm (gX_fr h3 f0 (by decide)) hi hd hnO k4 k5 with ⟨M4, n, L, F', i, e4, q2, q3⟩ | ⟨l, M4, e4, n, L, F', i, k, i0, i1, p1, p2, p3, p4, p5, p6⟩
            rotate_left
            · exfalso
              have h1 := BI_U p1 (hLs U hU) hU.2.2 i i0 i1
              have h2 := hU.2.2 _ _ h1 p2
              rw [p4] at h2
              have := iso_r hW (hU.1 _ h2).1
              omega
            · rw [e4, bd2_q, bd1_q]
              refine ⟨M4, rfl, fun d => O d ∨ inL n L d, F', fun d q => ?_, fun d d1 d2 d3 d4 => ?_, fun d l q ha => ?_, fun l l1 l2 => ?_, fun x x1 => ⟨(q3.2.2.1 x x1).1, fun x2 => ?_⟩, k6.trans q3.2.2.2 (by decide)⟩
              · rcases q with q | ⟨j, j0, j1, ej⟩
                · exact k1 d q
                · rw [← ej]
                  exact fun V hV => BI_U q3.1 (hLs V hV) hV.2.2 j j0 j1
              · by_cases z : d = c
                · rw [z]
                  exact Or.inr ⟨0, by omega, by have := q3.1.1.1; omega, q3.1.1.2⟩
                · exact Or.inl (k2 d d1 d2 d3 (by omega))
              · rcases q with q | q
                · exact Or.inl (k3 d l q ha)
                · exact (BI_end (besR_N (op := op) hW) q3.1 q2 q ha).2
              · rcases q3.1.2.2.2.2.1 l l1 l2 with q | ⟨r1, r2, r3⟩
                · exact Or.inl q
                · refine Or.inr ⟨r1, r2, ?_⟩
                  rcases r3 with r3 | ⟨_, _, _, _, _, r3⟩
                  · exact Or.inl r3
                  · exact Or.inr r3
              · have hq := (q3.2.2.1 x x1).2 x2
                refine ⟨hq.1, hq.2.1, hq.2.2.trans ?_⟩
                exact ⟨fun y => Or.inr (y.elim Or.inr Or.inl), fun y => y.elim (fun ⟨j, j0, j1, _⟩ => by omega) (fun y => y.elim Or.inr Or.inl)⟩) (fun M' hI => by
    show m_X12_doubtAll_L40 M' a (W * H) = _
    obtain ⟨O, F, k1, k2, k3, k4, k5, k6⟩ := hI
    have hyM := hy3.fr (f57.trans k6 (by decide)) (by decide) (by decide)
    unfold m_X12_doubtAll_L40
    rw [hyM.1, hyM.2.1, if_pos (Int.le_refl _)]) (by omega) (by omega) (M0 := M7) ⟨fun _ => False, fun _ => -1, fun d q => absurd q (fun q => q), fun d d1 _ _ d4 => by have := (iso_t.mp d1).1; omega, fun d l q => absurd q (fun q => q), fun _ _ _ => Or.inl rfl, fun x x1 => by
      have xr := iso_r hW x1
      refine ⟨fun _ => h7 x xr.1 xr.2, fun _ => ?_⟩
      rw [h7 x xr.1 xr.2]
      refine ⟨by omega, by omega, fun q => by omega, fun q => ?_⟩
      rcases q with ⟨j, j0, j1, -⟩ | q
      · omega
      · exact absurd q (fun q => q), Fr.rf⟩
  rw [e8, bd2_q]
  have f8 : Fr [68, 69, 70] M3 M8 := f57.trans k6 (by decide)
  have hy8 := hy3.fr f8 (by decide) (by decide)
  have hRi : ∀ d, R d → iso W H op d = true ∧ drk W d = col := fun d q => hU.1 d (k1 d q U hU)
  have h70 : ∀ x, 0 ≤ x → x < 64 → gI M8 70 x = 0 := fun x x0 x1 => by
    rw [fI k6 (by decide), fI f7 (by decide)]; exact h5 x x0 x1
  have hLC : LeC W H op col mu R := ⟨fun d d1 d2 d3 => k2 d d1 d2 d3 (iso_t.mp d1).1.2, k3, fun V hV d q => k1 d q V hV⟩
  -- the doubtful are told
  obtain ⟨M9, e9, h9, f9⟩ := for_M (f := fun t => m_X12_doubtAll_L111 t.2 a t.1) 0 (W * H) (fun c M' => (∀ x, 0 ≤ x → x < 64 → gI M' 70 x = if x < c ∧ bp (R x) = true then 2 else 0) ∧ Fr [70] M8 M') (fun c M' c0 c1 hI => by
    show ∃ M2, m_X12_doubtAll_L111 M' a c = _ ∧ _
    have hyM := hy8.fr hI.2 (by decide) (by decide)
    unfold m_X12_doubtAll_L111
    rw [hyM.1, hyM.2.1, wr_id (x := W * H) (by omega) (by omega), wr_id (x := c) (by omega) (by omega), if_neg (by omega), if_pos (by omega), hyM.2.2.2 c c0 (by omega)]
    simp only [wrb]
    obtain ⟨v, ev, hv2⟩ : ∃ v, (if op c = false then some 0 else if wr (gI M' 68 c) < 0 then some 0 else bd1 (m_X12_isDarkCell M' c) fun b34 => lt (if wr a = 0 then 1 else 0) fun (v36 : Int) => if wr (bI b34) = wr v36 then some 2 else some 0) = some v ∧ v = if bp (R c) = true then (2 : Int) else 0 := by
      cases ho : op c
      · have : ¬ bp (R c) = true := fun q => by
          have := (iso_t.mp (hRi c (bp_t.mp q)).1).2
          rw [ho] at this
          exact absurd this (by simp)
        rw [if_neg this, if_ff]
        exact ⟨0, rfl, rfl⟩
      · have hi : iso W H op c = true := isoW c0 c1 ho
        rw [if_tf, isDarkCellR_s hyM c0 (by omega), bd1_q, lt_q, fI hI.2 (by decide)]
        simp only [hv]
        by_cases hd : drk W c = col
        · have hx := (k5 c hi).2 hd
          rw [if_pos hd, wr_id (x := gI M8 68 c) (by omega) (by omega)]
          by_cases t : gI M8 68 c < 0
          · have : ¬ bp (R c) = true := fun q => by
              have := hx.2.2.mpr (Or.inr (bp_t.mp q))
              omega
            rw [if_pos t, if_neg this]
            exact ⟨0, rfl, rfl⟩
          · have : bp (R c) = true := bp_t.mpr (by
              rcases hx.2.2.mp (by omega) with ⟨j, j0, j1, -⟩ | q
              · omega
              · exact q)
            rw [if_neg t, if_pos this]
            exact ⟨2, rfl, rfl⟩
        · have : ¬ bp (R c) = true := fun q => hd (hRi c (bp_t.mp q)).2
          rw [if_neg hd, if_neg this]
          refine ⟨0, ?_, rfl⟩
          split <;> rfl
    rw [ev, bd1_q, lt_q]
    refine ⟨_, rfl, fun x x0 x1 => ?_, hI.2.sI (by decide) rfl⟩
    rw [gI_sI]
    by_cases z : x = c
    · rw [if_pos ⟨rfl, z⟩, hv2, z]
      by_cases q : bp (R c) = true
      · rw [if_pos q, if_pos ⟨by omega, q⟩]
      · rw [if_neg q, if_neg (fun p => q p.2)]
    · rw [if_neg (fun q => z q.2), hI.1 x x0 x1]
      by_cases q : x < c ∧ bp (R x) = true
      · rw [if_pos q, if_pos ⟨by omega, q.2⟩]
      · rw [if_neg q, if_neg (fun p => q ⟨by omega, p.2⟩)]) (fun M' hI => by
    show m_X12_doubtAll_L111 M' a (W * H) = _
    have hyM := hy8.fr hI.2 (by decide) (by decide)
    unfold m_X12_doubtAll_L111
    rw [hyM.1, hyM.2.1, if_pos (Int.le_refl _)]) (by omega) (by omega) (M0 := M8) ⟨fun x x0 x1 => by rw [h70 x x0 x1, if_neg (by omega)], Fr.rf⟩
  have hy9 := hy8.fr f9 (by decide) (by decide)
  have h9' : ∀ x, 0 ≤ x → x < 64 → gI M9 70 x = if bp (R x) = true then 2 else 0 := fun x x0 x1 => by
    rw [h9 x x0 x1]
    by_cases q : bp (R x) = true
    · rw [if_pos q, if_pos ⟨(iso_t.mp (hRi x (bp_t.mp q)).1).1.2, q⟩]
    · rw [if_neg q, if_neg (fun p => q p.2)]
  rw [e9, bd2_q]
  have hNx : ∀ x, iso W H op x = true → (NU W H op R x ↔ ∃ m, 0 ≤ m ∧ m < 4 ∧ 0 ≤ besR W H op x m ∧ R (besR W H op x m)) := fun x hx => by
    constructor
    · rintro ⟨d, q1, q2⟩
      obtain ⟨m, m0, m1, em⟩ := (besR_N (op := op) hW x hx).2 d (adj_c q2)
      exact ⟨m, m0, m1, by rw [em]; exact (adj_r hW q2).1, by rw [em]; exact q1⟩
    · rintro ⟨m, m0, m1, m2, m3⟩
      rcases (besR_N (op := op) hW x hx).1 m m0 m1 with q | q
      · omega
      · exact ⟨_, m3, adj_c q⟩
  -- those beside them
  obtain ⟨M10, e10, h10, f10⟩ := for_M (f := fun t => m_X12_doubtAll_L178 t.2 t.1) 0 (W * H) (fun c M' => (∀ x, 0 ≤ x → x < 64 → gI M' 70 x = if x < c then mkR W H op R x else if bp (R x) = true then 2 else 0) ∧ Fr [70] M9 M') (fun c M' c0 c1 hI => by
    show ∃ M2, m_X12_doubtAll_L178 M' c = _ ∧ _
    have hyM := hy9.fr hI.2 (by decide) (by decide)
    have two : ∀ x, 0 ≤ x → x < 64 → (gI M' 70 x = 2 ↔ R x) ∧ 0 ≤ gI M' 70 x ∧ gI M' 70 x ≤ 2 := fun x x0 x1 => by
      have hr := mkR_r (W := W) (H := H) (op := op) (R := R) (x := x)
      rw [hI.1 x x0 x1]
      by_cases q : R x
      · have e1 : mkR W H op R x = 2 := by unfold mkR; rw [if_pos (bp_t.mpr q)]
        rw [if_pos (bp_t.mpr q), e1]
        split <;> exact ⟨⟨fun _ => q, fun _ => rfl⟩, by omega, by omega⟩
      · have nq : ¬ bp (R x) = true := fun p => q (bp_t.mp p)
        have e1 : mkR W H op R x ≠ 2 := by
          unfold mkR
          rw [if_neg nq]
          split <;> omega
        rw [if_neg nq]
        split
        · exact ⟨⟨fun p => absurd p e1, fun p => absurd p q⟩, hr.1, hr.2⟩
        · exact ⟨⟨fun p => by omega, fun p => absurd p q⟩, by omega, by omega⟩
    unfold m_X12_doubtAll_L178
    rw [hyM.1, hyM.2.1, wr_id (x := W * H) (by omega) (by omega), wr_id (x := c) (by omega) (by omega), if_neg (by omega)]
    have vz : ∀ k, (if bp (R c) = true then (2 : Int) else if bp (∃ m, 0 ≤ m ∧ m < k ∧ 0 ≤ besR W H op c m ∧ R (besR W H op c m)) = true then 1 else 0) = 0 → ¬ R c := fun k q p => by
      rw [if_pos (bp_t.mpr p)] at q; omega
    obtain ⟨⟨y, M2⟩, e2, g1, g2⟩ := for_g (f := fun t => m_X12_doubtAll_L194 t.2 c t.1) 0 4 (fun k t => t.1 = k ∧ (0 < k → op c = true) ∧ (∀ x, 0 ≤ x → x < 64 → gI t.2 70 x = if x = c then (if bp (R c) = true then 2 else if bp (∃ m, 0 ≤ m ∧ m < k ∧ 0 ≤ besR W H op c m ∧ R (besR W H op c m)) = true then 1 else 0) else gI M' 70 x) ∧ Fr [70] M9 t.2) (fun r => (∀ x, 0 ≤ x → x < 64 → gI r.2 70 x = if x = c then mkR W H op R c else gI M' 70 x) ∧ Fr [70] M9 r.2) (by
      rintro k ⟨k', My⟩ k0 k1 ⟨g0, go, g1, g2⟩
      dsimp only at g0 g1 g2
      subst g0
      show (∃ s2, m_X12_doubtAll_L194 My c k' = _ ∧ _) ∨ (∃ r, m_X12_doubtAll_L194 My c k' = _ ∧ _)
      have hyy := hy9.fr g2 (by decide) (by decide)
      have ec := g1 c c0 (by omega)
      rw [if_pos rfl] at ec
      unfold m_X12_doubtAll_L194
      rw [show wr 4 = 4 by decide, wr_id (x := k') (by omega) (by omega), if_neg (by omega), wr_id (x := c) (by omega) (by omega), if_pos (by omega), hyy.2.2.2 c c0 (by omega)]
      simp only [wrb]
      cases ho : op c
      · right
        rw [if_ff]
        have hk0 : k' = 0 := Classical.byContradiction (fun q => by have := go (by omega); rw [ho] at this; exact absurd this (by simp))
        have hnR : ¬ R c := fun q => by
          have := (iso_t.mp (hRi c q).1).2
          rw [ho] at this
          exact absurd this (by simp)
        refine ⟨_, rfl, fun x x0 x1 => ?_, g2⟩
        dsimp only
        rw [g1 x x0 x1]
        by_cases z : x = c
        · rw [if_pos z, if_pos z]
          unfold mkR
          have t1 : ¬ bp (∃ m, 0 ≤ m ∧ m < k' ∧ 0 ≤ besR W H op c m ∧ R (besR W H op c m)) = true := fun q => by
            obtain ⟨m, m0, m1, -⟩ := bp_t.mp q; omega
          have t2 : ¬ bp (NU W H op R c) = true := fun q => by
            obtain ⟨d, -, q2⟩ := bp_t.mp q
            have := (iso_t.mp q2.2.1).2
            rw [ho] at this
            exact absurd this (by simp)
          rw [if_neg t1, if_neg t2]
        · rw [if_neg z, if_neg z]
      · have hi : iso W H op c = true := isoW c0 c1 ho
        rw [if_tf, ec]
        by_cases hR : R c
        · right
          rw [if_pos (bp_t.mpr hR), if_neg (by decide)]
          refine ⟨_, rfl, fun x x0 x1 => ?_, g2⟩
          dsimp only
          rw [g1 x x0 x1]
          unfold mkR
          rw [if_pos (bp_t.mpr hR), if_pos (bp_t.mpr hR)]
        · have nR : ¬ bp (R c) = true := fun q => hR (bp_t.mp q)
          rw [if_neg nR]
          by_cases hE : ∃ m, 0 ≤ m ∧ m < k' ∧ 0 ≤ besR W H op c m ∧ R (besR W H op c m)
          · right
            rw [if_pos (bp_t.mpr hE), if_neg (by decide)]
            refine ⟨_, rfl, fun x x0 x1 => ?_, g2⟩
            dsimp only
            rw [g1 x x0 x1]
            unfold mkR
            have t2 : bp (NU W H op R c) = true := bp_t.mpr ((hNx c hi).mpr (by
              obtain ⟨m, m0, m1, m2⟩ := hE
              exact ⟨m, m0, by omega, m2⟩))
            rw [if_neg nR, if_neg nR, if_pos (bp_t.mpr hE), if_pos t2]
          · left
            rw [if_neg (fun q => hE (bp_t.mp q)), if_pos (by decide), besideR_s hyy c0 (by omega) k0 k1, bd1_q]
            have hst : (∃ m, 0 ≤ m ∧ m < k' + 1 ∧ 0 ≤ besR W H op c m ∧ R (besR W H op c m)) ↔ (0 ≤ besR W H op c k' ∧ R (besR W H op c k')) := by
              constructor
              · rintro ⟨m, m0, m1, m2⟩
                by_cases z : m = k'
                · rw [z] at m2; exact m2
                · exact absurd ⟨m, m0, by omega, m2⟩ hE
              · intro q
                exact ⟨k', k0, by omega, q⟩
            obtain ⟨v, ev, hv2⟩ : ∃ v, (if wr (besR W H op c k') < 0 then some 0 else if 0 ≤ wr (besR W H op c k') ∧ wr (besR W H op c k') < 64 then if wr (gI My 70 (wr (besR W H op c k'))) = wr 2 then some 1 else some 0 else none) = some v ∧ v = if bp (∃ m, 0 ≤ m ∧ m < k' + 1 ∧ 0 ≤ besR W H op c m ∧ R (besR W H op c m)) = true then (1 : Int) else 0 := by
              rcases (besR_N (op := op) hW c hi).1 k' k0 k1 with q | q
              · rw [q, if_pos (by decide), if_neg (fun p => by have := (hst.mp (bp_t.mp p)).1; omega)]
                exact ⟨0, rfl, rfl⟩
              · have hr := adj_r hW q
                have nec : besR W H op c k' ≠ c := fun p => by
                  have := adj_d q
                  rw [p] at this
                  exact nc this
                rw [wr_id (x := besR W H op c k') (by omega) (by omega), if_neg (by omega), if_pos ⟨hr.2.2.1, hr.2.2.2⟩, g1 _ hr.2.2.1 hr.2.2.2, if_neg nec]
                have tw := two _ hr.2.2.1 hr.2.2.2
                rw [wr_id (x := gI M' 70 (besR W H op c k')) (by omega) (by omega), show wr 2 = 2 by decide]
                by_cases p : gI M' 70 (besR W H op c k') = 2
                · rw [if_pos p, if_pos (bp_t.mpr (hst.mpr ⟨hr.2.2.1, tw.1.mp p⟩))]
                  exact ⟨1, rfl, rfl⟩
                · rw [if_neg p, if_neg (fun r => p (tw.1.mpr (hst.mp (bp_t.mp r)).2))]
                  exact ⟨0, rfl, rfl⟩
            rw [ev, bd1_q, lt_q]
            refine ⟨_, rfl, rfl, fun _ => rfl, fun x x0 x1 => ?_, g2.sI (by decide) rfl⟩
            dsimp only
            rw [gI_sI]
            by_cases z : x = c
            · rw [if_pos ⟨rfl, z⟩, if_pos z, hv2, if_neg nR]
            · rw [if_neg (fun q => z q.2), if_neg z, g1 x x0 x1, if_neg z]) (by
      rintro ⟨k', My⟩ ⟨g0, go, g1, g2⟩
      dsimp only at g0 g1 g2
      have hi : iso W H op c = true := isoW c0 c1 (go (by omega))
      refine ⟨(k', My), ?_, fun x x0 x1 => ?_, g2⟩
      · show m_X12_doubtAll_L194 My c k' = _
        unfold m_X12_doubtAll_L194
        rw [g0, if_pos (by decide)]
      · dsimp only
        rw [g1 x x0 x1]
        unfold mkR
        rw [bp_congr (hNx c hi)]) (by omega) (by omega) (s0 := (0, M')) (by
      refine ⟨rfl, fun q => by omega, fun x x0 x1 => ?_, hI.2⟩
      dsimp only
      by_cases z : x = c
      · have t1 : ¬ bp (∃ m, 0 ≤ m ∧ m < 0 ∧ 0 ≤ besR W H op c m ∧ R (besR W H op c m)) = true := fun q => by
          obtain ⟨m, m0, m1, -⟩ := bp_t.mp q; omega
        rw [if_pos z, if_neg t1, hI.1 x x0 x1, if_neg (by omega), z]
      · rw [if_neg z])
    rw [e2, bd2_q]
    refine ⟨M2, rfl, fun x x0 x1 => ?_, g2⟩
    have := g1 x x0 x1
    dsimp only at this
    rw [this]
    by_cases z : x = c
    · rw [if_pos z, if_pos (by omega), z]
    · rw [if_neg z, hI.1 x x0 x1]
      by_cases q : x < c
      · rw [if_pos q, if_pos (c := x < c + 1) (by omega)]
      · rw [if_neg q, if_neg (c := x < c + 1) (by omega)]) (fun M' hI => by
    show m_X12_doubtAll_L178 M' (W * H) = _
    have hyM := hy9.fr hI.2 (by decide) (by decide)
    unfold m_X12_doubtAll_L178
    rw [hyM.1, hyM.2.1, if_pos (Int.le_refl _)]) (by omega) (by omega) (M0 := M9) ⟨fun x x0 x1 => by rw [if_neg (by omega)]; exact h9' x x0 x1, Fr.rf⟩
  rw [e10, bd2_q]
  refine ⟨mu, U, R, M10, rfl, hm, hU, hLC, fun x x0 x1 => ?_⟩
  rw [h10 x x0 x1]
  by_cases z : x < W * H
  · rw [if_pos z]
  · rw [if_neg z]
    unfold mkR
    have t1 : ¬ bp (R x) = true := fun q => by
      have := (iso_t.mp (hRi x (bp_t.mp q)).1).1; omega
    have t2 : ¬ bp (NU W H op R x) = true := fun q => by
      obtain ⟨d, -, q2⟩ := bp_t.mp q
      have := (iso_t.mp q2.2.1).1; omega
    rw [if_neg t1, if_neg t1, if_neg t2]
theorem op_bar {M : Mem} (hI : Inv M) {a b : Int} (ha : -2147483648 ≤ a) (ha2 : a ≤ 2147483647) (hb : -2147483648 ≤ b) (hb2 : b ≤ 2147483647) : OpI (fun M => m_X11_bar M a b) (fun M => m_X12_bar M a b) M := by
  have hI' := hI
  obtain ⟨W, H, op, wa, pr, hd, on, ts, tp, ln, sz, it, hA⟩ := hI'
  have hA' := hA
  obtain ⟨hC, hR, hwf, hD, hS⟩ := hA'
  have hW := hwf.1.1
  have h8 := WH_le hW
  unfold OpI m_X11_bar m_X12_bar
  dsimp only
  have hin : ∀ z : Int, -2147483648 ≤ z → z ≤ 2147483647 → m_X12_in (i2l z) (0 : Int64) (1 : Int64) = some (decide (0 ≤ z ∧ z ≤ 1)) := fun z z0 z1 => by
    rw [l_0, l_1]; exact in_s z0 z1 (by omega) (by omega) (by omega) (by omega)
  rw [wr_id ha ha2, wr_id hb hb2, show wr 1 = 1 by decide, hin a ha ha2, hin b hb hb2]
  simp only [bd1_q, wrb, lt_q]
  by_cases c1 : 0 ≤ a ∧ a ≤ 1
  rotate_left
  · rw [if_neg (by omega), if_neg (by omega), decide_eq_false c1]
    exact ⟨-1, M, M, rfl, rfl, hI⟩
  by_cases c2 : 0 ≤ b ∧ b ≤ 1
  rotate_left
  · have hbb : ∀ X : Option (Int × Mem), (if b = 0 then X else if b = 1 then X else some (-1, M)) = some (-1, M) := fun X => by
      rw [if_neg (by omega), if_neg (by omega)]
    rw [hbb, decide_eq_true c1, decide_eq_false c2]
    have : (if a = 0 then some (-1, M) else if a = 1 then some (-1, M) else some (-1, M)) = some ((-1 : Int), M) := by
      split
      · rfl
      · split <;> rfl
    exact ⟨-1, M, M, this, rfl, hI⟩
  rw [decide_eq_true c1, decide_eq_true c2]
  simp only [if_tf]
  have hca : a = 0 ∨ a = 1 := by omega
  have hcb : b = 0 ∨ b = 1 := by omega
  have hbb : ∀ X : Option (Int × Mem), (if b = 0 then X else if b = 1 then X else some (-1, M)) = X := fun X => by
    rcases hcb with z | z
    · rw [if_pos z]
    · rw [if_neg (by omega), if_pos z]
  have haa : ∀ X : Option (Int × Mem), (if a = 0 then X else if a = 1 then X else some (-1, M)) = X := fun X => by
    rcases hca with z | z
    · rw [if_pos z]
    · rw [if_neg (by omega), if_pos z]
  rw [hbb, haa]
  have ev : (if a = 0 then (1 : Int) else 0) = bI (decide (a = 0)) := by
    rcases hca with z | z <;> subst z <;> rfl
  rw [ev]
  obtain ⟨mu, U, R, M1, e1, hm, hU, hL, h1⟩ := markBar_s hC.1.1 (decide (a = 0))
  have f1 := fr_X2_markBar e1
  have hC1 := hC.fr f1 (by decide)
  have hR1 := hR.fr f1 (by decide)
  obtain ⟨mu', U', R', M2, e2, hm', hU', hL', h2⟩ := doubtAll_s hR1.1.1 hca rfl
  have f2 := fr_X12_doubtAll e2
  have hR2 := hR1.fr f2 (by decide)
  have hRR := LeC_eq hW hm hm' hU hU' hL hL'
  have ew : (if b = 0 then (2 : Int) else 1) = 2 - b := by
    rcases hcb with z | z <;> subst z <;> rfl
  have ec : m_X10_cells M1 = W * H := by unfold m_X10_cells; rw [hC1.1.1.1, hC1.1.1.2.1]
  have eb : m_X2_marked M1 (2 - b) = some (sI' (W * H) (fun x => if mkR W H op R x = 2 - b then 1 else 0)) := by
    unfold m_X2_marked
    rw [for_S (f := fun s => m_X2_marked_L5 M1 (2 - b) s.1 s.2) (W * H) (fun x => if mkR W H op R x = 2 - b then 1 else 0) (fun i x i0 i1 => by
      show m_X2_marked_L5 M1 (2 - b) x i = _
      have hr := mkR_r (W := W) (H := H) (op := op) (R := R) (x := i)
      unfold m_X2_marked_L5
      rw [ec, wr_id (x := W * H) (by omega) (by omega), wr_id (x := i) (by omega) (by omega), if_neg (by omega), if_pos (by omega), h1 i i0 (by omega), wr_id (x := mkR W H op R i) (by omega) (by omega), wr_id (x := 2 - b) (by omega) (by omega), lt_q]
      by_cases z : mkR W H op R i = 2 - b
      · rw [if_pos z]; rfl
      · rw [if_neg z]; rfl) (fun x => by
      show m_X2_marked_L5 M1 (2 - b) x (W * H) = _
      unfold m_X2_marked_L5
      rw [ec, if_pos (Int.le_refl _)]) (by omega) (by omega), bd2_q]
  have er : itr (fun s => m_X12_bar_L32 M2 b s.1 s.2) FU (0, 0) = some (sI' (W * H) (fun x => if mkR W H op R x = 2 - b then 1 else 0), W * H) := by
    rw [for_S (f := fun s => m_X12_bar_L32 M2 b s.1 s.2) (W * H) (fun x => if mkR W H op R x = 2 - b then 1 else 0) (fun i x i0 i1 => by
      show m_X12_bar_L32 M2 b x i = _
      have hr := mkR_r (W := W) (H := H) (op := op) (R := R) (x := i)
      unfold m_X12_bar_L32
      rw [hR2.1.1.1, hR2.1.1.2.1, wr_id (x := W * H) (by omega) (by omega), wr_id (x := i) (by omega) (by omega), if_neg (by omega), if_pos (by omega), h2 i i0 (by omega), ← mkR_eq hRR, wr_id (x := mkR W H op R i) (by omega) (by omega), wr_id (x := 2 - b) (by omega) (by omega), lt_q]) (fun x => by
      show m_X12_bar_L32 M2 b x (W * H) = _
      unfold m_X12_bar_L32
      rw [hR2.1.1.1, hR2.1.1.2.1, if_pos (Int.le_refl _)]) (by omega) (by omega)]
  refine ⟨sI' (W * H) (fun x => if mkR W H op R x = 2 - b then 1 else 0), M1, M2, ?_, ?_, W, H, op, wa, pr, hd, on, ts, tp, ln, sz, it, hA.quiet f1 f2 (by decide) (by decide)⟩
  · rw [e1, bd1_q, ew, eb, bd1_q]
  · rw [e2, bd1_q, er, bd2_q]
theorem op_bars {M : Mem} (hI : Inv M) {a b : Int} (ha : -2147483648 ≤ a) (ha2 : a ≤ 2147483647) (hb : -2147483648 ≤ b) (hb2 : b ≤ 2147483647) : OpI (fun M => m_X11_bars M a b) (fun M => m_X12_bars M a b) M := by
  have hI' := hI
  obtain ⟨W, H, op, wa, pr, hd, on, ts, tp, ln, sz, it, hA⟩ := hI'
  have hA' := hA
  obtain ⟨hC, hR, hwf, hD, hS⟩ := hA'
  have hW := hwf.1.1
  have h8 := WH_le hW
  unfold OpI m_X11_bars m_X12_bars
  dsimp only
  have hin : ∀ z : Int, -2147483648 ≤ z → z ≤ 2147483647 → m_X12_in (i2l z) (0 : Int64) (1 : Int64) = some (decide (0 ≤ z ∧ z ≤ 1)) := fun z z0 z1 => by
    rw [l_0, l_1]; exact in_s z0 z1 (by omega) (by omega) (by omega) (by omega)
  rw [wr_id ha ha2, wr_id hb hb2, show wr 1 = 1 by decide, hin a ha ha2, isOpen_s hC.1.1 hb hb2]
  simp only [bd1_q, wrb, lt_q]
  by_cases c1 : 0 ≤ a ∧ a ≤ 1
  rotate_left
  · rw [if_neg (by omega), if_neg (by omega), decide_eq_false c1]
    exact ⟨-1, M, M, rfl, rfl, hI⟩
  rw [decide_eq_true c1]
  simp only [if_tf]
  have hca : a = 0 ∨ a = 1 := by omega
  have haa : ∀ X : Option (Int × Mem), (if a = 0 then X else if a = 1 then X else some (-1, M)) = X := fun X => by
    rcases hca with z | z
    · rw [if_pos z]
    · rw [if_neg (by omega), if_pos z]
  rw [haa]
  have hcell : ∀ M', YR M' W H op → (bd1 (m_X12_isCell M' b) fun b5 => if wr (bI b5) = 0 then some ((-1 : Int), M') else if 0 ≤ b ∧ b < 64 then if wr (gI M' 56 b) = 0 then some (-1, M') else bd1 (m_X12_doubtAll M' a) fun M10 => some (gI M10 70 b, M10) else none) = (if iso W H op b = false then some (-1, M') else bd1 (m_X12_doubtAll M' a) fun M10 => some (gI M10 70 b, M10)) := fun M' hy' => by
    rw [isCellR_s hy' hb hb2, bd1_q]
    simp only [wrb]
    cases hi : iso W H op b
    · rw [if_pos rfl]
      cases hc : isc W H b
      · rw [if_ff]
      · have hcr : 0 ≤ b ∧ b < W * H := by
          unfold isc at hc
          simpa using hc
        rw [if_tf, if_pos (by omega), hy'.2.2.2 b hcr.1 (by omega)]
        have ho : op b = false := by
          cases ho : op b
          · rfl
          · rw [isoW hcr.1 hcr.2 ho] at hi
            exact absurd hi (by simp)
        simp only [wrb]
        rw [if_pos ho]
    · obtain ⟨hcr, ho⟩ := iso_t.mp hi
      have hc : isc W H b = true := by
        unfold isc
        simpa using hcr
      rw [if_tf, hc, if_tf, if_pos (by omega), hy'.2.2.2 b hcr.1 (by omega)]
      simp only [wrb]
      rw [if_neg (by rw [ho]; simp)]
  cases hi : iso W H op b
  · rw [if_ff]
    refine ⟨-1, M, M, rfl, ?_, hI⟩
    have := hcell M hR.1.1
    rw [hi] at this
    simp only [wrb] at this
    exact this
  · obtain ⟨hcr, ho⟩ := iso_t.mp hi
    rw [if_tf]
    have ev : (if a = 0 then (1 : Int) else 0) = bI (decide (a = 0)) := by
      rcases hca with z | z <;> subst z <;> rfl
    rw [ev]
    obtain ⟨mu, U, R, M1, e1, hm, hU, hL, h1⟩ := markBar_s hC.1.1 (decide (a = 0))
    have f1 := fr_X2_markBar e1
    have hR1 := hR.fr f1 (by decide)
    obtain ⟨mu', U', R', M2, e2, hm', hU', hL', h2⟩ := doubtAll_s hR1.1.1 hca rfl
    have f2 := fr_X12_doubtAll e2
    have hRR := LeC_eq hW hm hm' hU hU' hL hL'
    refine ⟨mkR W H op R b, M1, M2, ?_, ?_, W, H, op, wa, pr, hd, on, ts, tp, ln, sz, it, hA.quiet f1 f2 (by decide) (by decide)⟩
    · rw [e1, bd1_q, if_pos (by omega), h1 b hcr.1 (by omega)]
    · have := hcell M1 hR1.1.1
      rw [hi] at this
      simp only [wrb] at this
      rw [this, if_tf, e2, bd1_q, h2 b hcr.1 (by omega), mkR_eq hRR]
