/-! the whole table of ways; pavings -/
theorem for_D {f : Int × Mem → Option ((Int × Mem) ⊕ (Int × Mem))} (n : Int) (I : Int → Mem → Prop) (hs : ∀ c M, 0 ≤ c → c < n → I (c + 1) M → ∃ M2, f (c, M) = some (.inl (c + (-1), M2)) ∧ I c M2) (he : ∀ M, I 0 M → f (-1, M) = some (.inr (-1, M))) (hn : 0 ≤ n) (hb : n < 100000) {M0 : Mem} (h0 : I n M0) : ∃ M2, itr f FU (n - 1, M0) = some (-1, M2) ∧ I 0 M2 := by
  obtain ⟨⟨y, M2⟩, e, h1, h2⟩ := for_g (f := f) 0 n (fun i s => s.1 = n - 1 - i ∧ I (n - i) s.2) (fun r => r.1 = -1 ∧ I 0 r.2) (by
    rintro i ⟨x, M⟩ i0 i1 ⟨g0, g1⟩
    dsimp only at g0 g1
    subst g0
    obtain ⟨M2, e2, h2⟩ := hs (n - 1 - i) M (by omega) (by omega) (by rw [show n - 1 - i + 1 = n - i by omega]; exact g1)
    refine Or.inl ⟨_, e2, by dsimp only; omega, ?_⟩
    rw [show n - (i + 1) = n - 1 - i by omega]
    exact h2) (by
    rintro ⟨x, M⟩ ⟨g0, g1⟩
    dsimp only at g0 g1
    subst g0
    rw [show n - n = 0 by omega] at g1
    rw [show n - 1 - n = -1 by omega]
    exact ⟨_, he M g1, rfl, g1⟩) hn (by omega) (s0 := (n - 1, M0)) ⟨by simp, by rw [show n - 0 = n by omega]; exact h0⟩
  dsimp only at h1 h2
  subst h1
  exact ⟨M2, e, h2⟩
theorem startTable_s {M : Mem} {W H : Int} {op : Int → Bool} (hy : YC M W H op) (a e : Int64) : ∃ M2, m_X7_startTable M a e = some M2 ∧ ∀ u, 0 ≤ u → u < p2 W → gL M2 9 (256 * (W * H) + u) = if u = 0 then a else e := by
  have hW := hy.2.2.1
  have h8 := WH_le hW
  have hp := p2_256 hW.1 hW.2.1
  have hbW := Bt0 (x := W) (by have := hW.1; omega) (by have := hW.2.1; omega)
  have ec : m_X10_cells M = W * H := by unfold m_X10_cells; rw [hy.1, hy.2.1]
  unfold m_X7_startTable
  rw [ec]
  obtain ⟨M2, e2, h2, f2⟩ := for_M (f := fun s => m_X7_startTable_L13 s.2 a e (W * H * 256) s.1) 0 (p2 W) (fun i M' => (∀ u, 0 ≤ u → u < i → gL M' 9 (256 * (W * H) + u) = e) ∧ Fr [9] M M') (fun u M' u0 u1 hI => by
    show ∃ M2, m_X7_startTable_L13 M' a e (W * H * 256) u = _ ∧ _
    unfold m_X7_startTable_L13
    rw [fI hI.2 (by decide), hy.1, hbW.1, wr_id (x := p2 W) (by omega) (by omega), wr_id (x := u) (by omega) (by omega), if_neg (by omega), show W * H * 256 + u = 256 * (W * H) + u by omega, wr_id (x := 256 * (W * H) + u) (by omega) (by omega), if_pos (by omega), lt_q]
    refine ⟨_, rfl, fun w w0 w1 => ?_, hI.2.sL (by decide) rfl⟩
    rw [gL_sL]
    by_cases z : w = u
    · rw [if_pos ⟨rfl, by rw [z]⟩]
    · rw [if_neg (by omega)]; exact hI.1 w w0 (by omega)) (fun M' hI => by
    show m_X7_startTable_L13 M' a e (W * H * 256) (p2 W) = _
    unfold m_X7_startTable_L13
    rw [fI hI.2 (by decide), hy.1, hbW.1, if_pos (Int.le_refl _)]) (by omega) (by omega) (M0 := M) ⟨fun u u0 u1 => by omega, Fr.rf⟩
  rw [e2, bd2_q, wr_id (x := W * H * 256) (by omega) (by omega), if_pos (by omega), lt_q]
  refine ⟨_, rfl, fun u u0 u1 => ?_⟩
  rw [gL_sL]
  by_cases z : u = 0
  · rw [if_pos ⟨rfl, by omega⟩, if_pos z]
  · rw [if_neg (by omega), if_neg z]; exact h2 u u0 u1
theorem fit_FS (W H : Int) (op : Int → Bool) (wa : Int → Int) : FS W H op (fit W H op wa) := fun _ h => fit_stn h
theorem fillWays_s {M : Mem} {W H : Int} {op : Int → Bool} {wa pr : Int → Int} (hy : YSc M W H op wa pr) (hw : WFy W H op wa pr) (hS : SwC M W H op wa pr) : ∃ M2, m_X7_fillWays M = some M2 ∧ FTc M2 W H (fit W H op wa) ∧ WYc M2 W H op (fit W H op wa) ∧ SwC M2 W H op wa pr ∧ gI M2 8 5 = 1 ∧ gI M2 8 6 = gI M 8 6 ∧ (∀ k j, k = 8 ∨ k = 14 → dR M2 k j = dR M k j) ∧ Fr [8, 9, 11] M M2 := by
  have hW := hw.1
  have h8 := WH_le hW
  have hS' := hS
  obtain ⟨s1, s2, s3, s4, s5, s6⟩ := hS'
  by_cases c : gI M 8 5 = 1
  · refine ⟨M, ?_, s3 (by omega), s4 c, hS, c, rfl, fun _ _ _ => rfl, Fr.rf⟩
    unfold m_X7_fillWays
    rw [c, if_pos rfl]
  · have e0 : ∃ M2, m_X7_fillWays M = some M2 ∧ FTc M2 W H (fit W H op wa) ∧ WYc M2 W H op (fit W H op wa) ∧ gI M2 8 5 = 1 ∧ gI M2 8 6 = gI M 8 6 ∧ ∀ k j, k = 8 ∨ k = 14 → dR M2 k j = dR M k j := by
      unfold m_X7_fillWays
      rw [wr_id (x := gI M 8 5) (by omega) (by omega), if_neg (c := gI M 8 5 = wr 1) (by rw [show wr 1 = 1 by decide]; exact c)]
      obtain ⟨M1, e1, h1⟩ := findFits_s hy hw
      have f1 := fr_X7_findFits e1
      have hy1 := hy.fr f1 (by decide) (by decide) (by decide) (by decide)
      obtain ⟨M2, e2, h2⟩ := startTable_s hy1.1 1 0
      have f2 := fr_X7_startTable e2
      have hy2 := hy1.fr f2 (by decide) (by decide) (by decide) (by decide)
      have ec : m_X10_cells M2 = W * H := by unfold m_X10_cells; rw [hy2.1.1, hy2.1.2.1]
      have h12 : FTc M2 W H (fit W H op wa) := fun b b0 b1 => (fI f2 (by decide) b).trans (h1 b b0 b1)
      obtain ⟨M3, e3, h3, f3⟩ := for_D (f := fun s => m_X7_fillWays_L28 s.2 s.1) (W * H) (fun c M' => (∀ d u, c ≤ d → d ≤ W * H → 0 ≤ u → u < p2 W → gL M' 9 (256 * d + u) = lN (wyc W op (fit W H op wa) (W * H) d (rot W (d % W) u))) ∧ Fr [9] M2 M') (fun c M' c0 c1 hI => by
        show ∃ M2, m_X7_fillWays_L28 M' c = _ ∧ _
        unfold m_X7_fillWays_L28
        have hy' := hy2.fr hI.2 (by decide) (by decide) (by decide) (by decide)
        obtain ⟨M3, e3, h3, h3'⟩ := fillWaysAt_s hy'.1 (fun b b0 b1 => (fI hI.2 (by decide) b).trans (h12 b b0 b1)) (fit_FS W H op wa) c0 c1 (fun u u0 u1 => hI.1 (c + 1) u (by omega) (by omega) u0 u1)
        rw [wr_id (x := c) (by omega) (by omega), if_neg (by omega), e3, bd1_q]
        refine ⟨M3, rfl, fun d u d0 d1 u0 u1 => ?_, hI.2.trans (fr_X7_fillWaysAt e3) (by decide)⟩
        by_cases z : d = c
        · rw [z]; exact h3 u u0 u1
        · rw [h3' _ (by omega)]; exact hI.1 d u (by omega) d1 u0 u1) (fun M' hI => by
        show m_X7_fillWays_L28 M' (-1) = _
        unfold m_X7_fillWays_L28
        rw [if_pos (by decide)]) (by omega) (by omega) (M0 := M2) ⟨fun d u d0 d1 u0 u1 => by
          have : d = W * H := by omega
          subst this
          rw [h2 u u0 u1, NW0 hW.1 hW.2.1, rot_0, wyc_e]
          by_cases z : u = 0
          · rw [if_pos z, if_pos z, lN1]
          · rw [if_neg z, if_neg z, lN0], Fr.rf⟩
      rw [e1, bd1_q, e2, bd1_q, ec, e3, bd2_q, lt_q]
      have f13 : Fr [9, 11] M M3 := ((f1.mono (by decide)).trans f2 (by decide)).trans f3 (by decide)
      refine ⟨_, rfl, fun b b0 b1 => ?_, fun d u d0 d1 u0 u1 => ?_, ?_, ?_, fun k j hk => ?_⟩
      · rw [gI_sI, if_neg (by simp), fI f3 (by decide)]; exact h12 b b0 b1
      · exact h3 d u d0 d1 u0 u1
      · exact gI_sI_eq
      · rw [gI_sI, if_neg (by simp), fI f13 (by decide)]
      · show dR M3 k j = dR M k j
        exact fR f13 (by rcases hk with rfl | rfl <;> decide) j
    obtain ⟨M2, e2, h1, h2, h3, h4, h5⟩ := e0
    have f := fr_X7_fillWays e2
    refine ⟨M2, e2, h1, h2, ⟨Or.inr (Or.inl h3), by rw [h4]; exact s2, fun _ => h1, fun _ => h2, fun z => by omega, fun z b hb => ?_⟩, h3, h4, h5, f⟩
    rw [fL f (by decide)]; exact s6 (by rw [← h4]; exact z) b hb
theorem countOn_s {M : Mem} {W H : Int} {op f : Int → Bool} (hy : YR M W H op) (hm : MY M W H f) : ∃ M2, m_X12_countOn M = some M2 ∧ ∀ c m, 0 ≤ c → c ≤ W * H → 0 ≤ m → m < p2 W → gL M2 64 (256 * c + m) = lN (wyc W op f (W * H) c m) := by
  have hW := hy.2.2.1
  have h8 := WH_le hW
  have hw1 := hW.1
  have hw2 := hW.2.1
  have hp := p2_256 hW.1 hW.2.1
  have hbW := Bt0 (x := W) (by omega) (by omega)
  have hpW : p2 W = 2 * p2 (W - 1) := by
    have := Bt0 (x := W - 1) (by omega) (by omega)
    rw [← this.2.2.1, show W - 1 + 1 = W by omega]
  unfold m_X12_countOn
  rw [hy.1, hy.2.1]
  obtain ⟨M1, e1, h1, f1⟩ := for_M (f := fun s => m_X12_countOn_L12 s.2 (W * H) s.1) 0 (p2 W) (fun i M' => (∀ m, 0 ≤ m → m < i → gL M' 64 (256 * (W * H) + m) = lN (wyc W op f (W * H) (W * H) m)) ∧ Fr [64] M M') (fun m M' m0 m1 hI => by
    show ∃ M2, m_X12_countOn_L12 M' (W * H) m = _ ∧ _
    unfold m_X12_countOn_L12
    rw [fI hI.2 (by decide), hy.1, hbW.1, wr_id (x := p2 W) (by omega) (by omega), wr_id (x := m) (by omega) (by omega), if_neg (by omega), wr_id (x := 256 * (W * H) + m) (by omega) (by omega), lt_q, if_pos (by omega), lt_q]
    refine ⟨_, rfl, fun w w0 w1 => ?_, hI.2.sL (by decide) rfl⟩
    rw [gL_sL]
    by_cases z : w = m
    · rw [if_pos ⟨rfl, by rw [z]⟩, z, wyc_e]
      by_cases y : m = 0
      · rw [if_pos y, if_pos y, lN1]
      · rw [if_neg y, if_neg y, lN0]
    · rw [if_neg (by omega)]; exact hI.1 w w0 (by omega)) (fun M' hI => by
    show m_X12_countOn_L12 M' (W * H) (p2 W) = _
    unfold m_X12_countOn_L12
    rw [fI hI.2 (by decide), hy.1, hbW.1, if_pos (Int.le_refl _)]) (by omega) (by omega) (M0 := M) ⟨fun u u0 u1 => by omega, Fr.rf⟩
  obtain ⟨M3, e3, h3, f3⟩ := for_D (f := fun s => m_X12_countOn_L53 s.2 s.1) (W * H) (fun c M' => (∀ d m, c ≤ d → d ≤ W * H → 0 ≤ m → m < p2 W → gL M' 64 (256 * d + m) = lN (wyc W op f (W * H) d m)) ∧ Fr [64] M M') (fun c M' c0 c1 hI => by
    show ∃ M2, m_X12_countOn_L53 M' c = _ ∧ _
    unfold m_X12_countOn_L53
    rw [wr_id (x := c) (by omega) (by omega), if_neg (by omega)]
    obtain ⟨M2, e2, h2, h2', f2⟩ := for_M (f := fun s => m_X12_countOn_L59 s.2 c s.1) 0 (p2 W) (fun i M'' => (∀ m, 0 ≤ m → m < i → gL M'' 64 (256 * c + m) = lN (wyc W op f (W * H) c m)) ∧ (∀ d m, c + 1 ≤ d → d ≤ W * H → 0 ≤ m → m < p2 W → gL M'' 64 (256 * d + m) = lN (wyc W op f (W * H) d m)) ∧ Fr [64] M M'') (fun m M'' m0 m1 hI => by
      show ∃ M2, m_X12_countOn_L59 M'' c m = _ ∧ _
      unfold m_X12_countOn_L59 m_X12_canEast
      have hy' := hy.fr hI.2.2 (by decide) (by decide)
      have b2 := Bt2 (u := m) m0 (by omega)
      have wri : wr (iand m 2) = iand m 2 := by
        unfold iand
        exact wr_id (Int32.le_toInt _) (by have := Int32.toInt_lt (Int32.ofInt m &&& Int32.ofInt 2); omega)
      rw [hy'.1, hbW.1, wr_id (x := p2 W) (by omega) (by omega), wr_id (x := m) (by omega) (by omega), if_neg (by omega), wr_id (x := c) (by omega) (by omega), if_pos (c := 0 ≤ c ∧ c < 64) (by omega), hy'.2.2.2 c c0 (by omega), iand1 m0 (by omega), wr_id (x := m % 2) (by omega) (by omega), show wr 1 = 1 by decide, b2.1, wr_id (x := 256 * (c + 1) + m / 2) (by omega) (by omega), if_pos (c := 0 ≤ 256 * (c + 1) + m / 2 ∧ 256 * (c + 1) + m / 2 < 16640) (by omega), wr_id (x := 2 * c) (by omega) (by omega), wr_id (x := 2 * c + 1) (by omega) (by omega), if_pos (c := 0 ≤ 2 * c ∧ 2 * c < 128) (by omega)]
      simp only [if_pos (show 0 ≤ 2 * c + 1 ∧ 2 * c + 1 < 128 by omega)]
      rw [fI hI.2.2 (by decide), fI hI.2.2 (by decide), hm (2 * c) (by omega) (by omega), hm (2 * c + 1) (by omega) (by omega), wri, Bt3 hw1 hw2 m0 m1, wr_id (x := 256 * (c + 1) + (m / 2 + p2 (W - 1))) (by omega) (by omega), if_pos (c := 0 ≤ 256 * (c + 1) + (m / 2 + p2 (W - 1)) ∧ 256 * (c + 1) + (m / 2 + p2 (W - 1)) < 16640) (by omega), hI.2.1 (c + 1) (m / 2) (by omega) (by omega) (by omega) (by omega), hI.2.1 (c + 1) (m / 2 + p2 (W - 1)) (by omega) (by omega) (by omega) (by omega), lt_q]
      have hcE : (if (if wr (bI (f (2 * c))) = 0 then (0 : Int) else if iand m 2 = 0 then 1 else 0) = 0 ∨ (if wr (bI (f (2 * c))) = 0 then (0 : Int) else if iand m 2 = 0 then 1 else 0) = 1 then some (decide ((if wr (bI (f (2 * c))) = 0 then (0 : Int) else if iand m 2 = 0 then 1 else 0) = 1)) else none) = some (decide (f (2 * c) = true ∧ m / 2 % 2 = 0)) := by
        simp only [wrb, b2.2.1]
        cases f (2 * c)
        · simp
        · by_cases z : m / 2 % 2 = 0 <;> simp [z]
      rw [hcE, bd1_q]
      obtain ⟨v, ev, hv⟩ : ∃ v, (if wr (bI (op c)) = 0 then bd1 (if m % 2 = 1 then some (0 : Int64) else some (lN (wyc W op f (W * H) (c + 1) (m / 2)))) fun v25 => some v25 else if m % 2 = 1 then some (lN (wyc W op f (W * H) (c + 1) (m / 2))) else bd1 (if wr (bI (decide (f (2 * c) = true ∧ m / 2 % 2 = 0))) = 0 then some 0 else if 0 ≤ wr (256 * (c + 1) + sar (ior m 2) 1) ∧ wr (256 * (c + 1) + sar (ior m 2) 1) < 16640 then some (gL M'' 64 (wr (256 * (c + 1) + sar (ior m 2) 1))) else none) fun v17 => bd1 (if wr (bI (f (2 * c + 1))) = 0 then some 0 else some (lN (wyc W op f (W * H) (c + 1) (m / 2 + p2 (W - 1))))) fun v21 => some (v17 + v21)) = some v ∧ v = lN (wyc W op f (W * H) c m) := by
        simp only [wrb]
        rw [wyc_s c1]
        cases ho : op c
        · rw [if_ff, if_ff]
          by_cases z : m % 2 = 1
          · rw [if_pos z, if_pos z, bd1_q]; exact ⟨_, rfl, lN0⟩
          · rw [if_neg z, if_neg z, bd1_q]; exact ⟨_, rfl, rfl⟩
        · rw [if_tf, if_tf]
          by_cases z : m % 2 = 1
          · rw [if_pos z, if_pos z]; exact ⟨_, rfl, rfl⟩
          · rw [if_neg z, if_neg z]
            have eE : (if decide (f (2 * c) = true ∧ m / 2 % 2 = 0) = false then some 0 else if 0 ≤ wr (256 * (c + 1) + sar (ior m 2) 1) ∧ wr (256 * (c + 1) + sar (ior m 2) 1) < 16640 then some (gL M'' 64 (wr (256 * (c + 1) + sar (ior m 2) 1))) else none) = some (lN (if f (2 * c) = true ∧ m / 2 % 2 = 0 then wyc W op f (W * H) (c + 1) (m / 2 + 1) else 0)) := by
              by_cases y : f (2 * c) = true ∧ m / 2 % 2 = 0
              · rw [decide_eq_true y, if_tf, if_pos y, b2.2.2 y.2, wr_id (x := 256 * (c + 1) + (m / 2 + 1)) (by omega) (by omega), if_pos (by omega), hI.2.1 (c + 1) (m / 2 + 1) (by omega) (by omega) (by omega) (by omega)]
              · rw [decide_eq_false y, if_ff, if_neg y, lN0]
            rw [eE, bd1_q]
            cases f (2 * c + 1)
            · rw [if_ff, if_neg (c := false = true) (by simp), bd1_q, lN0, lN_add]; exact ⟨_, rfl, rfl⟩
            · rw [if_tf, if_pos (c := true = true) rfl, bd1_q, lN_add]; exact ⟨_, rfl, rfl⟩
      rw [ev, bd1_q, wr_id (x := 256 * c + m) (by omega) (by omega), if_pos (by omega), lt_q, hv]
      refine ⟨_, rfl, fun w w0 w1 => ?_, fun d w d0 d1 w0 w1 => ?_, hI.2.2.sL (by decide) rfl⟩
      · rw [gL_sL]
        by_cases e : w = m
        · rw [if_pos ⟨rfl, by rw [e]⟩, e]
        · rw [if_neg (by omega)]; exact hI.1 w w0 (by omega)
      · rw [gL_sL, if_neg (by omega)]; exact hI.2.1 d w d0 d1 w0 w1) (fun M'' hI => by
      show m_X12_countOn_L59 M'' c (p2 W) = _
      unfold m_X12_countOn_L59
      rw [fI hI.2.2 (by decide), hy.1, hbW.1, if_pos (Int.le_refl _)]) (by omega) (by omega) (M0 := M') ⟨fun u u0 u1 => by omega, hI.1, hI.2⟩
    rw [e2, bd2_q]
    refine ⟨M2, rfl, fun d m d0 d1 m0 m1 => ?_, f2⟩
    by_cases z : d = c
    · rw [z]; exact h2 m m0 m1
    · exact h2' d m (by omega) d1 m0 m1) (fun M' hI => by
    show m_X12_countOn_L53 M' (-1) = _
    unfold m_X12_countOn_L53
    rw [if_pos (by decide)]) (by omega) (by omega) (M0 := M1) ⟨fun d m d0 d1 m0 m1 => by
      rw [show d = W * H by omega]; exact h1 m m0 m1, f1⟩
  rw [e1, bd2_q, e3, bd2_q]
  exact ⟨M3, rfl, fun c m c0 c1 m0 m1 => h3 c m c0 c1 m0 m1⟩
