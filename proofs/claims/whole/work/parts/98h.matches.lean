/-! the reference's heap of most bricks; most -/
theorem forgets_s (M : Mem) : ∃ M2, m_X12_forgets M = some M2 ∧ ∀ x, 0 ≤ x → x < 64 → gI M2 68 x = -1 := by
  unfold m_X12_forgets
  obtain ⟨M2, e, h⟩ := for_M (f := fun s => m_X12_forgets_L2 s.2 s.1) 0 64 (fun i M' => ∀ x, 0 ≤ x → x < i → gI M' 68 x = -1) (fun i M' i0 i1 hI => by
    show ∃ M2, m_X12_forgets_L2 M' i = _ ∧ _
    unfold m_X12_forgets_L2
    rw [show wr 64 = 64 by decide, wr_id (x := i) (by omega) (by omega), if_neg (by omega), if_pos (by omega), lt_q]
    refine ⟨_, rfl, fun x x0 x1 => ?_⟩
    rw [gI_sI]
    by_cases z : x = i
    · rw [if_pos ⟨rfl, z⟩]
    · rw [if_neg (fun q => z q.2)]; exact hI x x0 (by omega)) (fun M' hI => by
    show m_X12_forgets_L2 M' 64 = _
    unfold m_X12_forgets_L2
    rw [if_pos (by decide)]) (by omega) (by omega) (M0 := M) (fun x x0 x1 => by omega)
  rw [e, bd2_q]
  exact ⟨M2, rfl, h⟩
theorem swapR_s {M : Mem} {W H : Int} {op : Int → Bool} (hW : WHr W H) {col : Bool} {mu : Int → Int} (hm : MT W H op mu) {s n : Int} {L F : Int → Int} (hB : BH W H op col mu s n L F) (hn : n ≤ 64) (hs : mu s = -1) {U : Int → Prop} (hU : ∀ d, U d → iso W H op d = true ∧ drk W d = col) (hUc : ∀ d l, U d → adj W H op d l → U (mu l)) (h67 : gX M 67 mu) (h68 : ∀ x, iso W H op x = true → drk W x = !col → gI M 68 x = F x) {i lt p1 : Int} (hi : i < n) (hS : SW W H op col mu U L F i lt mu) : ∃ y M2 mu', itr (fun t => m_X12_matches_L77 t.2 p1 s t.1) FU (lt, M) = some (y, M2) ∧ gX M2 67 mu' ∧ SU W H op col mu U s mu' ∧ Fr [67] M M2 := by
  have sr := iso_r hW (by have := hB.2.1 0 (by omega) (by have := hB.1.1; omega); rw [hB.1.2] at this; exact this.1)
  obtain ⟨⟨u, M2⟩, e, mu', g1, g2, g3⟩ := for_g (f := fun t => m_X12_matches_L77 t.2 p1 s t.1) 0 64 (fun x t => ∃ mc, gX t.2 67 mc ∧ Fr [67] M t.2 ∧ ((t.1 = -1 ∧ SU W H op col mu U s mc) ∨ (∃ a, SW W H op col mu U L F a t.1 mc ∧ a < n ∧ a + x ≤ 63))) (fun r => ∃ mc, gX r.2 67 mc ∧ SU W H op col mu U s mc ∧ Fr [67] M r.2) (by
    rintro x ⟨lt, M'⟩ x0 x1 ⟨mc, g1, g2, g3⟩
    dsimp only at g1 g2 g3
    show (∃ s2, m_X12_matches_L77 M' p1 s lt = _ ∧ _) ∨ (∃ r, m_X12_matches_L77 M' p1 s lt = _ ∧ _)
    unfold m_X12_matches_L77
    rcases g3 with ⟨q1, q2⟩ | ⟨a, q1, q2, q3⟩
    · right
      rw [q1, if_pos (by decide)]
      exact ⟨_, rfl, mc, g1, q2, g2⟩
    · left
      have q1' := q1
      obtain ⟨⟨w0, w1, w2⟩, -⟩ := q1'
      have hr := adj_r hW w2
      have ha := hB.2.1 a w0 q2
      have dlt : drk W lt = !col := by rw [adj_d w2, ha.2.1]
      have ndl : L a ≠ lt := fun q => by
        have := ha.2.1
        rw [q, dlt] at this
        exact nc this.symm
      have e68 : gI M' 68 lt = L a := by
        rw [fI g2 (by decide), h68 lt w2.2.1 dlt]; exact w1
      rw [wr_id (x := lt) (by omega) (by omega), if_neg (by omega), if_pos (by omega), e68, wr_id (x := L a) (by omega) (by omega), if_pos (by omega), lt_q, lt_q, g1 (L a) (by omega) (by omega), wr_id (x := s) (by omega) (by omega), lt_q]
      have gg : gX (sI (sI M' 67 lt (L a)) 67 (L a) lt) 67 (up1 (up1 mc (L a) lt) lt (L a)) := fun y y0 y1 => by
        rw [gI_sI, gI_sI, g1 y y0 y1]
        show _ = if y = lt then L a else if y = L a then lt else mc y
        by_cases z1 : y = lt
        · rw [if_neg (fun q => ndl (by rw [← q.2, z1])), if_pos ⟨rfl, z1⟩, if_pos z1]
        · rw [if_neg z1]
          by_cases z2 : y = L a
          · rw [if_pos ⟨rfl, z2⟩, if_pos z2]
          · rw [if_neg (fun q => z2 q.2), if_neg (fun q => z1 q.2), if_neg z2]
      refine ⟨_, rfl, up1 (up1 mc (L a) lt) lt (L a), gg, (g2.sI (by decide) rfl).sI (by decide) rfl, ?_⟩
      dsimp only
      rcases SW_step hW hm hB hs hU hUc q1 q2 with ⟨p1, p2, p3, p4, p5⟩ | ⟨p1, a', p2, p3⟩
      · refine Or.inl ⟨?_, p3, p4, p5⟩
        rw [p2]
        split <;> rfl
      · refine Or.inr ⟨a', ?_, by omega, by omega⟩
        have : L a ≠ s := fun q => by
          rw [← hB.1.2] at q
          exact hB.2.2.1 0 a (by omega) (by have := p3.1.1; omega) q2 q.symm
        rw [if_neg this]
        exact p3) (by
    rintro ⟨lt, M'⟩ ⟨mc, g1, g2, g3⟩
    dsimp only at g1 g2 g3
    rcases g3 with ⟨q1, q2⟩ | ⟨a, q1, q2, q3⟩
    · refine ⟨(lt, M'), ?_, mc, g1, q2, g2⟩
      show m_X12_matches_L77 M' p1 s lt = _
      unfold m_X12_matches_L77
      rw [q1, if_pos (by decide)]
    · have := q1.1.1
      omega) (by omega) (by omega) (s0 := (lt, M)) ⟨mu, h67, Fr.rf, Or.inr ⟨i, hS, hi, by omega⟩⟩
  exact ⟨u, M2, mu', e, g1, g2, g3⟩
theorem matches_s {M : Mem} {W H : Int} {op : Int → Bool} (hy : YR M W H op) : ∃ mu U M2, m_X12_matches M = some ((cn (W * H).toNat (mtd W H op mu) : Int), M2) ∧ gX M2 67 mu ∧ MT W H op mu ∧ CL W H op true mu U := by
  have hW := hy.2.2.1
  have h8 := WH_le hW
  unfold m_X12_matches
  obtain ⟨M1, e1, h1, f1⟩ := for_M (f := fun s => m_X12_matches_L4 s.2 0 s.1) 0 64 (fun i M' => (∀ x, 0 ≤ x → x < i → gI M' 67 x = -1) ∧ Fr [67] M M') (fun i M' i0 i1 hI => by
    show ∃ M2, m_X12_matches_L4 M' 0 i = _ ∧ _
    unfold m_X12_matches_L4
    rw [show wr 64 = 64 by decide, wr_id (x := i) (by omega) (by omega), if_neg (by omega), if_pos (by omega), lt_q]
    refine ⟨_, rfl, fun x x0 x1 => ?_, hI.2.sI (by decide) rfl⟩
    rw [gI_sI]
    by_cases z : x = i
    · rw [if_pos ⟨rfl, z⟩]
    · rw [if_neg (fun q => z q.2)]; exact hI.1 x x0 (by omega)) (fun M' hI => by
    show m_X12_matches_L4 M' 0 64 = _
    unfold m_X12_matches_L4
    rw [if_pos (by decide)]) (by omega) (by omega) (M0 := M) ⟨fun x x0 x1 => by omega, Fr.rf⟩
  rw [e1, bd2_q]
  have ks : ∀ k ∈ [67, 68, 69], k ∈ [67, 68, 69] := fun _ h => h
  obtain ⟨⟨u, z, M2⟩, e, mu, U, g1, g2, g3⟩ := for_g (f := fun t => m_X12_matches_L25 t.2.2 t.1 t.2.1) 0 (W * H) (fun c t => t.2.1 = c ∧ ∃ mu U, FI W H op mu U c ∧ gX t.2.2 67 mu ∧ t.1 = (cn c.toNat (mtd W H op mu) : Int) ∧ Fr [67, 68, 69] M t.2.2) (fun r => ∃ mu U, FI W H op mu U (W * H) ∧ gX r.2.2 67 mu ∧ r.1 = (cn (W * H).toNat (mtd W H op mu) : Int)) (by
    rintro c ⟨u, c', M'⟩ c0 c1 ⟨g0, mu, U, g1, g2, g3, g4⟩
    dsimp only at g0 g1 g2 g3 g4
    subst g0
    left
    show ∃ s2, m_X12_matches_L25 M' u c' = _ ∧ _
    have hyM := hy.fr g4 (by decide) (by decide)
    have es : ∀ mu', cn (c' + 1).toNat (mtd W H op mu') = cn c'.toNat (mtd W H op mu') + (if mtd W H op mu' c' = true then 1 else 0) := fun mu' => by
      rw [show (c' + 1).toNat = c'.toNat + 1 by omega, cn_s, Int.toNat_of_nonneg c0]
    unfold m_X12_matches_L25
    rw [hyM.1, hyM.2.1, wr_id (x := W * H) (by omega) (by omega), wr_id (x := c') (by omega) (by omega), if_neg (by omega), if_pos (by omega), hyM.2.2.2 c' c0 (by omega)]
    simp only [wrb]
    cases ho : op c'
    · rw [if_ff, bd2_q]
      have hno : ¬ (iso W H op c' = true ∧ drk W c' = true) := fun q => by
        have := (iso_t.mp q.1).2
        rw [ho] at this
        exact absurd this (by simp)
      refine ⟨_, rfl, rfl, mu, U, FI_skip g1 hno, g2, ?_, g4⟩
      dsimp only
      rw [es, if_neg (fun q => hno ⟨(bp_t.mp q).1, (bp_t.mp q).2.1⟩)]
      exact g3
    · rw [if_tf, isDarkCellR_s hyM c0 (by omega), bd1_q]
      have hi : iso W H op c' = true := isoW c0 c1 ho
      cases hd : drk W c'
      · rw [if_ff, bd2_q]
        have hno : ¬ (iso W H op c' = true ∧ drk W c' = true) := fun q => by
          have := q.2
          rw [hd] at this
          exact absurd this (by simp)
        refine ⟨_, rfl, rfl, mu, U, FI_skip g1 hno, g2, ?_, g4⟩
        dsimp only
        rw [es, if_neg (fun q => hno ⟨(bp_t.mp q).1, (bp_t.mp q).2.1⟩)]
        exact g3
      · have hb : mu c' = -1 := g1.2.2.2.2 c' hi hd (Int.le_refl _)
        obtain ⟨M3, e3, h3⟩ := forgets_s M'
        have f3 := fr_X12_forgets e3
        have hy3 := hyM.fr f3 (by decide) (by decide)
        have h67 := gX_fr g2 f3 (by decide)
        have hR : RF W H op true (fun _ => False) 0 (fun _ => 0) (fun _ => -1) M3 := fun x x1 => by
          have xr := iso_r hW x1
          refine ⟨fun _ => h3 x xr.1 xr.2, fun _ => ?_⟩
          rw [h3 x xr.1 xr.2]
          refine ⟨by omega, by omega, fun q => by omega, fun q => ?_⟩
          rcases q with ⟨j, j0, j1, -⟩ | q
          · omega
          · exact absurd q (fun q => q)
        rw [if_tf, e3, bd1_q]
        rcases searches_s hy3 g1.1 h67 hi hd (O := fun _ => False) (fun q => q) (F := fun _ => -1) (fun _ _ _ => Or.inl rfl) hR with ⟨M4, n, L, F, i, e4, q2, q3⟩ | ⟨l, M4, e4, n, L, F, i, k, i0, i1, p1, p2, p3, p4, p5, p6⟩
        · have e5 : itr (fun t => m_X12_matches_L77 t.2 (u + 0) c' t.1) FU (-1, M4) = some (-1, M4) := itr_x (by
            show m_X12_matches_L77 M4 (u + 0) c' (-1) = some (.inr (-1, M4))
            unfold m_X12_matches_L77
            rw [if_pos (by decide)])
          rw [e4, bd2_q, if_pos (c := wr (-1) < 0) (by decide), lt_q, e5, bd2_q, bd2_q]
          have fA : Fr [67, 68, 69] M' M4 := (f3.mono (by decide)).trans q3.2.2.2 (by decide)
          refine ⟨_, rfl, rfl, mu, _, FI_no g1 (Z := inL n L) ?_ ?_ ?_, gX_fr h67 q3.2.2.2 (by decide), ?_, g4.trans fA ks⟩
          · exact ⟨0, by omega, by have := q3.1.1.1; omega, q3.1.1.2⟩
          · rintro d ⟨j, j0, j1, ej⟩
            rw [← ej]
            exact ⟨(q3.1.2.1 j j0 j1).1, (q3.1.2.1 j j0 j1).2.1⟩
          · intro d l t1 t2
            rcases (BI_end (besR_N (op := op) hW) q3.1 q2 t1 t2).2 with t | t
            · exact absurd t (fun q => q)
            · exact t
          · dsimp only
            rw [es, if_neg (fun q => (bp_t.mp q).2.2 hb), g3]
            omega
        · have lr := adj_r hW p2
          have hBH : BH W H op true mu c' n L (up1 F l (L i)) := BI_BH hW p1 p3
          have hn := BI_n hW p1
          have hSW : SW W H op true mu U L (up1 F l (L i)) i l mu := SW_0 hW g1.1 g1.2.1 g1.2.2.1 i0 (by
            show (if l = l then L i else F l) = L i
            rw [if_pos rfl]) p2 p4
          obtain ⟨y, M5, mu', e5, k1, k2, k3⟩ := swapR_s hW g1.1 hBH hn hb g1.2.1 g1.2.2.1 (gX_fr h67 p6 (by decide)) p5 i1 hSW (p1 := u + 1)
          rw [e4, bd2_q, wr_id (x := l) (by omega) (by omega), if_neg (by omega), lt_q, e5, bd2_q, bd2_q]
          have fA : Fr [67, 68, 69] M' M5 := ((f3.mono (by decide)).trans p6 (by decide)).trans k3 (by decide)
          refine ⟨_, rfl, rfl, mu', U, FI_yes g1 k2, k1, ?_, g4.trans fA ks⟩
          dsimp only
          have hs := k2.2.2
          have hne : mu' c' ≠ -1 := fun q => ((hs c' hi hd).mp q).2 rfl
          have ec2 : cn c'.toNat (mtd W H op mu') = cn c'.toNat (mtd W H op mu) := cn_congr _ (fun x x0 x1 => by
            unfold mtd
            rw [bp_t, bp_t]
            constructor
            · rintro ⟨p1, p2, p3⟩
              exact ⟨p1, p2, fun p => p3 ((hs x p1 p2).mpr ⟨p, by omega⟩)⟩
            · rintro ⟨p1, p2, p3⟩
              exact ⟨p1, p2, fun p => p3 ((hs x p1 p2).mp p).1⟩)
          have hmt : mtd W H op mu' c' = true := bp_t.mpr ⟨hi, hd, hne⟩
          rw [es, if_pos hmt, g3, ec2]
          omega) (by
    rintro ⟨u, c', M'⟩ ⟨g0, mu, U, g1, g2, g3, g4⟩
    dsimp only at g0 g1 g2 g3 g4
    have hyM := hy.fr g4 (by decide) (by decide)
    refine ⟨(u, c', M'), ?_, mu, U, g1, g2, g3⟩
    show m_X12_matches_L25 M' u c' = _
    unfold m_X12_matches_L25
    rw [hyM.1, hyM.2.1, g0, if_pos (Int.le_refl _)]) (by omega) (by omega) (s0 := (0, 0, M1)) ⟨rfl, _, _, FI_0, fun x x0 x1 => h1 x x0 x1, rfl, f1.mono (by decide)⟩
  dsimp only at g2 g3
  refine ⟨mu, U, M2, by rw [e, bd3_q, g3], g2, g1.1, g1.2.1, fun d d1 d2 d3 => ?_, g1.2.2.1⟩
  exact g1.2.2.2.1 d d1 d2 (iso_t.mp d1).1.2 d3
theorem op_most {M : Mem} (hI : Inv M) : OpI (fun M => m_X11_most M) (fun M => m_X12_most M) M := by
  obtain ⟨W, H, op, wa, pr, hd, on, ts, tp, ln, sz, it, hA⟩ := hI
  have hA' := hA
  obtain ⟨hC, hR, hwf, hD, hS⟩ := hA'
  have hW := hwf.1.1
  obtain ⟨mu, U, M1, e1, -, hm, hU⟩ := find_s hC.1.1
  have f1 := fr_X2_find e1
  have hR1 := hR.fr f1 (by decide)
  obtain ⟨mu', U', M2, e2, -, hm', hU'⟩ := matches_s hR1.1.1
  have f2 := fr_X12_matches e2
  refine ⟨(cn (W * H).toNat (mtd W H op mu) : Int), M1, M2, ?_, ?_, W, H, op, wa, pr, hd, on, ts, tp, ln, sz, it, hA.quiet f1 f2 (by decide) (by decide)⟩
  · show m_X11_most M = _
    unfold m_X11_most
    rw [e1, bd2_q]
  · show m_X12_most M1 = _
    unfold m_X12_most
    rw [e2, bd2_q, mtd_eq hW hm hm' hU hU']
