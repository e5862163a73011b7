/-! rank, on both sides -/
theorem rankOf_s {M : Mem} {W H : Int} {op : Int → Bool} {wa pr : Int → Int} (hy : YSc M W H op wa pr) (hw : WFy W H op wa pr) (hS : SwC M W H op wa pr) {a : Nat} {p : Int → Int} (hp : Pav W H op p) (ha : 38 < a) (hon : ∀ q, iso W H op q = true → gI M (a + 1) q = p q) : ∃ M2, SwC M2 W H op wa pr ∧ (∀ k j, k = 8 ∨ k = 14 → dR M2 k j = dR M k j) ∧ Fr [8, 9, 11] M M2 ∧ ((AF W H op wa p (W * H) ∧ m_X7_rankOf M a = some (lN (TP W H op wa p (W * H).toNat).1, M2)) ∨ (¬ AF W H op wa p (W * H) ∧ m_X7_rankOf M a = some (-2, M2))) := by
  have hW := hw.1
  have h8 := WH_le hW
  have hp2 := p2_256 hW.1 hW.2.1
  have hs := fit_FS W H op wa
  have hK := keepsP (f := fit W H op wa) hW hp
  have hPV : ∀ c : Nat, (c : Int) ≤ W * H → PV W H op c (TP W H op wa p c).2.1 (TP W H op wa p c).2.2.1 (TP W H op wa p c).2.2.2 ∧ JP W H op p c (TP W H op wa p c).2.1 := trj_PV hW hK.1 (r := 0) (JP_0 hW hp)
  have hTs : ∀ c : Int, 0 ≤ c → TP W H op wa p (c + 1).toNat = stp W H op (selP W op (fit W H op wa) (W * H) p) c (TP W H op wa p c.toNat) := fun c c0 => trj_s c0
  obtain ⟨M1, e1, h1, h2, h3, h4, h5, h6, f1⟩ := fillWays_s hy hw hS
  have hy1 := hy.fr f1 (by decide) (by decide) (by decide) (by decide)
  have hon1 : ∀ q, iso W H op q = true → gI M1 (a + 1) q = p q := fun q hq => (fI f1 (by simp; omega) q).trans (hon q hq)
  have ec : m_X10_cells M1 = W * H := by unfold m_X10_cells; rw [hy1.1.1, hy1.1.2.1]
  refine ⟨M1, h3, h6, f1, ?_⟩
  unfold m_X7_rankOf
  rw [e1, bd1_q]
  obtain ⟨rr, e3, g⟩ := for_g (f := fun s => m_X7_rankOf_L13 M1 a s.1 s.2.1 s.2.2) 0 (W * H) (fun c s => s.2.2 = c ∧ s.1 = lN (TP W H op wa p c.toNat).1 ∧ 0 ≤ s.2.1 ∧ s.2.1 < p2 W ∧ rot W (c % W) s.2.1 = (TP W H op wa p c.toNat).2.1 ∧ AF W H op wa p c) (fun r => (AF W H op wa p (W * H) ∧ ∃ u c, r = .inl (lN (TP W H op wa p (W * H).toNat).1, u, c)) ∨ (¬ AF W H op wa p (W * H) ∧ r = .inr (-2, M1))) (by
    rintro c ⟨x, u, c'⟩ c0 c1 ⟨g0, g1, g2, g3, g4, g5⟩
    dsimp only at g0 g1 g2 g3 g4 g5
    subst g0
    subst g1
    obtain ⟨p1, p2'⟩ := hPV c'.toNat (by omega)
    rw [Int.toNat_of_nonneg c0] at p1 p2'
    have hk := hK.1 c' (TP W H op wa p c'.toNat).1 _ c0 c1 p1.1 p1.2.1 p2'
    show (∃ s2, m_X7_rankOf_L13 M1 a (lN (TP W H op wa p c'.toNat).1) u c' = _ ∧ _) ∨ (∃ s2, m_X7_rankOf_L13 M1 a (lN (TP W H op wa p c'.toNat).1) u c' = _ ∧ _)
    unfold m_X7_rankOf_L13
    rw [ec, wr_id (x := W * H) (by omega) (by omega), wr_id (x := c') (by omega) (by omega), if_neg (by omega), isBare_s hy1.1 c0 c1 g2 g3, bd1_q, g4]
    simp only [wrb]
    by_cases z : op c' = true ∧ (TP W H op wa p c'.toNat).2.1 % 2 = 0
    · have hi : iso W H op c' = true := iso_t.mpr ⟨⟨c0, c1⟩, z.1⟩
      have hpa := hp.at hW hi
      obtain ⟨s1, s2, -⟩ := stn_t hW hpa.1
      have z' : rot W (c' % W) u % 2 = 0 := by rw [g4]; exact z.2
      obtain ⟨k1, k2, k3⟩ := hk.1 z
      rw [decide_eq_true z, if_tf, if_pos (c := 0 ≤ c' ∧ c' < 64) (by omega), hon1 c' hi, wr_id (x := p c') (by omega) (by omega), if_pos (c := 0 ≤ p c' ∧ p c' < 128) (by omega), h1 (p c') s1 s2]
      simp only [wrb]
      cases hf : fit W H op wa (p c')
      · rw [if_ff]
        refine Or.inr ⟨_, rfl, Or.inr ⟨fun hA => ?_, rfl⟩⟩
        have := hA c' c0 c1 z
        rw [hf] at this
        exact absurd this (by decide)
      · left
        rw [if_tf, irm_p s1 (by omega) (by omega) (by omega), wr_id (x := p c' % 2) (by omega) (by omega), lt_q, waysEast_s hy1.1 h1 hs h2 c0 c1 g2 g3 z', bd1_q, g4]
        have hv : (if p c' % 2 = 0 then (1 : Int) else 0) = bI (decide (p c' % 2 = 0)) := by
          by_cases y : p c' % 2 = 0 <;> simp [y, bI]
        rw [hv]
        obtain ⟨u2, e5, u20, u21, u22⟩ := maskBehind_s hy1.1 c0 c1 g2 g3 z' (e := decide (p c' % 2 = 0)) (v := bI (decide (p c' % 2 = 0))) (wr_bI _) (fun y => ⟨stn_east hW (by
          unfold selP at k1
          dsimp only at k1
          rw [y, if_pos rfl] at k1; exact k1), by rw [g4]; exact k2 y⟩)
        have ev : (if wr (bI (decide (p c' % 2 = 0))) = 0 then some (lN (TP W H op wa p c'.toNat).1 + lN (eW W op (fit W H op wa) (W * H) c' (TP W H op wa p c'.toNat).2.1)) else some (lN (TP W H op wa p c'.toNat).1)) = some (lN (selP W op (fit W H op wa) (W * H) p c' (TP W H op wa p c'.toNat).1 (TP W H op wa p c'.toNat).2.1).2) := by
          unfold selP
          simp only [wrb]
          by_cases y : p c' % 2 = 0
          · rw [decide_eq_true y, if_tf, if_pos y, Nat.add_zero]
          · rw [decide_eq_false y, if_ff, if_neg y, lN_add]
        rw [ev, bd1_q, e5, bd1_q]
        refine ⟨_, rfl, rfl, ?_, u20, u21, ?_, fun d d0 d1 => ?_⟩
        · rw [hTs c' c0]
          unfold stp
          rw [if_pos z]
        · rw [hTs c' c0]
          unfold stp
          rw [if_pos z, u22, g4]
          rfl
        · by_cases y : d = c'
          · rw [y]; intro _; exact hf
          · exact g5 d d0 (by omega)
    · rw [decide_eq_false z, if_ff, column_s hy1.1 c0 (by omega), bd1_q]
      left
      obtain ⟨w1, w2, w3⟩ := maskSkip_s hW c0 c1 g2 g3
      refine ⟨_, rfl, rfl, ?_, w1, w2, ?_, fun d d0 d1 => ?_⟩
      · rw [hTs c' c0]
        unfold stp
        rw [if_neg z]
      · rw [hTs c' c0]
        unfold stp
        rw [if_neg z, w3, g4]
      · by_cases y : d = c'
        · rw [y]; intro q; exact absurd q z
        · exact g5 d d0 (by omega)) (by
    rintro ⟨x, u, c'⟩ ⟨g0, g1, g2, g3, g4, g5⟩
    dsimp only at g0 g1 g2 g3 g4 g5
    subst g0
    subst g1
    show ∃ s2, m_X7_rankOf_L13 M1 a _ u (W * H) = _ ∧ _
    unfold m_X7_rankOf_L13
    rw [ec, if_pos (by omega)]
    exact ⟨_, rfl, Or.inl ⟨g5, _, _, rfl⟩⟩) (by omega) (by omega) (s0 := (0, 0, 0)) ⟨rfl, lN0, by dsimp only; omega, by dsimp only; omega, by rw [Int.zero_emod, rot_0]; rfl, fun d d0 d1 => by omega⟩
  rw [e3]
  rcases g with ⟨g1, u, c, rfl⟩ | ⟨g1, rfl⟩
  · exact Or.inl ⟨g1, by rw [be3_l]⟩
  · exact Or.inr ⟨g1, by rw [be3_r]⟩
theorem rankLoopR_s {M : Mem} {W H : Int} {op : Int → Bool} {wa pr : Int → Int} (hy : YSr M W H op wa pr) (hw : WFy W H op wa pr) (hm : MY M W H (fit W H op wa)) (hG : GOn M W H op (fit W H op wa)) {s : Int} (s0 : 0 ≤ s) (s1' : s < 4) {p : Int → Int} (hp : Pav W H op p) (hon : ∀ q, iso W H op q = true → gI M 60 (64 * s + q) = p q) (al : Int64) : ∃ r, itr (fun s' => m_X12_rank_L38 M s al s'.1 s'.2.1 s'.2.2) FU (0, 0, 0) = some r ∧ ((AF W H op wa p (W * H) ∧ ∃ u c, r = .inl (lN (TP W H op wa p (W * H).toNat).1, u, c)) ∨ (¬ AF W H op wa p (W * H) ∧ r = .inr (-2, M))) := by
  have hW := hw.1
  have h8 := WH_le hW
  have hp2 := p2_256 hW.1 hW.2.1
  have hbW := Bt0 (x := W) (by have := hW.1; omega) (by have := hW.2.1; omega)
  have hs := fit_FS W H op wa
  have hK := keepsP (f := fit W H op wa) hW hp
  have hPV : ∀ c : Nat, (c : Int) ≤ W * H → PV W H op c (TP W H op wa p c).2.1 (TP W H op wa p c).2.2.1 (TP W H op wa p c).2.2.2 ∧ JP W H op p c (TP W H op wa p c).2.1 := trj_PV hW hK.1 (r := 0) (JP_0 hW hp)
  have hTs : ∀ c : Int, 0 ≤ c → TP W H op wa p (c + 1).toNat = stp W H op (selP W op (fit W H op wa) (W * H) p) c (TP W H op wa p c.toNat) := fun c c0 => trj_s c0
  refine for_g (f := fun s' => m_X12_rank_L38 M s al s'.1 s'.2.1 s'.2.2) 0 (W * H) (fun c s' => s'.2.2 = c ∧ s'.1 = lN (TP W H op wa p c.toNat).1 ∧ s'.2.1 = (TP W H op wa p c.toNat).2.1 ∧ AF W H op wa p c) (fun r => (AF W H op wa p (W * H) ∧ ∃ u c, r = .inl (lN (TP W H op wa p (W * H).toNat).1, u, c)) ∨ (¬ AF W H op wa p (W * H) ∧ r = .inr (-2, M))) (by
    rintro c ⟨x, u, c'⟩ c0 c1 ⟨g0, g1, g4, g5⟩
    dsimp only at g0 g1 g4 g5
    subst g0
    subst g1
    subst g4
    obtain ⟨p1, p2'⟩ := hPV c'.toNat (by omega)
    rw [Int.toNat_of_nonneg c0] at p1 p2'
    have hk := hK.1 c' (TP W H op wa p c'.toNat).1 _ c0 c1 p1.1 p1.2.1 p2'
    obtain ⟨m, em⟩ : ∃ m, m = (TP W H op wa p c'.toNat).2.1 := ⟨_, rfl⟩
    have m0 := p1.1
    have m1 := p1.2.1
    rw [← em] at m0 m1
    have b2 := Bt2 (u := m) m0 (by omega)
    show (∃ s2, m_X12_rank_L38 M s al (lN (TP W H op wa p c'.toNat).1) (TP W H op wa p c'.toNat).2.1 c' = _ ∧ _) ∨ (∃ s2, m_X12_rank_L38 M s al (lN (TP W H op wa p c'.toNat).1) (TP W H op wa p c'.toNat).2.1 c' = _ ∧ _)
    unfold m_X12_rank_L38
    rw [hy.1.1, hy.1.2.1, wr_id (x := W * H) (by omega) (by omega), wr_id (x := c') (by omega) (by omega), if_neg (by omega), if_pos (c := 0 ≤ c' ∧ c' < 64) (by omega), hy.1.2.2.2 c' c0 (by omega), ← em, iand1 m0 (by omega), wr_id (x := m % 2) (by omega) (by omega), hbW.1]
    by_cases z : op c' = true ∧ m % 2 = 0
    · have hi : iso W H op c' = true := iso_t.mpr ⟨⟨c0, c1⟩, z.1⟩
      have hpa := hp.at hW hi
      obtain ⟨s1, s2, -⟩ := stn_t hW hpa.1
      obtain ⟨k1, k2, k3⟩ := hk.1 (by rw [← em]; exact z)
      rw [← em] at k1 k2 k3
      rw [z.1, if_neg (c := wr (bI true) = 0) (by decide), if_pos z.2, wr_id (x := 64 * s + c') (by omega) (by omega), if_pos (c := 0 ≤ 64 * s + c' ∧ 64 * s + c' < 256) (by omega), hon c' hi, wr_id (x := p c') (by omega) (by omega), if_pos (c := 0 ≤ p c' ∧ p c' < 128) (by omega), hm (p c') s1 s2]
      cases hf : fit W H op wa (p c')
      · rw [if_pos (c := wr (bI false) = 0) (by decide)]
        refine Or.inr ⟨_, rfl, Or.inr ⟨fun hA => ?_, rfl⟩⟩
        have := hA c' c0 c1 (by rw [← em]; exact z)
        rw [hf] at this
        exact absurd this (by decide)
      · left
        rw [if_neg (c := wr (bI true) = 0) (by decide), irm_p s1 (by omega) (by omega) (by omega), wr_id (x := p c' % 2) (by omega) (by omega), lt_q, canEastR_s hm (by omega) c0 c1 m0 (by omega), bd1_q, eastR_s hW hG c0 c1 m0 m1 (fun y => FS_W hW hs y) z.2]
        have hv : (if p c' % 2 = 0 then (1 : Int) else 0) = bI (decide (p c' % 2 = 0)) := by
          by_cases y : p c' % 2 = 0 <;> simp [y, bI]
        rw [hv]
        have ev : (if wr (bI (decide (p c' % 2 = 0))) = 0 then some (lN (eW W op (fit W H op wa) (W * H) c' m)) else some 0) = some (lN (if p c' % 2 = 0 then 0 else eW W op (fit W H op wa) (W * H) c' m)) := by
          simp only [wrb]
          by_cases y : p c' % 2 = 0
          · rw [decide_eq_true y, if_tf, if_pos y, lN0]
          · rw [decide_eq_false y, if_ff, if_neg y]
        have hm2 : sar (ior m (if wr (bI (decide (p c' % 2 = 0))) = 0 then p2 W else 2)) 1 = (if decide (p c' % 2 = 0) = true then m / 2 + 1 else m / 2 + p2 (W - 1)) := by
          cases he : decide (p c' % 2 = 0)
          · rw [if_pos (by decide), if_neg (by decide)]; exact Bt3 hW.1 hW.2.1 m0 m1
          · rw [if_neg (by decide), if_pos rfl]; exact b2.2.2 (k2 he)
        rw [ev, bd1_q, lt_q, hm2, lN_add]
        refine ⟨_, rfl, rfl, ?_, ?_, fun d d0 d1 => ?_⟩
        · rw [hTs c' c0]
          unfold stp
          rw [← em, if_pos z]
          rfl
        · rw [hTs c' c0]
          unfold stp
          rw [← em, if_pos z]
          rfl
        · by_cases y : d = c'
          · rw [y]; intro _; exact hf
          · exact g5 d d0 (by omega)
    · left
      have ev : ∀ (Y : Option ((Int64 × Int × Int) ⊕ ((Int64 × Int × Int) ⊕ (Int64 × Mem)))), (if wr (bI (op c')) = 0 then some (.inl (lN (TP W H op wa p c'.toNat).1, sar m 1, c' + 1)) else if m % 2 = 0 then Y else some (.inl (lN (TP W H op wa p c'.toNat).1, sar m 1, c' + 1))) = some (.inl (lN (TP W H op wa p c'.toNat).1, sar m 1, c' + 1)) := by
        intro Y
        simp only [wrb]
        cases ho : op c'
        · rw [if_ff]
        · rw [if_tf, if_neg (fun y => z ⟨ho, y⟩)]
      rw [ev, b2.1]
      refine ⟨_, rfl, rfl, ?_, ?_, fun d d0 d1 => ?_⟩
      · rw [hTs c' c0]
        unfold stp
        rw [← em, if_neg z]
      · rw [hTs c' c0]
        unfold stp
        rw [← em, if_neg z]
      · by_cases y : d = c'
        · rw [y]; intro q; exact absurd (by rw [em]; exact q) z
        · exact g5 d d0 (by omega)) (by
    rintro ⟨x, u, c'⟩ ⟨g0, g1, g4, g5⟩
    dsimp only at g0 g1 g4 g5
    subst g0
    subst g1
    show ∃ s2, m_X12_rank_L38 M s al _ u (W * H) = _ ∧ _
    unfold m_X12_rank_L38
    rw [hy.1.1, hy.1.2.1, if_pos (by omega)]
    exact ⟨_, rfl, Or.inl ⟨g5, _, _, rfl⟩⟩) (by omega) (by omega) (s0 := (0, 0, 0)) ⟨rfl, lN0, rfl, fun d d0 d1 => by omega⟩
theorem op_rank {M : Mem} (hI : Inv M) {a : Int} (ha : -2147483648 ≤ a) (ha2 : a ≤ 2147483647) : OpL (fun M => m_X11_rank M a) (fun M => m_X12_rank M a) M := by
  have hI' := hI
  obtain ⟨W, H, op, wa, pr, hd, on, ts, tp, ln, sz, it, hA⟩ := hI'
  have hA' := hA
  obtain ⟨hC, hR, hwf, hD, hS⟩ := hA'
  have hW := hwf.1.1
  have h8 := WH_le hW
  unfold OpL m_X11_rank m_X12_rank
  dsimp only
  rw [slotFault_s hC.2.1.1 ha ha2, isSlotR_s ha ha2, wr_id ha ha2]
  simp only [wrb, bd1_q]
  rcases sfl_c (hd := hd) (a := a) (b := a) with ⟨e, c⟩ | ⟨e, c, d⟩ | ⟨e, c, d, -⟩
  · rw [e, decide_eq_false (by omega)]
    exact ⟨-1, M, M, rfl, rfl, hI⟩
  · rw [e, decide_eq_true (by omega)]
    refine ⟨-4, M, M, rfl, ?_, hI⟩
    rw [if_tf, if_pos (by omega), hR.2.1.1 a c.1 c.2.1, if_pos]
    rw [wrb]; simpa using d
  · rw [e, decide_eq_true (by omega), if_pos (by decide), if_pos (by omega)]
    simp only [if_tf]
    have hp := hwf.2.1 a c.1 c.2.1 d
    have hon := hC.2.1.2 a c.1 c.2.1 d
    obtain ⟨M1, s1, s2, f1, h1⟩ := rankOf_s hC.1 hwf.1 hS (a := 39 + 2 * a.toNat) hp (by omega) hon
    have hR1 := hR.fr f1 (by decide)
    obtain ⟨M2, e2, m1, m2, f2⟩ := pavingsR_s hR1.1 hwf.1
    have hR2 := hR1.fr f2 (by decide)
    have hD1 : DRs M1 := hD.of (fun j => s2 8 j (Or.inl rfl)) (fun j => s2 14 j (Or.inr rfl))
    have hon2 := hR2.2.1.2 a c.1 c.2.1 d
    obtain ⟨r, e3, h3⟩ := rankLoopR_s hR2.1 hwf.1 m1 m2 c.1 c.2.1 hp hon2 (lN (nPav W H op wa))
    have hfin : Inv M2 := ⟨W, H, op, wa, pr, hd, on, ts, tp, ln, sz, it, hA.sweep f1 (by decide) hD1 s1 f2 (by decide)⟩
    have hh : wr (gI M1 59 a) ≠ 0 := by
      rw [hR1.2.1.1 a c.1 c.2.1, d]; decide
    rcases h1 with ⟨q1, e1⟩ | ⟨q1, e1⟩
    · rcases h3 with ⟨-, u, c', rfl⟩ | ⟨z, -⟩
      · have hpos := AF_pos hW hp q1
        have hnp : nPav W H op wa < 2 ^ 63 := wyc_63 hW (fit_FS W H op wa) (by omega) (by omega) _
        refine ⟨_, M1, M2, by rw [e1, bd2_q], ?_, hfin⟩
        rw [if_pos (by omega), if_neg hh, e2, bd2_q, e3, be3_l, lt_q, if_neg]
        intro z
        rw [lN0] at z
        have := (pk_lLE hnp (by decide)).mp z
        omega
      · exact absurd q1 z
    · rcases h3 with ⟨z, -⟩ | ⟨-, rfl⟩
      · exact absurd z q1
      · refine ⟨_, M1, M2, by rw [e1, bd2_q], ?_, hfin⟩
        rw [if_pos (by omega), if_neg hh, e2, bd2_q, e3, be3_r]
