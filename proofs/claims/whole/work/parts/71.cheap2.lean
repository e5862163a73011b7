/-! cheapest, on both sides -/
theorem cheapR_s {M : Mem} {W H : Int} {op : Int → Bool} {wa pr : Int → Int} (hy : YSr M W H op wa pr) (hw : WFy W H op wa pr) (hm : MY M W H (fit W H op wa)) (hG : LSt M W H op (fit W H op wa) pr) {s : Int} (s0 : 0 ≤ s) (s1 : s < 4) (hr : lcc W op (fit W H op wa) pr (W * H) 0 0 < 1000000) : ∃ m c M2, itr (fun s' => m_X12_cheapest_L36 s'.2.2 s s'.1 s'.2.1) FU (0, 0, M) = some (m, c, M2) ∧ (∀ q, iso W H op q = true → gI M2 60 (64 * s + q) = (TQ W H op wa pr (W * H).toNat).2.2.1 q) ∧ (∀ j, ¬ (64 * s ≤ j ∧ j < 64 * s + 64) → gI M2 60 j = gI M 60 j) ∧ Fr [60] M M2 := by
  have hW := hw.1
  have h8 := WH_le hW
  have hp := p2_256 hW.1 hW.2.1
  have hbW := Bt0 (x := W) (by have := hW.1; omega) (by have := hW.2.1; omega)
  have hs := fit_FS W H op wa
  have hK := keepsC hw hs
  have hPV : ∀ c : Nat, (c : Int) ≤ W * H → PV W H op c (TQ W H op wa pr c).2.1 (TQ W H op wa pr c).2.2.1 (TQ W H op wa pr c).2.2.2 ∧ lcc W op (fit W H op wa) pr (W * H) c (TQ W H op wa pr c).2.1 < 1000000 := trj_PV hW hK (r := 0) hr
  have hTs : ∀ c : Int, 0 ≤ c → TQ W H op wa pr (c + 1).toNat = stp W H op (selC W op (fit W H op wa) pr (W * H)) c (TQ W H op wa pr c.toNat) := fun c c0 => trj_s c0
  have hT0 : TQ W H op wa pr 0 = (0, 0, fun _ => 0, 0) := rfl
  generalize TQ W H op wa pr = T at hPV hTs hT0 ⊢
  obtain ⟨⟨m, c, M3⟩, e3, g⟩ := for_g (f := fun s' => m_X12_cheapest_L36 s'.2.2 s s'.1 s'.2.1) 0 (W * H) (fun c s' => s'.2.1 = c ∧ s'.1 = (T c.toNat).2.1 ∧ (∀ q, iso W H op q = true → Cov W c (T c.toNat).2.1 q → gI s'.2.2 60 (64 * s + q) = (T c.toNat).2.2.1 q) ∧ (∀ j, ¬ (64 * s ≤ j ∧ j < 64 * s + 64) → gI s'.2.2 60 j = gI M 60 j) ∧ Fr [60] M s'.2.2) (fun r => (∀ q, iso W H op q = true → gI r.2.2 60 (64 * s + q) = (T (W * H).toNat).2.2.1 q) ∧ (∀ j, ¬ (64 * s ≤ j ∧ j < 64 * s + 64) → gI r.2.2 60 j = gI M 60 j) ∧ Fr [60] M r.2.2) (by
    rintro c ⟨m, c', M'⟩ c0 c1 ⟨g0, g2, g5, g5', g6⟩
    dsimp only at g0 g2 g5 g5' g6
    subst g0
    subst g2
    left
    have hy' := hy.fr g6 (by decide) (by decide) (by decide) (by decide)
    have hm' : MY M' W H (fit W H op wa) := fun b b0 b1 => (fI g6 (by decide) b).trans (hm b b0 b1)
    have hG' : ∀ v, 0 ≤ v → v < p2 W → gI M' 65 (256 * (c' + 1) + v) = lcc W op (fit W H op wa) pr (W * H) (c' + 1) v := fun v v0 v1 => (fI g6 (by decide) _).trans (hG (c' + 1) v (by omega) (by omega) v0 v1)
    obtain ⟨p1, p2'⟩ := hPV c'.toNat (by omega)
    rw [Int.toNat_of_nonneg c0] at p1 p2'
    have hk := hK c' (T c'.toNat).1 _ c0 c1 p1.1 p1.2.1 p2'
    obtain ⟨m, em⟩ : ∃ m, m = (T c'.toNat).2.1 := ⟨_, rfl⟩
    have m0 := p1.1
    have m1 := p1.2.1
    rw [← em] at m0 m1
    have b2 := Bt2 (u := m) m0 (by omega)
    show ∃ s2, m_X12_cheapest_L36 M' s (T c'.toNat).2.1 c' = _ ∧ _
    unfold m_X12_cheapest_L36
    rw [hy'.1.1, hy'.1.2.1, wr_id (x := W * H) (by omega) (by omega), wr_id (x := c') (by omega) (by omega), if_neg (by omega), if_pos (c := 0 ≤ c' ∧ c' < 64) (by omega), hy'.1.2.2.2 c' c0 (by omega), ← em, iand1 m0 (by omega), wr_id (x := m % 2) (by omega) (by omega), hbW.1]
    rw [hTs c' c0]
    unfold stp
    rw [← em]
    by_cases z : op c' = true ∧ m % 2 = 0
    · obtain ⟨k1, k2, k3⟩ := hk.1 (by rw [← em]; exact z)
      rw [← em] at k1 k2 k3
      have hE := cE_R (f := fit W H op wa) hw c0 c1 m
      have hS' := cS_R (f := fit W H op wa) hw c0 c1 m
      rw [if_pos z, z.1, if_neg (c := wr (bI true) = 0) (by decide), if_pos z.2, eastSum_s hy' hw hm' c0 c1 m0 m1 hG', bd1_q, southSum_s hy' hw hm' c0 c1 m0 m1 hG', bd1_q, wr_id (x := cE' W op (fit W H op wa) pr (W * H) c' m) (by omega) (by omega), wr_id (x := cS' W op (fit W H op wa) pr (W * H) c' m) (by omega) (by omega)]
      obtain ⟨e, ee⟩ : ∃ e : Bool, e = (selC W op (fit W H op wa) pr (W * H) c' (T c'.toNat).1 m).1 := ⟨_, rfl⟩
      have ee2 : e = decide (cE' W op (fit W H op wa) pr (W * H) c' m ≤ cS' W op (fit W H op wa) pr (W * H) c' m) := ee
      have hv12 : (if cS' W op (fit W H op wa) pr (W * H) c' m < cE' W op (fit W H op wa) pr (W * H) c' m then (0 : Int) else 1) = bI e := by
        rw [ee2]
        by_cases y : cE' W op (fit W H op wa) pr (W * H) c' m ≤ cS' W op (fit W H op wa) pr (W * H) c' m
        · rw [decide_eq_true y, if_neg (by omega)]; rfl
        · rw [decide_eq_false y, if_pos (by omega)]; rfl
      rw [hv12, lt_q, lt_q, lt_q]
      rw [← ee] at k1 k2 k3 ⊢
      have hb : (if wr (bI e) = 0 then 2 * c' + 1 else 2 * c') = (if e = true then 2 * c' else 2 * c' + 1) := by cases e <;> rfl
      have hm2 : sar (ior m (if wr (bI e) = 0 then p2 W else 2)) 1 = (if e = true then m / 2 + 1 else m / 2 + p2 (W - 1)) := by
        cases e
        · rw [if_pos (by decide), if_neg (by decide)]; exact Bt3 hW.1 hW.2.1 m0 m1
        · rw [if_neg (by decide), if_pos rfl]; exact b2.2.2 (k2 rfl)
      obtain ⟨M4, e4, q4, q4'⟩ := lays_s hy'.1 s0 s1 k1
      have f4 := fr_X12_lays e4
      rw [hb, e4, bd1_q, bd2_q, hm2]
      obtain ⟨w1, w2⟩ := PV_put hW c0 c1 p1 z.1 (by rw [← em]; exact z.2) k1 (by rw [← em]; exact k2)
      rw [← em] at w2
      refine ⟨_, rfl, rfl, rfl, fun q hq hc => ?_, fun j hj => (q4' j hj).trans (g5' j hj), g6.trans f4 (by decide)⟩
      dsimp only
      have hqr := (iso_t.mp hq).1
      rw [q4 q (by omega) (by omega)]
      unfold puts
      by_cases y : q = (if e = true then 2 * c' else 2 * c' + 1) / 2 ∨ q = oth W H (if e = true then 2 * c' else 2 * c' + 1)
      · rw [if_pos y, if_pos y]
      · rw [if_neg y, if_neg y]
        refine g5 q hq ?_
        rw [← em]
        rcases (w2 q).mp hc with x1 | x1 | x1
        · exact x1
        · exact absurd (Or.inl (by rw [x1]; split <;> omega)) y
        · exact absurd (Or.inr x1) y
    · have hb : op c' = false ∨ m % 2 = 1 := by
        cases ho : op c'
        · exact Or.inl rfl
        · right
          have : ¬ m % 2 = 0 := fun y => z ⟨ho, y⟩
          omega
      obtain ⟨v1, v2⟩ := PV_skip hW c0 c1 p1 (by rw [← em]; exact hb)
      have ev : ∀ (Y : Option (Int × Mem)), (if wr (bI (op c')) = 0 then some (m, M') else if m % 2 = 0 then Y else some (m, M')) = some (m, M') := by
        intro Y
        simp only [wrb]
        cases ho : op c'
        · rw [if_ff]
        · rw [if_tf, if_neg (fun y => z ⟨ho, y⟩)]
      rw [ev, bd2_q, if_neg z, b2.1]
      rw [← em] at v2
      exact ⟨_, rfl, rfl, rfl, fun q hq hc => g5 q hq (by rw [← em]; exact (v2 q hq).mp hc), g5', g6⟩) (by
    rintro ⟨m, c', M'⟩ ⟨g0, g2, g5, g5', g6⟩
    dsimp only at g0 g2 g5 g5' g6
    subst g0
    show ∃ s2, m_X12_cheapest_L36 M' s m (W * H) = _ ∧ _
    unfold m_X12_cheapest_L36
    rw [fI g6 (by decide), fI g6 (by decide), hy.1.1, hy.1.2.1, if_pos (by omega)]
    exact ⟨_, rfl, fun q hq => g5 q hq (Or.inl (iso_t.mp hq).1.2), g5', g6⟩) (by omega) (by omega) (s0 := (0, 0, M)) ⟨rfl, (by rw [show (0 : Int).toNat = 0 from rfl, hT0]), fun q hq hc => by
      exfalso
      have := (iso_t.mp hq).1
      rw [show (0 : Int).toNat = 0 from rfl, hT0] at hc
      rcases hc with hc | ⟨_, _, hc⟩
      · omega
      · unfold bit at hc
        change (0 : Int) / _ % 2 = 1 at hc
        rw [Int.zero_ediv] at hc
        omega, fun _ _ => rfl, Fr.rf⟩
  dsimp only at g
  exact ⟨m, c, M3, e3, g.1, g.2.1, g.2.2⟩
theorem op_cheapest {M : Mem} (hI : Inv M) {a : Int} (ha : -2147483648 ≤ a) (ha2 : a ≤ 2147483647) : OpI (fun M => m_X11_cheapest M a) (fun M => m_X12_cheapest M a) M := by
  have hI' := hI
  obtain ⟨W, H, op, wa, pr, hd, on, ts, tp, ln, sz, it, hA⟩ := hI'
  have hA' := hA
  obtain ⟨hC, hR, hwf, hD, hS⟩ := hA'
  have hW := hwf.1.1
  have h8 := WH_le hW
  have hp := p2_256 hW.1 hW.2.1
  have hs := fit_FS W H op wa
  have hl := lcc_R (f := fit W H op wa) hwf.1 (c := 0) (by omega) (by omega) 0
  unfold OpI m_X11_cheapest m_X12_cheapest m_X7_leastCost
  dsimp only
  rw [isSlot_s ha ha2, isSlotR_s ha ha2, wr_id ha ha2]
  simp only [wrb, bd1_q]
  by_cases c1 : 0 ≤ a ∧ a < 4
  case neg =>
    rw [decide_eq_false c1]
    exact ⟨-1, M, M, rfl, rfl, hI⟩
  rw [decide_eq_true c1]
  simp only [if_tf, if_pos c1]
  obtain ⟨M1, e1, h1, h2, h3, h4, h6, f1⟩ := fillCosts_s hC.1 hwf.1 hS
  have h20 := h2 0 0 (by omega) (by omega) (by omega) (by omega)
  rw [show 256 * (0 : Int) + 0 = 0 by decide, Int.zero_emod, rot_0] at h20
  change gL M1 9 0 = nvr (lcc W op (fit W H op wa) pr (W * H) 0 0) at h20
  have hD1 : DRs M1 := hD.of (fun j => h6 8 j (Or.inl rfl)) (fun j => h6 14 j (Or.inr rfl))
  rw [e1, bd1_q, show wr 0 = 0 by decide, h20, bd2_q]
  have hcmp : nvr (lcc W op (fit W H op wa) pr (W * H) 0 0) < 1099511627776 ↔ lcc W op (fit W H op wa) pr (W * H) 0 0 < 1000000 := by
    rw [NEV, nvr_lt (by omega) (by omega) (by omega) (by omega)]
  have hy1 := hC.1.fr f1 (by decide) (by decide) (by decide) (by decide)
  have refp : ∀ M3, RS M3 W H op wa pr hd on ts tp ln sz it → ∃ M4 M5, m_X12_allows M3 1 = some M4 ∧ m_X12_sums M4 = some M5 ∧ MY M5 W H (fit W H op wa) ∧ LSt M5 W H op (fit W H op wa) pr ∧ Fr [63, 65] M3 M5 ∧ gI M5 65 0 = lcc W op (fit W H op wa) pr (W * H) 0 0 := by
    intro M3 hR3
    obtain ⟨M4, e4, q4⟩ := allows_s hR3.1 hwf.1
    have f4 := fr_X12_allows e4
    obtain ⟨M5, e5, q5⟩ := sums_s (hR3.1.fr f4 (by decide) (by decide) (by decide) (by decide)) hwf.1 q4
    have f5 := fr_X12_sums e5
    have := q5 0 0 (by omega) (by omega) (by omega) (by omega)
    rw [show 256 * (0 : Int) + 0 = 0 by decide] at this
    exact ⟨M4, M5, e4, e5, fun b b0 b1 => (fI f5 (by decide) b).trans (q4 b b0 b1), q5, (f4.mono (by decide)).trans f5 (by decide), this⟩
  by_cases c2 : lcc W op (fit W H op wa) pr (W * H) 0 0 < 1000000
  case neg =>
    rw [if_neg (fun q => c2 (hcmp.mp q))]
    obtain ⟨M4, M5, e4, e5, q1, q2, q3, q4⟩ := refp M1 (hR.fr f1 (by decide))
    refine ⟨-4, M1, M5, rfl, ?_, W, H, op, wa, pr, hd, on, ts, tp, ln, sz, it, hA.sweep f1 (by decide) hD1 h3 q3 (by decide)⟩
    rw [e4, bd1_q, e5, bd1_q, q4, wr_id (by omega) (by omega), show wr 1000000 = 1000000 by decide, if_neg c2]
  rw [if_pos (hcmp.mpr c2)]
  obtain ⟨M3, e3, q1, q2, M1', q3, q4, q5, q6⟩ := layCheapest_s hy1 hwf.1 h3 (a := 39 + 2 * a.toNat) (by omega) c2
  have fA : Fr [8, 9, 11] M M1' := f1.trans q5 (by decide)
  have hD3 : DRs M1' := hD1.of (fun j => q4 8 j (Or.inl rfl)) (fun j => q4 14 j (Or.inr rfl))
  have fB : Fr [8, 9, 11, 39, 40, 41, 42, 43, 44, 45, 46] M M3 := (fA.mono (by decide)).trans q6 (by rcases s4 c1.1 c1.2 with z | z | z | z <;> rw [z] <;> decide)
  have hR3 := hR.fr fB (by decide)
  obtain ⟨M4, M5, e4, e5, r1, r2, r3, r4⟩ := refp M3 hR3
  have hy5 := hR3.1.fr r3 (by decide) (by decide) (by decide) (by decide)
  obtain ⟨m, c, M6, e6, w1, w2, w3⟩ := cheapR_s hy5 hwf.1 r1 r2 c1.1 c1.2 c2
  have hPV := (trj_PV hW (keepsC hwf.1 hs) (r := 0) c2 (W * H).toNat (by omega)).1
  rw [Int.toNat_of_nonneg (by omega)] at hPV
  obtain ⟨pv1, pv2⟩ := PV_end hW hPV
  have hans : l2i (nvr (lcc W op (fit W H op wa) pr (W * H) 0 0)) = lcc W op (fit W H op wa) pr (W * H) 0 0 := by
    have ht := nvr_t (v := lcc W op (fit W H op wa) pr (W * H) 0 0) (by omega)
    unfold nv at ht
    rw [if_neg (by omega)] at ht
    rw [l2i_s (by omega) (by omega), ht]
  rw [e3, bd1_q, hans]
  refine ⟨_, M3, sI M6 59 a 1, rfl, ?_, W, H, op, wa, pr, _, _, ts, tp, ln, sz, it, hA.slotS c1.1 c1.2 fA (by decide) hD3 q3 q6 q1 q2 (ks := [59, 60, 63, 65]) ?_ (by decide) ?_ ?_ gI_sI_eq ?_ pv1⟩
  · rw [e4, bd1_q, e5, bd1_q, r4, wr_id (by omega) (by omega), show wr 1000000 = 1000000 by decide, if_pos c2, e6, bd3_q, lt_q, gI_sI, if_neg (by simp), fI w3 (by decide), r4]
  · exact ((r3.mono (by decide)).trans w3 (by decide)).sI (by decide) rfl
  · intro j j0 j1 z
    rw [gI_sI, if_neg (fun y => z y.2), fI w3 (by decide), fI r3 (by decide)]
  · intro j hj
    rw [gI_sI, if_neg (by simp), w2 j hj, fI r3 (by decide)]
  · intro q hq
    rw [gI_sI, if_neg (by simp)]; exact w1 q hq
