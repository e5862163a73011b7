/-! place, on both sides -/
theorem layByRank_s {M : Mem} {W H : Int} {op : Int → Bool} {wa pr : Int → Int} (hy : YSc M W H op wa pr) (hw : WFy W H op wa pr) (hS : SwC M W H op wa pr) {a : Nat} (ha : 38 < a) {r : Nat} (hr : r < nPav W H op wa) : ∃ M2, m_X7_layByRank M (lN r) a = some M2 ∧ gI M2 a 0 = 1 ∧ (∀ q, iso W H op q = true → gI M2 (a + 1) q = (trj W H op (selR W op (fit W H op wa) (W * H)) r (W * H).toNat).2.2.1 q) ∧ ∃ M1, m_X7_fillWays M = some M1 ∧ SwC M1 W H op wa pr ∧ (∀ k j, k = 8 ∨ k = 14 → dR M1 k j = dR M k j) ∧ Fr [8, 9, 11] M M1 ∧ Fr [a + 1, a] M1 M2 := by
  have hW := hw.1
  have h8 := WH_le hW
  have hp := p2_256 hW.1 hW.2.1
  have hs := fit_FS W H op wa
  obtain ⟨M1, e1, h1, h2, h3, h4, h5, h6, f1⟩ := fillWays_s hy hw hS
  have hy1 := hy.fr f1 (by decide) (by decide) (by decide) (by decide)
  have hPV := trj_PV hW (keepsR hW hs) (r := r) hr
  generalize hT : trj W H op (selR W op (fit W H op wa) (W * H)) r = T at hPV ⊢
  have hTs : ∀ c : Int, 0 ≤ c → T (c + 1).toNat = stp W H op (selR W op (fit W H op wa) (W * H)) c (T c.toNat) := fun c c0 => by rw [← hT]; exact trj_s c0
  have hK := keepsR hW hs
  unfold m_X7_layByRank
  rw [e1, bd1_q]
  have ec : ∀ M', Fr [a + 1] M1 M' → m_X10_cells M' = W * H := fun M' f => by
    unfold m_X10_cells
    rw [fI f (by simp; omega), fI f (by simp; omega), hy1.1.1, hy1.1.2.1]
  obtain ⟨⟨x, u, c, M3⟩, e3, g⟩ := for_g (f := fun s => m_X7_layByRank_L14 s.2.2.2 a s.1 s.2.1 s.2.2.1) 0 (W * H) (fun c s => s.2.2.1 = c ∧ s.1 = lN (T c.toNat).1 ∧ 0 ≤ s.2.1 ∧ s.2.1 < p2 W ∧ rot W (c % W) s.2.1 = (T c.toNat).2.1 ∧ (∀ q, iso W H op q = true → Cov W c (T c.toNat).2.1 q → gI s.2.2.2 (a + 1) q = (T c.toNat).2.2.1 q) ∧ Fr [a + 1] M1 s.2.2.2) (fun r => (∀ q, iso W H op q = true → gI r.2.2.2 (a + 1) q = (T (W * H).toNat).2.2.1 q) ∧ Fr [a + 1] M1 r.2.2.2) (by
    rintro c ⟨x, u, c', M'⟩ c0 c1 ⟨g0, g1, g2, g3, g4, g5, g6⟩
    dsimp only at g0 g1 g2 g3 g4 g5 g6
    subst g0
    subst g1
    left
    have hy' := hy1.fr g6 (by simp; omega) (by simp; omega) (by simp; omega) (by simp; omega)
    have hf' : FTc M' W H (fit W H op wa) := fun b b0 b1 => (fI g6 (by simp; omega) b).trans (h1 b b0 b1)
    have hT' : WYc M' W H op (fit W H op wa) := fun d v d0 d1 v0 v1 => (fL g6 (by simp; omega) _).trans (h2 d v d0 d1 v0 v1)
    obtain ⟨p1, p2'⟩ := hPV c'.toNat (by omega)
    rw [Int.toNat_of_nonneg c0] at p1 p2'
    have hk := hK c' _ _ c0 c1 p1.1 p1.2.1 p2'
    show ∃ s2, m_X7_layByRank_L14 M' a (lN (T c'.toNat).1) u c' = _ ∧ _
    unfold m_X7_layByRank_L14
    rw [ec M' g6, wr_id (x := W * H) (by omega) (by omega), wr_id (x := c') (by omega) (by omega), if_neg (by omega), isBare_s hy'.1 c0 c1 g2 g3, bd1_q, g4]
    simp only [wrb]
    rw [hTs c' c0]
    unfold stp
    by_cases z : op c' = true ∧ (T c'.toNat).2.1 % 2 = 0
    · rw [decide_eq_true z, if_tf, if_pos z]
      have z' : rot W (c' % W) u % 2 = 0 := by rw [g4]; exact z.2
      obtain ⟨k1, k2, k3⟩ := hk.1 z
      have hE : eW W op (fit W H op wa) (W * H) c' (T c'.toNat).2.1 < 2 ^ 63 := by
        unfold eW
        split
        · exact wyc_63 hW hs (by omega) (by omega) _
        · decide
      have hl : (T c'.toNat).1 < 2 ^ 63 := Nat.lt_trans p2' (wyc_63 hW hs c0 (by omega) _)
      rw [waysEast_s hy'.1 hf' hs hT' c0 c1 g2 g3 z', bd1_q, g4]
      obtain ⟨e, ee⟩ : ∃ e : Bool, e = (selR W op (fit W H op wa) (W * H) c' (T c'.toNat).1 (T c'.toNat).2.1).1 := ⟨_, rfl⟩
      have ee2 : e = decide ((T c'.toNat).1 < eW W op (fit W H op wa) (W * H) c' (T c'.toNat).2.1) := ee
      have hv12 : (if lN (eW W op (fit W H op wa) (W * H) c' (T c'.toNat).2.1) ≤ lN (T c'.toNat).1 then (0 : Int) else 1) = bI e := by
        rw [ee2]
        by_cases y : (T c'.toNat).1 < eW W op (fit W H op wa) (W * H) c' (T c'.toNat).2.1
        · rw [decide_eq_true y, if_neg (fun q => by have := (pk_lLE hE hl).mp q; omega)]; rfl
        · rw [decide_eq_false y, if_pos ((pk_lLE hE hl).mpr (by omega))]; rfl
      rw [hv12, lt_q, lt_q, lt_q]
      rw [← ee] at k1 k2 k3 ⊢
      have hb : (if wr (bI e) = 0 then 2 * c' + 1 else 2 * c') = (if e = true then 2 * c' else 2 * c' + 1) := by cases e <;> rfl
      have hl2 : (if wr (bI e) = 0 then lN (T c'.toNat).1 - lN (eW W op (fit W H op wa) (W * H) c' (T c'.toNat).2.1) else lN (T c'.toNat).1) = lN (selR W op (fit W H op wa) (W * H) c' (T c'.toNat).1 (T c'.toNat).2.1).2 := by
        unfold selR
        dsimp only
        by_cases y : (T c'.toNat).1 < eW W op (fit W H op wa) (W * H) c' (T c'.toNat).2.1
        · rw [ee2, decide_eq_true y, if_pos y]; rfl
        · rw [ee2, decide_eq_false y, if_neg y, ← lN_sub (by omega)]; rfl
      rw [hb, hl2]
      obtain ⟨M4, e4, q4⟩ := put_s hy'.1 (a := a) (by omega) k1
      have f4 := fr_X3_put e4
      obtain ⟨u2, e5, u20, u21, u22⟩ := maskBehind_s (hy'.1.fr f4 (by simp; omega) (by simp; omega)) c0 c1 g2 g3 z' (e := e) (v := bI e) (wr_bI e) (fun y => ⟨stn_east hW (by rw [y, if_pos rfl] at k1; exact k1), by rw [g4]; exact k2 y⟩)
      rw [e4, bd1_q, e5, bd1_q, bd3_q]
      obtain ⟨w1, w2⟩ := PV_put hW c0 c1 p1 z.1 z.2 k1 k2
      refine ⟨_, rfl, rfl, rfl, u20, u21, by rw [u22, g4], fun q hq hc => ?_, g6.trans f4 (by simp)⟩
      dsimp only
      rw [q4 q]
      unfold puts
      by_cases y : q = (if e = true then 2 * c' else 2 * c' + 1) / 2 ∨ q = oth W H (if e = true then 2 * c' else 2 * c' + 1)
      · rw [if_pos y, if_pos y]
      · rw [if_neg y, if_neg y]
        refine g5 q hq ?_
        rcases (w2 q).mp hc with x1 | x1 | x1
        · exact x1
        · exact absurd (Or.inl (by rw [x1]; split <;> omega)) y
        · exact absurd (Or.inr x1) y
    · rw [decide_eq_false z, if_ff, if_neg z, column_s hy'.1 c0 (by omega), bd1_q, bd3_q]
      obtain ⟨w1, w2, w3⟩ := maskSkip_s hW c0 c1 g2 g3
      have hb : op c' = false ∨ (T c'.toNat).2.1 % 2 = 1 := by
        cases ho : op c'
        · exact Or.inl rfl
        · right
          have : ¬ (T c'.toNat).2.1 % 2 = 0 := fun y => z ⟨ho, y⟩
          omega
      obtain ⟨v1, v2⟩ := PV_skip hW c0 c1 p1 hb
      exact ⟨_, rfl, rfl, rfl, w1, w2, by rw [w3, g4], fun q hq hc => g5 q hq ((v2 q hq).mp hc), g6⟩) (by
    rintro ⟨x, u, c', M'⟩ ⟨g0, g1, g2, g3, g4, g5, g6⟩
    dsimp only at g0 g1 g2 g3 g4 g5 g6
    subst g0
    show ∃ s2, m_X7_layByRank_L14 M' a x u (W * H) = _ ∧ _
    unfold m_X7_layByRank_L14
    rw [ec M' g6, if_pos (by omega)]
    exact ⟨_, rfl, fun q hq => g5 q hq (Or.inl (iso_t.mp hq).1.2), g6⟩) (by omega) (by omega) (s0 := (lN r, 0, 0, M1)) ⟨rfl, by rw [← hT]; rfl, by dsimp only; omega, by dsimp only; omega, by rw [Int.zero_emod, rot_0, ← hT]; rfl, fun q hq hc => by
      exfalso
      have := (iso_t.mp hq).1
      rcases hc with hc | ⟨_, _, hc⟩
      · omega
      · rw [← hT] at hc
        unfold bit at hc
        change (0 : Int) / _ % 2 = 1 at hc
        rw [Int.zero_ediv] at hc
        omega, Fr.rf⟩
  dsimp only at g
  rw [e3, bd4_q, lt_q]
  refine ⟨_, rfl, gI_sI_eq, fun q hq => ?_, M1, rfl, h3, h6, f1, (g.2.mono (by simp)).sI (by simp) rfl⟩
  rw [gI_sI, if_neg (by omega)]; exact g.1 q hq
theorem canEastR_s {M : Mem} {W H : Int} {f : Int → Bool} (hm : MY M W H f) {c m : Int} (h8 : W * H ≤ 64) (c0 : 0 ≤ c) (c1 : c < W * H) (m0 : 0 ≤ m) (m1 : m < 256) : m_X12_canEast M c m = some (decide (f (2 * c) = true ∧ m / 2 % 2 = 0)) := by
  have b2 := Bt2 (u := m) m0 m1
  unfold m_X12_canEast
  rw [wr_id (x := 2 * c) (by omega) (by omega), if_pos (by omega), hm (2 * c) (by omega) (by omega), wr_iand, lt_q]
  simp only [wrb, b2.2.1]
  cases f (2 * c)
  · simp
  · by_cases z : m / 2 % 2 = 0 <;> simp [z]
theorem eastR_s {M : Mem} {W H : Int} {op f : Int → Bool} (hW : WHr W H) (hG : GOn M W H op f) {c m : Int} (c0 : 0 ≤ c) (c1 : c < W * H) (m0 : 0 ≤ m) (m1 : m < p2 W) (hs : f (2 * c) = true → 1 < W) (hm : m % 2 = 0) : (if wr (bI (decide (f (2 * c) = true ∧ m / 2 % 2 = 0))) = 0 then some (0 : Int64) else if 0 ≤ wr (256 * (c + 1) + sar (ior m 2) 1) ∧ wr (256 * (c + 1) + sar (ior m 2) 1) < 16640 then some (gL M 64 (wr (256 * (c + 1) + sar (ior m 2) 1))) else none) = some (lN (eW W op f (W * H) c m)) := by
  have h8 := WH_le hW
  have hp := p2_256 hW.1 hW.2.1
  have b2 := Bt2 (u := m) m0 (by omega)
  have hPc := Pc hW.1 hW.2.1 m0 m1
  simp only [wrb]
  unfold eW
  by_cases y : f (2 * c) = true ∧ m / 2 % 2 = 0
  · have := ((hPc.2.2 hm).2.2 y.2 (hs y.1)).1
    rw [decide_eq_true y, if_tf, if_pos y, b2.2.2 y.2, wr_id (x := 256 * (c + 1) + (m / 2 + 1)) (by omega) (by omega), if_pos (by omega), hG (c + 1) (m / 2 + 1) (by omega) (by omega) (by omega) (by omega)]
  · rw [decide_eq_false y, if_ff, if_neg y, lN0]
theorem FS_W {W H : Int} {op f : Int → Bool} (hW : WHr W H) (hs : FS W H op f) {c : Int} (h : f (2 * c) = true) : 1 < W := by
  have := stn_east hW (hs _ h)
  have h2 := (stn_t hW (hs _ h)).1
  have : 0 ≤ c % W := Int.emod_nonneg _ (by have := hW.1; omega)
  omega
theorem placeR_s {M : Mem} {W H : Int} {op : Int → Bool} {wa pr : Int → Int} (hy : YSr M W H op wa pr) (hw : WFy W H op wa pr) (hm : MY M W H (fit W H op wa)) (hG : GOn M W H op (fit W H op wa)) {s : Int} (s0 : 0 ≤ s) (s1 : s < 4) {r : Nat} (hr : r < nPav W H op wa) : ∃ x m c M2, itr (fun s' => m_X12_place_L42 s'.2.2.2.2 s s'.1 s'.2.1 s'.2.2.1 s'.2.2.2.1) FU (lN r, 0, 0, 0, M) = some (x, m, (trj W H op (selR W op (fit W H op wa) (W * H)) r (W * H).toNat).2.2.2, c, M2) ∧ (∀ q, iso W H op q = true → gI M2 60 (64 * s + q) = (trj W H op (selR W op (fit W H op wa) (W * H)) r (W * H).toNat).2.2.1 q) ∧ (∀ j, ¬ (64 * s ≤ j ∧ j < 64 * s + 64) → gI M2 60 j = gI M 60 j) ∧ Fr [60] M M2 := by
  have hW := hw.1
  have h8 := WH_le hW
  have hp := p2_256 hW.1 hW.2.1
  have hbW := Bt0 (x := W) (by have := hW.1; omega) (by have := hW.2.1; omega)
  have hs := fit_FS W H op wa
  have hPV := trj_PV hW (keepsR hW hs) (r := r) hr
  generalize hT : trj W H op (selR W op (fit W H op wa) (W * H)) r = T at hPV ⊢
  have hTs : ∀ c : Int, 0 ≤ c → T (c + 1).toNat = stp W H op (selR W op (fit W H op wa) (W * H)) c (T c.toNat) := fun c c0 => by rw [← hT]; exact trj_s c0
  have hK := keepsR hW hs
  obtain ⟨⟨x, m, n, c, M3⟩, e3, g⟩ := for_g (f := fun s' => m_X12_place_L42 s'.2.2.2.2 s s'.1 s'.2.1 s'.2.2.1 s'.2.2.2.1) 0 (W * H) (fun c s' => s'.2.2.2.1 = c ∧ s'.1 = lN (T c.toNat).1 ∧ s'.2.1 = (T c.toNat).2.1 ∧ s'.2.2.1 = (T c.toNat).2.2.2 ∧ (∀ q, iso W H op q = true → Cov W c (T c.toNat).2.1 q → gI s'.2.2.2.2 60 (64 * s + q) = (T c.toNat).2.2.1 q) ∧ (∀ j, ¬ (64 * s ≤ j ∧ j < 64 * s + 64) → gI s'.2.2.2.2 60 j = gI M 60 j) ∧ Fr [60] M s'.2.2.2.2) (fun r => r.2.2.1 = (T (W * H).toNat).2.2.2 ∧ (∀ q, iso W H op q = true → gI r.2.2.2.2 60 (64 * s + q) = (T (W * H).toNat).2.2.1 q) ∧ (∀ j, ¬ (64 * s ≤ j ∧ j < 64 * s + 64) → gI r.2.2.2.2 60 j = gI M 60 j) ∧ Fr [60] M r.2.2.2.2) (by
    rintro c ⟨x, m, n, c', M'⟩ c0 c1 ⟨g0, g1, g2, g3, g5, g5', g6⟩
    dsimp only at g0 g1 g2 g3 g5 g5' g6
    subst g0
    subst g1
    subst g2
    subst g3
    left
    have hy' := hy.fr g6 (by decide) (by decide) (by decide) (by decide)
    have hm' : MY M' W H (fit W H op wa) := fun b b0 b1 => (fI g6 (by decide) b).trans (hm b b0 b1)
    have hG' : GOn M' W H op (fit W H op wa) := fun d v d0 d1 v0 v1 => (fL g6 (by decide) _).trans (hG d v d0 d1 v0 v1)
    obtain ⟨p1, p2'⟩ := hPV c'.toNat (by omega)
    rw [Int.toNat_of_nonneg c0] at p1 p2'
    have hk := hK c' _ _ c0 c1 p1.1 p1.2.1 p2'
    obtain ⟨m, em⟩ : ∃ m, m = (T c'.toNat).2.1 := ⟨_, rfl⟩
    have m0 := p1.1
    have m1 := p1.2.1
    rw [← em] at m0 m1
    have b2 := Bt2 (u := m) m0 (by omega)
    show ∃ s2, m_X12_place_L42 M' s (lN (T c'.toNat).1) (T c'.toNat).2.1 (T c'.toNat).2.2.2 c' = _ ∧ _
    unfold m_X12_place_L42
    rw [hy'.1.1, hy'.1.2.1, wr_id (x := W * H) (by omega) (by omega), wr_id (x := c') (by omega) (by omega), if_neg (by omega), if_pos (c := 0 ≤ c' ∧ c' < 64) (by omega), hy'.1.2.2.2 c' c0 (by omega), ← em, iand1 m0 (by omega), wr_id (x := m % 2) (by omega) (by omega), hbW.1]
    rw [hTs c' c0]
    unfold stp
    rw [← em]
    by_cases z : op c' = true ∧ m % 2 = 0
    · obtain ⟨k1, k2, k3⟩ := hk.1 (by rw [← em]; exact z)
      rw [← em] at k1 k2 k3
      have hE : eW W op (fit W H op wa) (W * H) c' m < 2 ^ 63 := by
        unfold eW
        split
        · exact wyc_63 hW hs (by omega) (by omega) _
        · decide
      have hl : (T c'.toNat).1 < 2 ^ 63 := Nat.lt_trans p2' (wyc_63 hW hs c0 (by omega) _)
      rw [if_pos z, z.1, if_neg (c := wr (bI true) = 0) (by decide), if_pos z.2, canEastR_s hm' (by omega) c0 c1 m0 (by omega), bd1_q, eastR_s hW hG' c0 c1 m0 m1 (fun y => FS_W hW hs y) z.2, bd1_q]
      obtain ⟨e, ee⟩ : ∃ e : Bool, e = (selR W op (fit W H op wa) (W * H) c' (T c'.toNat).1 m).1 := ⟨_, rfl⟩
      have ee2 : e = decide ((T c'.toNat).1 < eW W op (fit W H op wa) (W * H) c' m) := ee
      have hv12 : (if lN (eW W op (fit W H op wa) (W * H) c' m) ≤ lN (T c'.toNat).1 then (0 : Int) else 1) = bI e := by
        rw [ee2]
        by_cases y : (T c'.toNat).1 < eW W op (fit W H op wa) (W * H) c' m
        · rw [decide_eq_true y, if_neg (fun q => by have := (pk_lLE hE hl).mp q; omega)]; rfl
        · rw [decide_eq_false y, if_pos ((pk_lLE hE hl).mpr (by omega))]; rfl
      rw [hv12, lt_q, lt_q, lt_q, lt_q]
      rw [← ee] at k1 k2 k3 ⊢
      have hb : (if wr (bI e) = 0 then 2 * c' + 1 else 2 * c') = (if e = true then 2 * c' else 2 * c' + 1) := by cases e <;> rfl
      have hl2 : lN (T c'.toNat).1 - (if wr (bI e) = 0 then lN (eW W op (fit W H op wa) (W * H) c' m) else 0) = lN (selR W op (fit W H op wa) (W * H) c' (T c'.toNat).1 m).2 := by
        unfold selR
        dsimp only
        by_cases y : (T c'.toNat).1 < eW W op (fit W H op wa) (W * H) c' m
        · rw [ee2, decide_eq_true y, if_pos y, if_neg (by decide), lN0, lN_sub (by omega)]; rfl
        · rw [ee2, decide_eq_false y, if_neg y, if_pos (by decide), lN_sub (by omega)]
      have hm2 : sar (ior m (if wr (bI e) = 0 then p2 W else 2)) 1 = (if e = true then m / 2 + 1 else m / 2 + p2 (W - 1)) := by
        cases e
        · rw [if_pos (by decide), if_neg (by decide)]; exact Bt3 hW.1 hW.2.1 m0 m1
        · rw [if_neg (by decide), if_pos rfl]; exact b2.2.2 (k2 rfl)
      obtain ⟨M4, e4, q4, q4'⟩ := lays_s hy'.1 s0 s1 k1
      have f4 := fr_X12_lays e4
      rw [hb, hl2, e4, bd1_q, bd4_q, hm2]
      obtain ⟨w1, w2⟩ := PV_put hW c0 c1 p1 z.1 (by rw [← em]; exact z.2) k1 (by rw [← em]; exact k2)
      rw [← em] at w2
      refine ⟨_, rfl, rfl, rfl, rfl, rfl, fun q hq hc => ?_, fun j hj => (q4' j hj).trans (g5' j hj), g6.trans f4 (by decide)⟩
      dsimp only
      have hqr := (iso_t.mp hq).1
      rw [q4 q (by omega) (by omega)]
      unfold puts
      by_cases y : q = (if e = true then 2 * c' else 2 * c' + 1) / 2 ∨ q = oth W H (if e = true then 2 * c' else 2 * c' + 1)
      · rw [if_pos y, if_pos y]
      · rw [if_neg y, if_neg y]
        refine g5 q hq ?_
        rw [← em]
        rcases (w2 q).mp hc with x1 | x1 | x1
        · exact x1
        · exact absurd (Or.inl (by rw [x1]; split <;> omega)) y
        · exact absurd (Or.inr x1) y
    · have hb : op c' = false ∨ m % 2 = 1 := by
        cases ho : op c'
        · exact Or.inl rfl
        · right
          have : ¬ m % 2 = 0 := fun y => z ⟨ho, y⟩
          omega
      obtain ⟨v1, v2⟩ := PV_skip hW c0 c1 p1 (by rw [← em]; exact hb)
      have ev : ∀ (Y : Option (Int64 × Int × Int × Mem)), (if wr (bI (op c')) = 0 then some (lN (T c'.toNat).1, m, (T c'.toNat).2.2.2, M') else if m % 2 = 0 then Y else some (lN (T c'.toNat).1, m, (T c'.toNat).2.2.2, M')) = some (lN (T c'.toNat).1, m, (T c'.toNat).2.2.2, M') := by
        intro Y
        simp only [wrb]
        cases ho : op c'
        · rw [if_ff]
        · rw [if_tf, if_neg (fun y => z ⟨ho, y⟩)]
      rw [ev, bd4_q, if_neg z, b2.1]
      rw [← em] at v2
      exact ⟨_, rfl, rfl, rfl, rfl, rfl, fun q hq hc => g5 q hq (by rw [← em]; exact (v2 q hq).mp hc), g5', g6⟩) (by
    rintro ⟨x, m, n, c', M'⟩ ⟨g0, g1, g2, g3, g5, g5', g6⟩
    dsimp only at g0 g1 g2 g3 g5 g5' g6
    subst g0
    show ∃ s2, m_X12_place_L42 M' s x m n (W * H) = _ ∧ _
    unfold m_X12_place_L42
    rw [fI g6 (by decide), fI g6 (by decide), hy.1.1, hy.1.2.1, if_pos (by omega)]
    exact ⟨_, rfl, g3, fun q hq => g5 q hq (Or.inl (iso_t.mp hq).1.2), g5', g6⟩) (by omega) (by omega) (s0 := (lN r, 0, 0, 0, M)) ⟨rfl, by rw [← hT]; rfl, by rw [← hT]; rfl, by rw [← hT]; rfl, fun q hq hc => by
      exfalso
      have := (iso_t.mp hq).1
      rcases hc with hc | ⟨_, _, hc⟩
      · omega
      · rw [← hT] at hc
        unfold bit at hc
        change (0 : Int) / _ % 2 = 1 at hc
        rw [Int.zero_ediv] at hc
        omega, fun _ _ => rfl, Fr.rf⟩
  dsimp only at g
  obtain ⟨g1, g2, g3, g4⟩ := g
  subst g1
  exact ⟨x, m, c, M3, e3, g2, g3, g4⟩
theorem lN_neg {n : Nat} (h : n < 2 ^ 63) : ¬ lN n < 0 := by
  rw [lN0, pk_lLT h (by decide)]
  omega
theorem ALL.slotS {M M0 M1 M2 : Mem} {W H : Int} {op : Int → Bool} {wa pr : Int → Int} {hd : Int → Bool} {on : Int → Int → Int} {ts : Int} {tp : Int → Int} {ln sz : Int → Int} {it : Int → Int → Int} (h : ALL M W H op wa pr hd on ts tp ln sz it) {s : Int} (h0 : 0 ≤ s) (h1 : s < 4) {p : Int → Int} {ks0 : List Nat} (hF0 : Fr ks0 M M0) (hk0 : ks0.all (fun k => (8 :: 14 :: ctmp).contains k) = true) (hD : DRs M0) (hS : SwC M0 W H op wa pr) (hF : Fr [39 + 2 * s.toNat + 1, 39 + 2 * s.toNat] M0 M1) (hh : gI M1 (39 + 2 * s.toNat) 0 = 1) (hpc : ONc M1 W H op s p) {ks : List Nat} (hF2 : Fr ks M1 M2) (hk : ks.all (fun k => (59 :: 60 :: rtmp).contains k) = true) (hf : ∀ j, 0 ≤ j → j < 4 → j ≠ s → gI M2 59 j = gI M1 59 j) (hf2 : ∀ j, ¬ (64 * s ≤ j ∧ j < 64 * s + 64) → gI M2 60 j = gI M1 60 j) (hh2 : gI M2 59 s = 1) (hpr : ONr M2 W H op s p) (hp : Pav W H op p) : ALL M2 W H op wa pr (fun j => if j = s then true else hd j) (fun j => if j = s then p else on j) ts tp ln sz it :=
  (h.sweep hF0 hk0 hD hS (ks2 := []) Fr.rf (by decide)).slot h0 h1 hF hh (fun _ => hpc) hF2 hk hf hf2 hh2 (fun _ => hpr) (fun _ => hp)
theorem op_place {M : Mem} (hI : Inv M) {a : Int} (ha : -2147483648 ≤ a) (ha2 : a ≤ 2147483647) (rk : Int64) : OpI (fun M => m_X11_place M a rk) (fun M => m_X12_place M a rk) M := by
  have hI' := hI
  obtain ⟨W, H, op, wa, pr, hd, on, ts, tp, ln, sz, it, hA⟩ := hI'
  have hA' := hA
  obtain ⟨hC, hR, hwf, hD, hS⟩ := hA'
  have hW := hwf.1.1
  have h8 := WH_le hW
  have hs := fit_FS W H op wa
  unfold OpI m_X11_place m_X12_place
  dsimp only
  rw [isSlot_s ha ha2, isSlotR_s ha ha2, wr_id ha ha2]
  simp only [wrb, bd1_q]
  by_cases c1 : 0 ≤ a ∧ a < 4
  case neg =>
    rw [decide_eq_false c1]
    exact ⟨-1, M, M, rfl, rfl, hI⟩
  rw [decide_eq_true c1]
  simp only [if_tf, if_pos c1]
  by_cases c2 : rk < 0
  · obtain ⟨M2, e2, -, -, f2⟩ := pavingsR_s hR.1 hwf.1
    refine ⟨-1, M, M2, by rw [if_pos c2], by rw [e2, bd2_q, if_pos c2], W, H, op, wa, pr, hd, on, ts, tp, ln, sz, it, hA.sweep (ks := []) Fr.rf (by decide) hD hS f2 (by decide)⟩
  simp only [if_neg c2]
  obtain ⟨r, hr, rfl⟩ := pk_lOf c2
  obtain ⟨M1, e1, h1, h2, h3, h4, h5, h6, f1⟩ := total_s hC.1 hwf.1 hS
  have hnp : nPav W H op wa < 2 ^ 63 := wyc_63 hW hs (by omega) (by omega) _
  have hD1 : DRs M1 := hD.of (fun j => h6 8 j (Or.inl rfl)) (fun j => h6 14 j (Or.inr rfl))
  rw [e1, bd2_q]
  by_cases c3 : lN r < lN (nPav W H op wa)
  case neg =>
    have hR1 := hR.fr f1 (by decide)
    obtain ⟨M2, e2, -, -, f2⟩ := pavingsR_s hR1.1 hwf.1
    refine ⟨-1, M1, M2, by rw [if_neg c3], by rw [e2, bd2_q, if_neg c3], W, H, op, wa, pr, hd, on, ts, tp, ln, sz, it, hA.sweep f1 (by decide) hD1 h3 f2 (by decide)⟩
  rw [if_pos c3]
  have c3' := (pk_lLT hr hnp).mp c3
  have hy1 := hC.1.fr f1 (by decide) (by decide) (by decide) (by decide)
  obtain ⟨M3, e3, q1, q2, M1', e1', q3, q4, q5, q6⟩ := layByRank_s hy1 hwf.1 h3 (a := 39 + 2 * a.toNat) (by omega) c3'
  have fA : Fr [8, 9, 11] M M1' := f1.trans q5 (by decide)
  have hD3 : DRs M1' := hD1.of (fun j => q4 8 j (Or.inl rfl)) (fun j => q4 14 j (Or.inr rfl))
  have fB : Fr [8, 9, 11, 39, 40, 41, 42, 43, 44, 45, 46] M M3 := (fA.mono (by decide)).trans q6 (by rcases s4 c1.1 c1.2 with z | z | z | z <;> rw [z] <;> decide)
  have hR3 := hR.fr fB (by decide)
  have hy3 := hC.1.fr fB (by decide) (by decide) (by decide) (by decide)
  obtain ⟨M4, e4, m1, m2, f4⟩ := pavingsR_s hR3.1 hwf.1
  have hy4 := hR3.1.fr f4 (by decide) (by decide) (by decide) (by decide)
  obtain ⟨x, m, c, M5, e5, w1, w2, w3⟩ := placeR_s hy4 hwf.1 m1 m2 c1.1 c1.2 c3'
  have hPV := (trj_PV hW (keepsR hW hs) (r := r) c3' (W * H).toNat (by omega)).1
  rw [Int.toNat_of_nonneg (by omega)] at hPV
  obtain ⟨pv1, pv2⟩ := PV_end hW hPV
  rw [e3, bd1_q, openCells_s hy3.1, bd1_q]
  have hn : idv (nOp W H op) 2 = (trj W H op (selR W op (fit W H op wa) (W * H)) r (W * H).toNat).2.2.2 := by
    have hb : 0 ≤ nOp W H op ∧ nOp W H op ≤ 64 := by
      have key : ∀ k : Nat, 0 ≤ sm k (fun c => bI (op c)) ∧ sm k (fun c => bI (op c)) ≤ k := by
        intro k
        induction k with
        | zero => exact ⟨by rw [sm_z]; omega, by rw [sm_z]; omega⟩
        | succ k ih =>
          have := bI_lo (op (k : Int))
          have := bI_hi (op (k : Int))
          rw [sm_s]
          omega
      have := key (W * H).toNat
      unfold nOp sI'
      omega
    rw [idv_p hb.1 (by omega) (by omega) (by omega)]
    omega
  rw [hn]
  refine ⟨_, M3, sI M5 59 a 1, rfl, by rw [e4, bd2_q, if_pos c3, e5, bd5_q, lt_q], W, H, op, wa, pr, _, _, ts, tp, ln, sz, it, hA.slotS c1.1 c1.2 fA (by decide) hD3 q3 q6 q1 q2 (ks := [59, 60, 63, 64]) ?_ (by decide) ?_ ?_ gI_sI_eq ?_ pv1⟩
  · exact ((f4.mono (by decide)).trans w3 (by decide)).sI (by decide) rfl
  · intro j j0 j1 z
    rw [gI_sI, if_neg (fun y => z y.2), fI w3 (by decide), fI f4 (by decide)]
  · intro j hj
    rw [gI_sI, if_neg (by simp), w2 j hj, fI f4 (by decide)]
  · intro q hq
    rw [gI_sI, if_neg (by simp)]; exact w1 q hq
