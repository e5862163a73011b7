/-! share, sure -/
theorem dR_sR (M : Mem) (k j v a b : Nat) : dR (sR M k j v) a b = if a = k ∧ b = j then v else dR M a b := rfl
def shT (W H : Int) (op f : Int → Bool) (b : Int) : Nat := tL (tsc W op f) (b / 2).toNat (gbf W op f (W * H) (b / 2) b)
theorem shT_e {W H : Int} {op f : Int → Bool} (hW : WHr W H) (hs : FS W H op f) {b : Int} (h : f b = true) : shT W H op f b = shN W H op f b := by
  unfold shT
  rw [shN_e hW hs h]
  congr 1
  funext m
  unfold gbf
  rw [if_pos h]
theorem tL_0 {W : Int} {op f : Int → Bool} : ∀ k : Nat, tL (tsc W op f) k (fun _ => 0) = 0 := by
  intro k
  induction k with
  | zero => rfl
  | succ k ih =>
    show tL (tsc W op f) k (tsc W op f k (fun _ => 0)) = 0
    have : tsc W op f k (fun _ => 0) = fun _ => 0 := by
      funext m
      unfold tsc
      simp
    rw [this]
    exact ih
theorem fillShares_s {M : Mem} {W H : Int} {op : Int → Bool} {wa pr : Int → Int} (hy : YSc M W H op wa pr) (hw : WFy W H op wa pr) (hS : SwC M W H op wa pr) (hD : DRs M) : ∃ M2, m_X7_fillShares M = some M2 ∧ SRc M2 W H op (fit W H op wa) ∧ SwC M2 W H op wa pr ∧ DRs M2 ∧ Fr [8, 9, 10, 11, 12, 13, 15, 16] M M2 := by
  have hW := hw.1
  have h8 := WH_le hW
  have hp := p2_256 hW.1 hW.2.1
  by_cases c : gI M 8 6 = 0
  rotate_left
  · have hS' := hS
    obtain ⟨s1, s2, s3, s4, s5, s6⟩ := hS'
    refine ⟨M, ?_, s6 (by omega), hS, hD, Fr.rf⟩
    unfold m_X7_fillShares
    rw [wr_id (x := gI M 8 6) (by omega) (by omega), if_neg c]
  obtain ⟨M1, e1, hf, hwy, hS1, k1, k2, k3, f1⟩ := fillWays_s hy hw hS
  generalize hfd : fit W H op wa = f at *
  have hs : FS W H op f := by rw [← hfd]; exact fit_FS W H op wa
  have hD1 : DRs M1 := hD.of (fun j => k3 8 j (Or.inl rfl)) (fun j => k3 14 j (Or.inr rfl))
  obtain ⟨n1, n2, d1, d2, hn⟩ : ∃ n1 n2, dR M1 8 3 = n1 ∧ dR M1 8 4 = n2 ∧ ((n1 = 12 ∧ n2 = 13) ∨ (n1 = 13 ∧ n2 = 12)) := ⟨_, _, rfl, rfl, hD1.1⟩
  obtain ⟨M2, e2, h2⟩ := fillL_s M1 10 0 128 (by decide) (by omega)
  have f2 := fr_J7_fill_d0a16 e2
  have ly1 : ∀ n, n = 12 ∨ n = 13 → ly n = (2, 256) := fun n q => by rcases q with q | q <;> rw [q] <;> decide
  have o1 : n1 = 12 ∨ n1 = 13 := by omega
  have d21 : dR M2 8 3 = n1 := (fR f2 (by decide) 3).trans d1
  obtain ⟨M3, e3, h3⟩ := fillL_s M2 n1 0 256 (by rw [ly1 n1 o1]; rfl) (by omega)
  have f3 := fr_J7_fill_d0a16 e3
  have d31 : dR M3 8 3 = n1 := (fR f3 (by simp; omega) 3).trans d21
  have d32 : dR M3 8 4 = n2 := ((fR f3 (by simp; omega) 4).trans (fR f2 (by decide) 4)).trans d2
  have f23 : Fr [8, 10, 12, 13] M1 M3 := (f2.mono (by decide)).trans f3 (by intro k hk; simp at hk ⊢; omega)
  have f24 : Fr [8, 10, 12, 13] M1 (sL M3 n1 0 1) := f23.sL (by simp; omega) rfl
  have hcond : wr (gI M 8 6) = 0 := by rw [c]; rfl
  unfold m_X7_fillShares
  rw [if_pos hcond, e1, bd1_q, e2, bd1_q, d21, if_pos (ly1 n1 o1), e3, bd1_q, d31, if_pos (ly1 n1 o1), lt_q, show wr 0 = 0 by decide]
  obtain ⟨M4, e4, ⟨m1, m2, q1, q2, q3, q4, q5, q6, q7, q8⟩⟩ := for_M (f := fun s => m_X7_fillShares_L38 s.2 s.1) 0 (W * H) (fun i M' => ∃ m1 m2, dR M' 8 3 = m1 ∧ dR M' 8 4 = m2 ∧ ((m1 = 12 ∧ m2 = 13) ∨ (m1 = 13 ∧ m2 = 12)) ∧ (∀ g, rd W (i % W) (gL M' m1) g = lN (tL (tsc W op f) i.toNat g)) ∧ (∀ b, 0 ≤ b → b / 2 < i → gL M' 10 b = lN (shT W H op f b)) ∧ (∀ b, 2 * i ≤ b → b < 128 → gL M' 10 b = 0) ∧ (∀ j, gI M' 8 j = gI M1 8 j) ∧ Fr [8, 10, 12, 13] M1 M') (fun i M' i0 i1 hI => by
    show ∃ M2, m_X7_fillShares_L38 M' i = _ ∧ _
    obtain ⟨m1, m2, q1, q2, q3, q4, q5, q6, q7, q8⟩ := hI
    have hy' : YC M' W H op := (hy.1.fr f1 (by decide) (by decide)).fr q8 (by decide) (by decide)
    have ec : m_X10_cells M' = W * H := by unfold m_X10_cells; rw [hy'.1, hy'.2.1]
    have o2 : m2 = 12 ∨ m2 = 13 := by omega
    have o3 : m1 = 12 ∨ m1 = 13 := by omega
    obtain ⟨M5, e5, h5⟩ := fillL_s M' m2 0 256 (by rw [ly1 m2 o2]; rfl) (by omega)
    have f5 := fr_J7_fill_d0a16 e5
    have nn : m1 ∉ [m2] := by simp; omega
    have f15 : Fr [8, 10, 12, 13] M1 M5 := q8.trans f5 (by intro k hk; simp at hk ⊢; omega)
    obtain ⟨M6, e6, g1, g2, g3, g4, f6⟩ := shareAt_s (hy'.fr f5 (by simp; omega) (by simp; omega)) (fun b x y => (fI f15 (by decide) b).trans (hf b x y)) hs (fun a b x y z w => (fL f15 (by decide) _).trans (hwy a b x y z w)) i0 i1 (n1 := m1) (n2 := m2) ((fR f5 (by simp; omega) 3).trans q1) ((fR f5 (by simp; omega) 4).trans q2) q3 h5 ⟨(fL f5 (by simp; omega) _).trans (q6 _ (by omega) (by omega)), (fL f5 (by simp; omega) _).trans (q6 _ (by omega) (by omega))⟩
    have f16 : Fr [8, 10, 12, 13] M1 M6 := f15.trans f6 (by intro k hk; simp at hk ⊢; omega)
    have r1 : dR M6 8 3 = m1 := (fR f6 (by simp; omega) 3).trans ((fR f5 (by simp; omega) 3).trans q1)
    have r2 : dR M6 8 4 = m2 := (fR f6 (by simp; omega) 4).trans ((fR f5 (by simp; omega) 4).trans q2)
    unfold m_X7_fillShares_L38
    rw [ec, wr_id (x := W * H) (by omega) (by omega), wr_id (x := i) (by omega) (by omega), if_neg (by omega), q2, if_pos (ly1 m2 o2), e5, bd1_q, e6, bd1_q, r1, r2, if_pos (ly1 m1 o3), if_pos (ly1 m2 o2), lt_q, lt_q]
    have fe : ∀ v, gL M5 m1 v = gL M' m1 v := fun v => fL f5 nn v
    have er : ∀ g, rd W (i % W) (gL M5 m1) g = lN (tL (tsc W op f) i.toNat g) := fun g => by
      rw [show gL M5 m1 = gL M' m1 from funext fe]; exact q4 g
    refine ⟨_, rfl, m2, m1, ?_, ?_, by omega, fun g => ?_, fun b b0 b1 => ?_, fun b b0 b1 => ?_, fun j => ?_, (f16.sR (by simp) rfl).sR (by simp) rfl⟩
    · rw [dR_sR, if_neg (by omega), dR_sR, if_pos ⟨rfl, rfl⟩]
    · rw [dR_sR, if_pos ⟨rfl, rfl⟩]
    · show rd W ((i + 1) % W) (gL M6 m2) g = _
      rw [g1 g, er, show (i + 1).toNat = i.toNat + 1 by omega]
      show _ = lN (tL (tsc W op f) i.toNat (tsc W op f (i.toNat : Int) g))
      rw [Int.toNat_of_nonneg i0]
    · show gL M6 10 b = _
      by_cases z : b / 2 = i
      · unfold shT
        rw [z]
        by_cases z2 : b = 2 * i
        · rw [z2, g2, er]
        · rw [show b = 2 * i + 1 by omega, g3, er]
      · rw [g4 b (by omega) (by omega), fL f5 (by simp; omega)]
        exact q5 b b0 (by omega)
    · show gL M6 10 b = _
      rw [g4 b (by omega) (by omega), fL f5 (by simp; omega)]
      exact q6 b (by omega) b1
    · show gI M6 8 j = _
      rw [fI f6 (by simp; omega), fI f5 (by simp; omega)]; exact q7 j) (fun M' hI => by
    show m_X7_fillShares_L38 M' (W * H) = _
    obtain ⟨m1, m2, q1, q2, q3, q4, q5, q6, q7, q8⟩ := hI
    have hy' : YC M' W H op := (hy.1.fr f1 (by decide) (by decide)).fr q8 (by decide) (by decide)
    have ec : m_X10_cells M' = W * H := by unfold m_X10_cells; rw [hy'.1, hy'.2.1]
    unfold m_X7_fillShares_L38
    rw [ec, if_pos (Int.le_refl _)]) (by omega) (by omega) (M0 := sL M3 n1 0 1) ⟨n1, n2, d31, d32, hn, fun g => by
      rw [rd_add (F := gL M3 n1) (y := 0) (a := 1) (fun q hq => by rw [gL_sL, if_neg (fun z => hq z.2)]) (by rw [gL_sL, if_pos ⟨rfl, rfl⟩, h3 0 (by omega) (by omega)]; rfl) (by omega) (by omega), Int.zero_emod, rot_0]
      have hz : rd W 0 (gL M3 n1) g = 0 := by
        unfold rd
        exact sl_0 _ (fun v v0 v1 => by rw [h3 v v0 (by omega), Int64.zero_mul])
      rw [hz, Int64.one_mul, Int64.zero_add]
      rfl, fun b b0 b1 => by omega, fun b b0 b1 => by
        rw [gL_sL, if_neg (by omega), fL f3 (by simp; omega)]; exact h2 b (by omega) b1, fun j => by
        show gI M3 8 j = _
        rw [fI f3 (by simp; omega), fI f2 (by decide)], f24⟩
  have ff : Fr [8, 9, 10, 11, 12, 13, 15, 16] M (sI M4 8 6 1) := ((f1.mono (by decide)).trans q8 (by decide)).sI (by decide) rfl
  have hSR : SRc M4 W H op f := fun b hb => by
    obtain ⟨b0, b1, b2, b3, b4, b5, b6, -⟩ := stn_t hW hb
    rw [q5 b b0 (by omega)]
    by_cases z : f b = true
    · rw [shT_e hW hs z]
    · have e1 : shN W H op f b = 0 := by unfold shN; rw [if_neg z]
      have e2 : shT W H op f b = 0 := by
        unfold shT
        have : gbf W op f (W * H) (b / 2) b = fun _ => 0 := by
          funext m; unfold gbf; rw [if_neg z]
        rw [this]
        exact tL_0 _ 
      rw [e1, e2]
  rw [e4, bd2_q, lt_q]
  refine ⟨_, rfl, hSR, ?_, ⟨?_, ?_⟩, ff⟩
  · obtain ⟨s1, s2, s3, s4, s5, s6⟩ := hS1
    have e85 : gI (sI M4 8 6 1) 8 5 = 1 := by rw [gI_sI, if_neg (by omega), q7]; exact k1
    refine ⟨Or.inr (Or.inl e85), Or.inr gI_sI_eq, fun _ b x y => ?_, fun _ a b x y z w => ?_, fun z => by omega, fun _ => by rw [hfd]; exact hSR⟩
    · rw [hfd]
      exact (fI q8 (by decide) b).trans (hf b x y)
    · rw [hfd]
      exact (fL q8 (by decide) _).trans (hwy a b x y z w)
  · show (dR M4 8 3 = 12 ∧ dR M4 8 4 = 13) ∨ (dR M4 8 3 = 13 ∧ dR M4 8 4 = 12)
    rw [q1, q2]; exact q3
  · show (dR M4 14 0 = 15 ∧ dR M4 14 1 = 16) ∨ (dR M4 14 0 = 16 ∧ dR M4 14 1 = 15)
    rw [fR q8 (by decide), fR q8 (by decide)]; exact hD1.2
theorem fmu_of {W H : Int} {op : Int → Bool} {M : Mem} {f : Int → Bool} (hy : YR M W H op) (hm : MY M W H f) {b : Int} (hb : stn W H op b = true) : ∃ M2, (if 0 ≤ wr b ∧ wr b < 128 then if wr (gI M 63 (wr b)) = 0 then some ((0 : Int64), M) else bd1 (m_X12_musts M b) fun M6 => bd2 (m_X12_countAll M6) fun r8 M9 => some (r8, M9) else none) = some (lN (shN W H op f b), M2) := by
  have hW := hy.2.2.1
  have h8 := WH_le hW
  obtain ⟨b0, b1, b2, b3, b4, b5, b6, -⟩ := stn_t hW hb
  rw [wr_id (x := b) (by omega) (by omega), if_pos (by omega), hm b b0 b1]
  simp only [wrb]
  unfold shN
  cases z : f b
  · rw [if_ff, if_neg (by simp)]
    exact ⟨M, rfl⟩
  · rw [if_tf, if_pos rfl]
    obtain ⟨M3, e3, h3⟩ := musts_s hy hm b0 b1
    have f3 := fr_X12_musts e3
    obtain ⟨M4, e4, -, -⟩ := countAll_s (hy.fr f3 (by decide) (by decide)) h3
    rw [e3, bd1_q, e4, bd2_q]
    refine ⟨M4, ?_⟩
    unfold wyc
    rw [Int.sub_zero]
theorem shareOf_s {M : Mem} {W H : Int} {op : Int → Bool} {wa pr : Int → Int} (hy : YSr M W H op wa pr) (hw : WFy W H op wa pr) {b : Int} (hb : stn W H op b = true) : ∃ M2, m_X12_shareOf M b = some (lN (shN W H op (fit W H op wa) b), M2) ∧ Fr [63, 64] M M2 := by
  obtain ⟨M1, e1, h1⟩ := allows_s hy hw
  have f1 := fr_X12_allows e1
  obtain ⟨M2, e2⟩ := fmu_of (hy.1.fr f1 (by decide) (by decide)) h1 hb
  have e : m_X12_shareOf M b = some (lN (shN W H op (fit W H op wa) b), M2) := by
    unfold m_X12_shareOf
    rw [e1, bd1_q, e2]
  exact ⟨M2, e, fr_X12_shareOf e⟩
theorem op_share {M : Mem} (hI : Inv M) {a : Int} (ha : -2147483648 ≤ a) (ha2 : a ≤ 2147483647) : OpL (fun M => m_X11_share M a) (fun M => m_X12_share M a) M := by
  have hI' := hI
  obtain ⟨W, H, op, wa, pr, hd, on, ts, tp, ln, sz, it, hA⟩ := hI'
  have hA' := hA
  obtain ⟨hC, hR, hwf, hD, hS⟩ := hA'
  have hW := hwf.1.1
  have h8 := WH_le hW
  unfold OpL m_X11_share m_X12_share
  dsimp only
  rw [stands_s hC.1.1 ha ha2, bd1_q]
  simp only [wrb]
  cases hb : stn W H op a
  · refine ⟨-1, M, M, rfl, ?_, hI⟩
    rw [isBrick_s hR.1.1 ha ha2, bd1_q, hb]; rfl
  · obtain ⟨b0, b1, b2, b3, b4, b5, b6, -⟩ := stn_t hW hb
    obtain ⟨M1, e1, h1, hS1, hD1, f1⟩ := fillShares_s hC.1 hwf.1 hS hD
    have hR1 := hR.fr f1 (by decide)
    obtain ⟨M2, e2, f2⟩ := shareOf_s hR1.1 hwf.1 hb
    refine ⟨lN (shN W H op (fit W H op wa) a), M1, M2, ?_, ?_, W, H, op, wa, pr, hd, on, ts, tp, ln, sz, it, hA.sweep f1 (by decide) hD1 hS1 f2 (by decide)⟩
    · rw [if_tf, e1, bd1_q, wr_id ha ha2, if_pos (by omega), h1 a hb]
    · rw [isBrick_s hR1.1.1 ha ha2, bd1_q, hb, if_tf, e2, bd2_q, bd2_q]
noncomputable def shY (W H : Int) (op f : Int → Bool) (v : Int64) (b : Int) : Int := bI (stn W H op b && decide (lN (shN W H op f b) = v))
theorem op_sure {M : Mem} (hI : Inv M) {a : Int} (ha : -2147483648 ≤ a) (ha2 : a ≤ 2147483647) : OpI (fun M => m_X11_sure M a) (fun M => m_X12_sure M a) M := by
  have hI' := hI
  obtain ⟨W, H, op, wa, pr, hd, on, ts, tp, ln, sz, it, hA⟩ := hI'
  have hA' := hA
  obtain ⟨hC, hR, hwf, hD, hS⟩ := hA'
  have hW := hwf.1.1
  have h8 := WH_le hW
  unfold OpI m_X11_sure m_X12_sure
  dsimp only
  have hin : m_X12_in (i2l a) (0 : Int64) (1 : Int64) = some (decide (0 ≤ a ∧ a ≤ 1)) := by
    rw [l_0, l_1]; exact in_s ha ha2 (by omega) (by omega) (by omega) (by omega)
  rw [wr_id ha ha2, show wr 1 = 1 by decide, hin]
  simp only [bd1_q, wrb]
  by_cases c : 0 ≤ a ∧ a ≤ 1
  rotate_left
  · rw [if_neg (by omega), if_neg (by omega), decide_eq_false c]
    exact ⟨-1, M, M, rfl, rfl, hI⟩
  rw [decide_eq_true c]
  simp only [if_tf]
  have hcond : a = 0 ∨ a = 1 := by omega
  have hb : ∀ X : Option (Int × Mem), (if a = 0 then X else if a = 1 then X else some (-1, M)) = X := fun X => by
    rcases hcond with z | z
    · rw [if_pos z]
    · rw [if_neg (by omega), if_pos z]
  rw [hb]
  obtain ⟨M1, e1, h1, h2, h3, h4, h5, h6, f1⟩ := total_s hC.1 hwf.1 hS
  have hD1 := hD.of (fun j => h6 8 j (Or.inl rfl)) (fun j => h6 14 j (Or.inr rfl))
  rw [e1, bd2_q]
  by_cases hz : lN (nPav W H op wa) = 0
  · rw [if_pos hz]
    have hR1 := hR.fr f1 (by decide)
    obtain ⟨M2, e2, -, -, f2⟩ := pavingsR_s hR1.1 hwf.1
    refine ⟨-4, M1, M2, rfl, ?_, W, H, op, wa, pr, hd, on, ts, tp, ln, sz, it, hA.sweep f1 (by decide) hD1 h3 f2 (by decide)⟩
    rw [e2, bd2_q, if_pos hz]
  · rw [if_neg hz]
    have hC1 := hC.fr f1 (by decide)
    obtain ⟨M2, e2, g2, hS2, hD2, f2⟩ := fillShares_s hC1.1 hwf.1 h3 hD1
    have hC2 := hC1.fr f2 (by decide)
    have f12 : Fr [8, 9, 10, 11, 12, 13, 15, 16] M M2 := (f1.mono (by decide)).trans f2 (by decide)
    have hR2 := hR.fr f12 (by decide)
    rw [e2, bd1_q, lt_q]
    generalize hv : (if a = 0 then lN (nPav W H op wa) else 0) = v
    have ec : m_X10_cells M2 = W * H := by unfold m_X10_cells; rw [hC2.1.1.1, hC2.1.1.2.1]
    have eb : m_X7_bricksWithShare M2 v = some (sI' (2 * (W * H)) (shY W H op (fit W H op wa) v)) := by
      unfold m_X7_bricksWithShare
      rw [for_S (f := fun s => m_X7_bricksWithShare_L6 M2 v s.1 s.2) (2 * (W * H)) (shY W H op (fit W H op wa) v) (fun i x i0 i1 => by
        show m_X7_bricksWithShare_L6 M2 v x i = _
        unfold m_X7_bricksWithShare_L6 shY
        rw [ec, wr_id (x := 2 * (W * H)) (by omega) (by omega), wr_id (x := i) (by omega) (by omega), if_neg (by omega), stands_s hC2.1.1 (by omega) (by omega), bd1_q]
        simp only [wrb]
        cases hb : stn W H op i
        · rfl
        · rw [if_tf, if_pos (by omega), g2 i hb]
          by_cases z : lN (shN W H op (fit W H op wa) i) = v
          · rw [if_pos z, decide_eq_true z]; rfl
          · rw [if_neg z, decide_eq_false z]; rfl) (fun x => by
        show m_X7_bricksWithShare_L6 M2 v x (2 * (W * H)) = _
        unfold m_X7_bricksWithShare_L6
        rw [ec, if_pos (Int.le_refl _)]) (by omega) (by omega), bd2_q]
    obtain ⟨M3, e3, -, -, f3⟩ := pavingsR_s hR2.1 hwf.1
    have hR3 := hR2.1.fr f3 (by decide) (by decide) (by decide) (by decide)
    obtain ⟨⟨u, z, M4⟩, e4, k4, f4⟩ := for_g (f := fun s => m_X12_sure_L32 s.2.2 a (lN (nPav W H op wa)) s.1 s.2.1) 0 (2 * (W * H)) (fun i s => s.2.1 = i ∧ s.1 = sI' i (shY W H op (fit W H op wa) v) ∧ Fr [63, 64] M3 s.2.2) (fun r => r.1 = sI' (2 * (W * H)) (shY W H op (fit W H op wa) v) ∧ Fr [63, 64] M3 r.2.2) (by
      rintro i ⟨x, i', M'⟩ i0 i1 ⟨r0, r1, r2⟩
      dsimp only at r0 r1 r2
      subst r0
      left
      show ∃ s2, m_X12_sure_L32 M' a (lN (nPav W H op wa)) x i' = _ ∧ _
      have hR' := hR3.fr r2 (by decide) (by decide) (by decide) (by decide)
      unfold m_X12_sure_L32
      rw [hR'.1.1, hR'.1.2.1, Int.mul_assoc, wr_id (x := 2 * (W * H)) (by omega) (by omega), wr_id (x := i') (by omega) (by omega), if_neg (by omega), isBrick_s hR'.1 (by omega) (by omega), bd1_q, wr_id ha ha2]
      simp only [wrb]
      cases hb : stn W H op i'
      · rw [if_ff, bd2_q]
        refine ⟨_, rfl, rfl, ?_, r2⟩
        dsimp only
        rw [sI'_s i0, r1]
        unfold shY
        rw [hb]; rfl
      · obtain ⟨M5, e5, f5⟩ := shareOf_s hR' hwf.1 hb
        rw [if_tf, e5, bd2_q, lt_q, hv]
        by_cases z : lN (shN W H op (fit W H op wa) i') = v
        · rw [if_pos z, bd2_q]
          refine ⟨_, rfl, rfl, ?_, r2.trans f5 (by decide)⟩
          dsimp only
          rw [sI'_s i0, r1]
          unfold shY
          rw [hb, decide_eq_true z]; rfl
        · rw [if_neg z, bd2_q]
          refine ⟨_, rfl, rfl, ?_, r2.trans f5 (by decide)⟩
          dsimp only
          rw [sI'_s i0, r1]
          unfold shY
          rw [hb, decide_eq_false z]; rfl) (by
      rintro ⟨x, i', M'⟩ ⟨r0, r1, r2⟩
      dsimp only at r0 r1 r2
      have hR' := hR3.fr r2 (by decide) (by decide) (by decide) (by decide)
      refine ⟨(x, i', M'), ?_, r1, r2⟩
      show m_X12_sure_L32 M' a (lN (nPav W H op wa)) x i' = _
      unfold m_X12_sure_L32
      rw [hR'.1.1, hR'.1.2.1, Int.mul_assoc, r0, if_pos (Int.le_refl _)]) (by omega) (by omega) (s0 := (0, 0, M3)) ⟨rfl, rfl, Fr.rf⟩
    dsimp only at k4
    have f34 : Fr [63, 64] M2 M4 := f3.trans f4 (by decide)
    refine ⟨sI' (2 * (W * H)) (shY W H op (fit W H op wa) v), M2, M4, ?_, ?_, W, H, op, wa, pr, hd, on, ts, tp, ln, sz, it, hA.sweep f12 (by decide) hD2 hS2 f34 (by decide)⟩
    · rw [eb, bd1_q]
    · rw [e3, bd2_q, if_neg hz, e4, bd3_q, k4]
