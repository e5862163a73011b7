/-! lay -/
def chgs (W c : Int) (f : Int → Bool) : Nat → TS → TS
  | 0, t => t
  | k + 1, t => chg W (c + k) (f k) (chgs W c f k t)
theorem chgs_s {W c : Int} {f : Int → Bool} {k : Int} (h : 0 ≤ k) (t : TS) : chgs W c f (k + 1).toNat t = chg W (c + k) (f k) (chgs W c f k.toNat t) := by
  rw [show (k + 1).toNat = k.toNat + 1 by omega]
  show chg W (c + (k.toNat : Int)) (f (k.toNat : Int)) _ = _
  rw [Int.toNat_of_nonneg h]
theorem chgs_wf {W H : Int} {t : TS} {on : Int → Int → Int} (hy : WFy W H t.1 t.2.1 t.2.2.1) (hs : WFs W H t.1 t.2.2.2 on) {c : Int} (h0 : 0 ≤ c) (f : Int → Bool) : ∀ k : Nat, c + k ≤ W * H → WFy W H (chgs W c f k t).1 (chgs W c f k t).2.1 (chgs W c f k t).2.2.1 ∧ WFs W H (chgs W c f k t).1 (chgs W c f k t).2.2.2 on := by
  intro k
  induction k with
  | zero => intro _; exact ⟨hy, hs⟩
  | succ k ih =>
    intro hk
    obtain ⟨i1, i2⟩ := ih (by omega)
    exact chg_wf i1 i2 (by omega) (by omega) _
theorem nz_bI (v : Int) (h : wr v = v) : (if wr v = 0 then (0 : Int) else 1) = bI (decide (v ≠ 0)) := by
  rw [h]
  by_cases e : v = 0
  · rw [if_pos e, decide_eq_false (fun z => z e)]; rfl
  · rw [if_neg e, decide_eq_true e]; rfl
theorem op_lay {M : Mem} (hI : Inv M) {c a i : Int} (hc : -2147483648 ≤ c) (hc2 : c ≤ 2147483647) (ha : -2147483648 ≤ a) (ha2 : a ≤ 2147483647) (hi : -2147483648 ≤ i) (hi2 : i ≤ 2147483647) : OpI (fun M => m_X11_lay M c a i) (fun M => m_X12_lay M c a i) M := by
  have hI' := hI
  obtain ⟨W, H, op, wa, pr, hd, on, ts, tp, ln, sz, it, hA⟩ := hI'
  have hA' := hA
  obtain ⟨hC, hR, hwf, hD, hS⟩ := hA'
  have hW := hC.1.1.2.2.1
  have h8 := WH_le hW
  unfold OpI m_X11_lay m_X12_lay m_X10_cells
  dsimp only
  rw [isSheet_s ha ha2, isSheetR_s ha ha2, wr_id ha ha2, wr_id hc hc2, wr_id hi hi2, hC.1.1.1, hC.1.1.2.1, wr_id (x := W * H) (by omega) (by omega), l_0]
  simp only [wrb, bd1_q]
  have hin := in_s hc hc2 (b := 0) (by omega) (by omega) (c := W * H) (by omega) (by omega)
  by_cases c1 : 0 ≤ c ∧ c ≤ W * H
  case neg =>
    refine ⟨-1, M, M, ?_, ?_, hI⟩
    · by_cases z : c < 0
      · rw [if_pos z]
      · rw [if_neg z, if_pos (by omega)]
    · rw [hR.1.1.1, hR.1.1.2.1, hin, bd1_q, decide_eq_false c1, if_ff]
  rw [if_neg (by omega), if_neg (by omega)]
  by_cases c2 : 0 ≤ a ∧ a < 4
  case neg =>
    refine ⟨-1, M, M, by rw [decide_eq_false c2, if_ff], ?_, hI⟩
    rw [hR.1.1.1, hR.1.1.2.1, hin, bd1_q, decide_eq_true c1, if_tf, decide_eq_false c2, if_ff]
  rw [decide_eq_true c2, sheetFault_s hC.2.2.2 hwf.2.2.2 c2.1 c2.2 (by decide)]
  simp only [if_tf, if_pos c2, bd1_q]
  obtain ⟨w1, w2, w3, w4, w5⟩ := hwf.2.2.2 a c2.1 c2.2
  obtain ⟨p1, p2, p3, p4⟩ := hC.2.2.2 a c2.1 c2.2
  obtain ⟨r1, r2, r3⟩ := hR.2.2.2 a c2.1 c2.2
  have hfn := finds_s hR.2.2.2 hwf.2.2.2 (lane := 0) (n := 0) c2.1 c2.2 (by decide) hi hi2 (by omega) (by omega)
  unfold fnd at hfn
  by_cases c3 : ln a < 0
  · rw [if_pos c3] at hfn
    refine ⟨-11, M, M, ?_, ?_, hI⟩
    · rw [if_pos c3]; rfl
    · rw [hR.1.1.1, hR.1.1.2.1, hin, bd1_q, decide_eq_true c1, if_tf, hfn, bd1_q]; rfl
  rw [if_neg c3] at hfn ⊢
  by_cases c4 : ln a = 0
  case neg =>
    rw [if_pos c4] at hfn
    refine ⟨-12, M, M, ?_, ?_, hI⟩
    · rw [if_pos c4]; rfl
    · rw [hR.1.1.1, hR.1.1.2.1, hin, bd1_q, decide_eq_true c1, if_tf, hfn, bd1_q]; rfl
  rw [if_neg (c := ln a ≠ 0) (fun z => z c4)] at hfn ⊢
  rw [show wr 0 = 0 by decide, if_pos (c := (0 : Int) ≤ 0) (by decide), p3, wr_id (x := sz a) (by omega) (by omega)]
  by_cases c5 : 0 ≤ i ∧ i ≤ sz a
  case neg =>
    rw [if_pos (by omega)] at hfn
    refine ⟨-13, M, M, ?_, ?_, hI⟩
    · by_cases z : i < 0
      · rw [if_pos z]
      · rw [if_neg z, if_neg (by omega)]
    · rw [hR.1.1.1, hR.1.1.2.1, hin, bd1_q, decide_eq_true c1, if_tf, hfn, bd1_q]; rfl
  rw [if_neg (by omega)] at hfn
  rw [if_neg (by omega), if_pos (by omega), wr_id (x := sz a - i) (by omega) (by omega), wr_id (x := W * H - c) (by omega) (by omega)]
  by_cases c6 : sz a - i ≤ W * H - c
  case neg =>
    refine ⟨-1, M, M, by rw [if_neg c6], ?_, hI⟩
    rw [hR.1.1.1, hR.1.1.2.1, hin, bd1_q, decide_eq_true c1, if_tf, hfn, bd1_q, if_pos (by decide), r2, wr_id (x := c + (sz a - i)) (by omega) (by omega), wr_id (x := W * H) (by omega) (by omega), if_neg (by omega)]
  rw [if_pos c6]
  obtain ⟨M1, e1, k1⟩ := for_M (f := fun s => m_X11_lay_L92 s.2 c i (47 + 2 * a.toNat) (sz a - i) s.1) 0 (sz a - i) (fun x M' => TC M' W H (chgs W c (fun k => decide (it a (i + k) ≠ 0)) x.toNat (op, wa, pr, hd)) on ∧ Fr [2, 3, 4, 8, 39, 40, 41, 42, 43, 44, 45, 46] M M' ∧ ∀ k j, k = 8 ∨ k = 14 → dR M' k j = dR M k j) (fun x M' h1 h2 hI => by
    show ∃ M2, m_X11_lay_L92 M' c i (47 + 2 * a.toNat) (sz a - i) x = _ ∧ _
    unfold m_X11_lay_L92
    rw [wr_id (x := sz a - i) (by omega) (by omega), wr_id (x := x) (by omega) (by omega), if_neg (by omega), wr_id (x := i + x) (by omega) (by omega), if_pos (by omega), fI hI.2.1 (by simp; omega), p4 (i + x) (by omega) (by omega), lt_q, nz_bI _ (wr_id (w5 _ (by omega) (by omega)).1 (w5 _ (by omega) (by omega)).2)]
    obtain ⟨M2, e2, q2, q3⟩ := changeCell_s hI.1 (c := c + x) (by omega) (by omega) (decide (it a (i + x) ≠ 0))
    rw [e2, bd2_q]
    refine ⟨M2, rfl, ?_, hI.2.1.trans (fr_X11_changeCell e2) (by decide), fun k j hk => (q3 k j hk).trans (hI.2.2 k j hk)⟩
    rw [chgs_s h1]
    exact q2) (fun M' hI => by
    show m_X11_lay_L92 M' c i (47 + 2 * a.toNat) (sz a - i) (sz a - i) = _
    unfold m_X11_lay_L92
    rw [if_pos (by omega)]) (by omega) (by omega) (M0 := M) ⟨⟨hC.1, hC.2.1, hS⟩, Fr.rf, fun _ _ _ => rfl⟩
  obtain ⟨k1, f1, d1⟩ := k1
  have hR1 := hR.fr f1 (by decide)
  obtain ⟨M2, e2, k2⟩ := for_M (f := fun s => m_X12_lay_L77 s.2 c a i (sz a - i) s.1) 0 (sz a - i) (fun x M' => TR M' W H (chgs W c (fun k => decide (it a (i + k) ≠ 0)) x.toNat (op, wa, pr, hd)) on ∧ Fr [56, 57, 58, 59] M1 M') (fun x M' h1 h2 hI => by
    show ∃ M2, m_X12_lay_L77 M' c a i (sz a - i) x = _ ∧ _
    unfold m_X12_lay_L77
    rw [wr_id (x := sz a - i) (by omega) (by omega), wr_id (x := x) (by omega) (by omega), if_neg (by omega), wr_id (x := 64 * a + i + x) (by omega) (by omega), if_pos (by omega), fI hI.2 (by decide), Int.add_assoc, (hR1.2.2.2 a c2.1 c2.2).2.2 (i + x) (by omega) (by omega), lt_q, nz_bI _ (wr_id (w5 _ (by omega) (by omega)).1 (w5 _ (by omega) (by omega)).2)]
    obtain ⟨M2, e2, q2⟩ := sets_s hI.1 (c := c + x) (by omega) (by omega) (decide (it a (i + x) ≠ 0))
    rw [e2, bd1_q]
    refine ⟨M2, rfl, ?_, hI.2.trans (fr_X12_sets e2) (by decide)⟩
    rw [chgs_s h1]
    exact q2) (fun M' hI => by
    show m_X12_lay_L77 M' c a i (sz a - i) (sz a - i) = _
    unfold m_X12_lay_L77
    rw [if_pos (by omega)]) (by omega) (by omega) (M0 := M1) ⟨⟨hR1.1, hR1.2.1⟩, Fr.rf⟩
  obtain ⟨k2, f2⟩ := k2
  have hw2 := chgs_wf (t := (op, wa, pr, hd)) (on := on) hwf.1 hwf.2.1 c1.1 (fun k => decide (it a (i + k) ≠ 0)) (sz a - i).toNat (by omega)
  have hfn1 := finds_s hR1.2.2.2 hwf.2.2.2 (lane := 0) (n := 0) c2.1 c2.2 (by decide) hi hi2 (by omega) (by omega)
  unfold fnd at hfn1
  rw [if_neg c3, if_neg (c := ln a ≠ 0) (fun z => z c4), if_neg (by omega)] at hfn1
  refine ⟨sz a - i, M1, M2, by rw [e1, bd2_q], ?_, W, H, _, _, _, _, on, ts, tp, ln, sz, it, ⟨k1.1.fr f2 (by decide) (by decide) (by decide) (by decide), k1.2.1.fr f2 (by unfold kp; intro k; simp; omega), (hC.2.2.1.fr f1 (by decide) (by decide)).fr f2 (by decide) (by decide), (hC.2.2.2.fr f1 (by unfold kp; intro k; simp; omega)).fr f2 (by unfold kp; intro k; simp; omega)⟩, ⟨k2.1, k2.2, hR1.2.2.1.fr f2 (by decide) (by decide), hR1.2.2.2.fr f2 (by decide) (by decide) (by decide)⟩, ⟨hw2.1, hw2.2, hwf.2.2⟩, (hD.of (fun j => d1 8 j (Or.inl rfl)) (fun j => d1 14 j (Or.inr rfl))).fr f2 (by decide) (by decide), k1.2.2.fr f2 (by decide) (by decide) (by decide) (by decide)⟩
  rw [hR1.1.1.1, hR1.1.1.2.1, hin, bd1_q, decide_eq_true c1, if_tf, hfn1, bd1_q, if_pos (by decide), (hR1.2.2.2 a c2.1 c2.2).2.1, wr_id (x := c + (sz a - i)) (by omega) (by omega), wr_id (x := W * H) (by omega) (by omega), if_pos (by omega), e2, bd2_q]
