/-! read, on both sides -/
theorem bd5_q {A1 A2 A3 A4 A5 B : Type} (a : A1) (b : A2) (c : A3) (d : A4) (e : A5) (f : A1 → A2 → A3 → A4 → A5 → Option B) : bd5 (some (a, b, c, d, e)) f = f a b c d e := (Eq.refl (f a b c d e)).trans (Eq.refl _)
def opF (N : Int) (f : Int → Bool) : Int → Bool := fun j => if 0 ≤ j ∧ j < N then f j else true
theorem frs0 (W c : Int) : frs W c (fun _ => 0) = fun _ => 0 := by
  funext b
  unfold frs
  split <;> rfl
theorem chgs_new (W : Int) (f : Int → Bool) : ∀ k : Nat, chgs W 0 f k (fun _ => true, fun _ => 0, fun _ => 0, fun _ => false) = (opF k f, fun _ => 0, fun _ => 0, fun _ => false) := by
  intro k
  induction k with
  | zero =>
    show ((fun _ => true : Int → Bool), _) = _
    congr 1
    funext j
    unfold opF
    rw [if_neg (by simp)]
  | succ k ih =>
    show chg W (0 + (k : Int)) (f (k : Int)) (chgs W 0 f k _) = _
    rw [ih, Int.zero_add]
    unfold chg
    have e1 : opF k f (k : Int) = true := by unfold opF; rw [if_neg (by omega)]
    dsimp only
    rw [frs0]
    by_cases h : opF k f (k : Int) = f (k : Int)
    · rw [if_pos h]
      rw [e1] at h
      congr 1
      funext j
      unfold opF
      by_cases z : j = k
      · rw [z, if_neg (by omega), if_pos (by omega), h]
      · by_cases y : 0 ≤ j ∧ j < k
        · rw [if_pos y, if_pos (by omega)]
        · rw [if_neg y, if_neg (by omega)]
    · rw [if_neg h]
      congr 1
      funext j
      unfold updB opF
      by_cases z : j = k
      · rw [if_pos z, if_pos (by omega), z]
      · rw [if_neg z]
        by_cases y : 0 ≤ j ∧ j < k
        · rw [if_pos y, if_pos (by omega)]
        · rw [if_neg y, if_neg (by omega)]
theorem isOpenAt8_s {M : Mem} {x y : Int} {v : Bool} (h : gI M 7 (8 * y + x) = bI v) (x0 : 0 ≤ x) (x1 : x < 8) (y0 : 0 ≤ y) (y1 : y < 8) : m_X8_isOpenAt M x y = some v := by
  unfold m_X8_isOpenAt
  rw [show y * 8 + x = 8 * y + x by omega, wr_id (x := 8 * y + x) (by omega) (by omega), if_pos (by omega), h]
  cases v <;> rfl
theorem op_read {M : Mem} (hI : Inv M) : OpI (fun M => m_X11_read M) (fun M => m_X12_read M) M := by
  have hI' := hI
  obtain ⟨W, H, op, wa, pr, hd, on, ts, tp, ln, sz, it, hA⟩ := hI'
  have hA' := hA
  obtain ⟨hC, hR, hwf, hD, hS⟩ := hA'
  have ht := hwf.2.2.1
  have ht0 := ht.1
  have ht1 := ht.2.1
  unfold OpI m_X11_read m_X12_read
  dsimp only
  obtain ⟨M1, f1, h1⟩ := parse_s hC.2.2.1 ht
  have f1' : Fr [5, 7] M (sI M1 5 2 0) := f1.sI (by decide) rfl
  have hR1 := hR.fr f1' (by decide)
  have wft0 : WFt 0 tp := ⟨by omega, by omega, fun k a b => by omega⟩
  have keyB : ∀ M1' : Mem, RS M1' W H op wa pr hd on ts tp ln sz it → ∃ wide rows wrong more M2, itr (fun s => m_X12_read_L14 s.2.2.2.2 s.1 s.2.1 s.2.2.1 s.2.2.2.1) FU (0, 0, 0, 1, sI M1' 55 9 0) = some (wide, rows, wrong, more, M2) ∧ ((wrong = 1 ∧ SA M1' (RR tp ts) ts M2) ∨ (wrong = 0 ∧ SB M1' tp ts (RR tp ts) wide rows M2)) := fun M1' h => rows_s ⟨h.2.2.1.1, h.2.2.1.2⟩ ht
  rcases h1 with ⟨e1, z0, z1⟩ | ⟨e1, z0, z1, z2, z3, z4⟩
  · -- a fault
    rw [e1, bd2_q, lt_q, wr_id (by omega) (by omega), if_neg (by omega)]
    obtain ⟨wide, rows, wrong, more, M2, e2, h2⟩ := keyB (sI M1 5 2 0) hR1
    have fin : ∀ M3, SA (sI M1 5 2 0) (RR tp ts) ts M3 → ∃ M4, M4 = sI M3 55 8 0 ∧ some (-20 - gI M4 55 9, M4) = some (-20 - (RR tp ts).1, M4) ∧ Inv M4 := by
      intro M3 h3
      obtain ⟨s0, s1, s2, s3, s4, s5⟩ := h3
      refine ⟨_, rfl, by rw [gI_sI, if_neg (by simp), s2], W, H, op, wa, pr, hd, on, 0, tp, ln, sz, it, ?_⟩
      have f2 : Fr [55, 62] (sI M1 5 2 0) (sI M3 55 8 0) := s5.sI (by decide) rfl
      refine ⟨⟨(hC.1.fr f1' (by decide) (by decide) (by decide) (by decide)).fr f2 (by decide) (by decide) (by decide) (by decide), (hC.2.1.fr f1' (by unfold kp; intro k; simp; omega)).fr f2 (by unfold kp; intro k; simp; omega), ⟨?_, fun k a b => by omega⟩, (hC.2.2.2.fr f1' (by unfold kp; intro k; simp; omega)).fr f2 (by unfold kp; intro k; simp; omega)⟩, ⟨⟨⟨?_, ?_, hR1.1.1.2.2.1, fun j a b => (fI f2 (by decide) j).trans (hR1.1.1.2.2.2 j a b)⟩, fun b x y => ⟨(fI f2 (by decide) b).trans (hR1.1.2 b x y).1, (fI f2 (by decide) b).trans (hR1.1.2 b x y).2⟩⟩, hR1.2.1.fr f2 (by decide) (by decide), ⟨gI_sI_eq, fun k a b => by omega⟩, hR1.2.2.2.fr f2 (by decide) (by decide) (by decide)⟩, ⟨hwf.1, hwf.2.1, wft0, hwf.2.2.2⟩, (hD.fr f1' (by decide) (by decide)).fr f2 (by decide) (by decide), (hS.fr f1' (by decide) (by decide) (by decide) (by decide)).fr f2 (by decide) (by decide) (by decide) (by decide)⟩
      · rw [fI f2 (by decide)]; exact gI_sI_eq
      · rw [gI_sI, if_neg (by simp), s3]; exact hR1.1.1.1
      · rw [gI_sI, if_neg (by simp), s4]; exact hR1.1.1.2.1
    rcases h2 with ⟨rfl, h2⟩ | ⟨rfl, h2⟩
    · obtain ⟨M4, rfl, q1, q2⟩ := fin M2 h2
      refine ⟨_, sI M1 5 2 0, _, rfl, ?_, q2⟩
      rw [lt_q, e2, bd5_q, if_neg (by decide), bd2_q, lt_q, if_neg (by decide)]
      exact q1
    · obtain ⟨M3, h3 | ⟨r, h3, h4, h5⟩⟩ := rows_end ht h2
      · omega
      · obtain ⟨M4, rfl, q1, q2⟩ := fin M3 h5
        refine ⟨_, sI M1 5 2 0, _, rfl, ?_, q2⟩
        rw [lt_q, e2, bd5_q, if_pos (by decide), h3, bd2_q, if_neg h4, bd2_q, lt_q, if_neg (by decide)]
        exact q1
  · -- a yard
    obtain ⟨W', eW⟩ : ∃ x, x = (RR tp ts).2.1 := ⟨_, rfl⟩
    obtain ⟨H', eH⟩ : ∃ x, x = (RR tp ts).2.2.1 := ⟨_, rfl⟩
    obtain ⟨d, ed⟩ : ∃ x, x = (RR tp ts).2.2.2 := ⟨_, rfl⟩
    rw [← eW, ← eH] at z3
    rw [← eW] at z1
    rw [← eH] at z2
    rw [← eW, ← eH, ← ed] at z4
    have h8 := WH_le z3
    rw [e1, bd2_q, lt_q, if_pos (by decide), gI_sI, if_neg (by simp), gI_sI, if_neg (by simp), z1, z2]
    obtain ⟨M3, e3, q1, q2, q3, q4, q5⟩ := startYard_s (sI M1 5 2 0) z3
    have f3 := fr_X11_startYard e3
    rw [e3, bd1_q]
    obtain ⟨M4, e4, k4, f4, d4⟩ := for_M (f := fun s => m_X11_read_L42 s.2 s.1) 0 (W' * H') (fun x M' => TC M' W' H' (chgs W' 0 (fun c => d (8 * (c / W') + c % W')) x.toNat (fun _ => true, fun _ => 0, fun _ => 0, fun _ => false)) on ∧ Fr [2, 3, 4, 8, 39, 40, 41, 42, 43, 44, 45, 46] M3 M' ∧ ∀ k j, k = 8 ∨ k = 14 → dR M' k j = dR M3 k j) (fun x M' x0 x1 hI => by
      show ∃ M2, m_X11_read_L42 M' x = _ ∧ _
      unfold m_X11_read_L42 m_X10_cells
      have hy := hI.1.1.1
      have hcx := cx_r z3 x0 x1
      rw [hy.1, hy.2.1, wr_id (x := W' * H') (by omega) (by omega), wr_id (x := x) (by omega) (by omega), if_neg (by omega), column_s hy x0 (by omega), row_s hy x0 (by omega), bd1_q, bd1_q, isOpenAt8_s (v := d (8 * (x / W') + x % W')) ?_ (by omega) (by have := z3.2.1; omega) (by omega) (by have := z3.2.2.2; omega), bd1_q]
      · obtain ⟨M2, e2, w2, w3⟩ := changeCell_s hI.1 x0 x1 (d (8 * (x / W') + x % W'))
        rw [e2, bd2_q]
        refine ⟨M2, rfl, ?_, hI.2.1.trans (fr_X11_changeCell e2) (by decide), fun k j hk => (w3 k j hk).trans (hI.2.2 k j hk)⟩
        rw [chgs_s x0, Int.zero_add]
        exact w2
      · rw [fI hI.2.1 (by decide), fI f3 (by decide), gI_sI, if_neg (by simp)]
        exact z4 _ _ (by omega) (by omega) (by omega) (by omega)) (fun M' hI => by
      show m_X11_read_L42 M' (W' * H') = _
      unfold m_X11_read_L42 m_X10_cells
      rw [hI.1.1.1.1, hI.1.1.1.2.1, if_pos (by omega)]) (by omega) (by omega) (M0 := M3) ⟨⟨q1, SLc.none q4, SwC.zero _ _ _ _ _ q2 q3⟩, Fr.rf, fun _ _ _ => rfl⟩
    rw [chgs_new, Int.toNat_of_nonneg (by omega)] at k4
    rw [e4, bd2_q, openCells_s k4.1.1, bd1_q]
    have fA : Fr [1, 2, 3, 4, 5, 7, 8, 39, 40, 41, 42, 43, 44, 45, 46] M M4 := ((f1'.mono (by decide)).trans f3 (by decide)).trans f4 (by decide)
    have hRA := hR.fr fA (by decide)
    obtain ⟨wide, rows, wrong, more, M5, e5, h5⟩ := keyB M4 hRA
    have hB : wrong = 0 ∧ SB M4 tp ts (RR tp ts) wide rows M5 := by
      rcases h5 with ⟨-, h5⟩ | h5
      · have := h5.1; omega
      · exact h5
    obtain ⟨rfl, hB⟩ := hB
    obtain ⟨M6, h6 | ⟨r, -, -, h6⟩⟩ := rows_end ht hB
    rotate_left
    · have := h6.1; omega
    obtain ⟨e6, -, g1, g2, g3, g4⟩ := h6
    rw [← eW] at g1
    rw [← eH] at g2
    rw [← ed] at g3
    subst g1
    subst g2
    have f6 : Fr [55, 62] M4 (sI M6 55 8 0) := g4.sI (by decide) rfl
    obtain ⟨M7, e7, r1, r2, r3, r4⟩ := begins_s (sI M6 55 8 0) z3
    have f7 := fr_X12_begins e7
    obtain ⟨M8, e8, k8, f8⟩ := for_M (f := fun s => m_X12_read_L240 s.2 s.1) 0 (W' * H') (fun x M' => (∀ j, 0 ≤ j → j < 64 → gI M' 56 j = bI (opF x (fun c => d (8 * (c / W') + c % W')) j)) ∧ Fr [56] M7 M') (fun x M' x0 x1 hI => by
      show ∃ M2, m_X12_read_L240 M' x = _ ∧ _
      unfold m_X12_read_L240
      have hcx := cx_r z3 x0 x1
      have hw1 := z3.1
      have hw2 := z3.2.1
      have hh2 := z3.2.2.2
      rw [fI hI.2 (by decide), fI hI.2 (by decide), r1.1.1, r1.1.2.1, wr_id (x := W' * H') (by omega) (by omega), wr_id (x := x) (by omega) (by omega), if_neg (by omega), wr_id (x := W') (by omega) (by omega), if_pos (by omega), idv_p x0 (by omega) (by omega) (by omega), irm_p x0 (by omega) (by omega) (by omega), wr_id (x := 8 * (x / W') + x % W') (by omega) (by omega), if_pos (c := 0 ≤ 8 * (x / W') + x % W' ∧ 8 * (x / W') + x % W' < 64) (by omega), if_pos (c := 0 ≤ x ∧ x < 64) (by omega), fI hI.2 (by decide), fI f7 (by decide), gI_sI_ne (by decide), g3 _ _ (by omega) (by omega) (by omega) (by omega), if_pos (bI_01 _), lt_q]
      refine ⟨_, rfl, fun j j0 j1 => ?_, hI.2.sI (by decide) rfl⟩
      rw [gI_sI]
      by_cases z : j = x
      · rw [if_pos ⟨rfl, z⟩, z]
        unfold opF
        rw [if_pos (by omega)]
      · rw [if_neg (fun q => z q.2), hI.1 j j0 j1]
        unfold opF
        by_cases y : 0 ≤ j ∧ j < x
        · rw [if_pos y, if_pos (by omega)]
        · rw [if_neg y, if_neg (by omega)]) (fun M' hI => by
      show m_X12_read_L240 M' (W' * H') = _
      unfold m_X12_read_L240
      rw [fI hI.2 (by decide), fI hI.2 (by decide), r1.1.1, r1.1.2.1, if_pos (by omega)]) (by omega) (by omega) (M0 := M7) ⟨fun j j0 j1 => by
        unfold opF
        rw [if_neg (by omega)]; exact r1.1.2.2.2 j j0 j1, Fr.rf⟩
    have hyr : YSr M8 W' H' (opF (W' * H') (fun c => d (8 * (c / W') + c % W'))) (fun _ => 0) (fun _ => 0) := ⟨⟨(fI f8 (by decide) 0).trans r1.1.1, (fI f8 (by decide) 1).trans r1.1.2.1, z3, k8⟩, fun b x y => ⟨(fI f8 (by decide) b).trans (r1.2 b x y).1, (fI f8 (by decide) b).trans (r1.2 b x y).2⟩⟩
    have fR2 : Fr [55, 56, 57, 58, 59, 62] M4 M8 := ((f6.mono (by decide)).trans f7 (by decide)).trans f8 (by decide)
    refine ⟨_, M4, M8, rfl, ?_, W', H', _, _, _, _, on, 0, tp, ln, sz, it, ⟨k4.1.fr fR2 (by decide) (by decide) (by decide) (by decide), k4.2.1.fr fR2 (by unfold kp; intro k; simp; omega), ⟨?_, fun k a b => by omega⟩, (hC.2.2.2.fr fA (by unfold kp; intro k; simp; omega)).fr fR2 (by unfold kp; intro k; simp; omega)⟩, ⟨hyr, SLr.none (fun s a b => (fI f8 (by decide) s).trans (r2 s a b)), ⟨?_, fun k a b => by omega⟩, hRA.2.2.2.fr fR2 (by decide) (by decide) (by decide)⟩, ⟨WFy.zero _ z3, WFs.none, wft0, hwf.2.2.2⟩, ?_, k4.2.2.fr fR2 (by decide) (by decide) (by decide) (by decide)⟩
    · rw [lt_q, e5, bd5_q, if_pos (by decide), e6, bd2_q, if_pos (by decide), bd2_q, lt_q, if_pos (by decide), e7, bd1_q, e8, bd2_q, openManyR_s hyr.1, bd1_q]
    · rw [fI fR2 (by decide), fI f4 (by decide), fI f3 (by decide)]; exact gI_sI_eq
    · rw [fI f8 (by decide), r3]; exact gI_sI_eq
    · refine DRs.of hD (fun j => ?_) (fun j => ?_)
      · rw [fR fR2 (by decide), d4 8 j (Or.inl rfl), q5 8 j (by decide) (by decide) (by decide) (by decide), fR f1' (by decide)]
      · rw [fR fR2 (by decide), d4 14 j (Or.inr rfl), q5 14 j (by decide) (by decide) (by decide) (by decide), fR f1' (by decide)]
