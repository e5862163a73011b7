/-! bricks, on both sides -/
theorem takeBricks_s {M : Mem} {W H : Int} {op : Int → Bool} (hy : YC M W H op) {a s2 : Int} (a0 : 0 ≤ a) (a1 : a < 4) (s0 : 0 ≤ s2) (s1 : s2 < 4) {ln sz : Int → Int} {it : Int → Int → Int} (hS : SHc M ln sz it) (hw : WFh ln sz it) : ((sq W H op (it s2) (sz s2) ∧ ∀ q, iso W H op q = true → cvd W H (it s2) (sz s2) q) ∧ ∃ M2, m_X3_takeBricks M (39 + 2 * a.toNat) (47 + 2 * s2.toNat) = some (true, M2) ∧ gI M2 (39 + 2 * a.toNat) 0 = 1 ∧ (∀ q, iso W H op q = true → gI M2 (39 + 2 * a.toNat + 1) q = pl W H (it s2) (fun _ => 0) (sz s2).toNat q) ∧ Fr [39 + 2 * a.toNat + 1, 39 + 2 * a.toNat] M M2) ∨ (¬ (sq W H op (it s2) (sz s2) ∧ ∀ q, iso W H op q = true → cvd W H (it s2) (sz s2) q) ∧ m_X3_takeBricks M (39 + 2 * a.toNat) (47 + 2 * s2.toNat) = some (false, M)) := by
  have hW := hy.2.2.1
  have h8 := WH_le hW
  obtain ⟨w1, w2, w3, w4, w5⟩ := hw s2 s0 s1
  obtain ⟨p1, p2, p3, p4⟩ := hS s2 s0 s1
  generalize it s2 = b at *
  generalize sz s2 = n at *
  obtain ⟨r, e, hQ⟩ := for_g (f := fun s => m_X3_takeBricks_L5 M (39 + 2 * a.toNat) (47 + 2 * s2.toNat) s.1 s.2) 0 n (fun k s => s.2 = k ∧ sq W H op b k ∧ ∀ q, 0 ≤ q → q < 64 → (LB s.1 q ↔ cvd W H b k q)) (fun r => (sq W H op b n ∧ ∃ x y, r = .inl (x, y)) ∨ (¬ sq W H op b n ∧ r = .inr (false, M))) (by
    rintro k ⟨x, k'⟩ k0 k1 ⟨g0, g1, g2⟩
    dsimp only at g0 g2
    subst g0
    have hb := w5 k' k0 (by omega)
    show (∃ s2', m_X3_takeBricks_L5 M (39 + 2 * a.toNat) (47 + 2 * s2.toNat) x k' = _ ∧ _) ∨ (∃ s2', m_X3_takeBricks_L5 M (39 + 2 * a.toNat) (47 + 2 * s2.toNat) x k' = _ ∧ _)
    unfold m_X3_takeBricks_L5
    rw [p3, wr_id (x := n) (by omega) (by omega), wr_id (x := k') (by omega) (by omega), if_neg (by omega), if_pos (by omega), p4 k' k0 (by omega), stands_s hy hb.1 hb.2, bd1_q]
    simp only [wrb]
    cases hs : stn W H op (b k')
    · rw [if_ff]
      refine Or.inr ⟨_, rfl, Or.inr ⟨fun q => ?_, rfl⟩⟩
      have := (q k' k0 k1).1
      rw [hs] at this
      exact absurd this (by decide)
    · obtain ⟨t1, t2, t3, t4, t5, t6, t7, t8⟩ := stn_t hW hs
      rw [if_tf, secondCell_s hy t1 (by omega), bd1_q, t8, idv_p t1 (by omega) (by omega) (by omega)]
      have l1 := fun q (q0 : 0 ≤ q) (q1 : q < 64) => LB_1 (i := b k' / 2) (q := q) (by omega) (by omega) q0 q1
      have l2 := fun q (q0 : 0 ≤ q) (q1 : q < 64) => LB_1 (i := oth W H (b k')) (q := q) t4 (by omega) q0 q1
      have hz : (x &&& (lshl 1 (b k' / 2) ||| lshl 1 (oth W H (b k')))) = 0 ↔ (¬ cvd W H b k' (b k' / 2) ∧ ¬ cvd W H b k' (oth W H (b k'))) := by
        rw [LB_z]
        constructor
        · intro h
          refine ⟨fun y => h (b k' / 2) (by omega) (by omega) ?_, fun y => h (oth W H (b k')) t4 (by omega) ?_⟩
          · rw [LB_and, LB_or, l1 _ (by omega) (by omega)]
            exact ⟨(g2 _ (by omega) (by omega)).mpr y, Or.inl rfl⟩
          · rw [LB_and, LB_or, l2 _ t4 (by omega)]
            exact ⟨(g2 _ t4 (by omega)).mpr y, Or.inr rfl⟩
        · rintro ⟨h1, h2⟩ q q0 q1 h
          rw [LB_and, LB_or, l1 q q0 q1, l2 q q0 q1] at h
          rcases h.2 with y | y
          · rw [y] at h; exact h1 ((g2 _ (by omega) (by omega)).mp h.1)
          · rw [y] at h; exact h2 ((g2 _ t4 (by omega)).mp h.1)
      by_cases z : (x &&& (lshl 1 (b k' / 2) ||| lshl 1 (oth W H (b k')))) = 0
      · rw [if_pos z]
        refine Or.inl ⟨_, rfl, rfl, (sq_s k0).mpr ⟨g1, hs, hz.mp z⟩, fun q q0 q1 => ?_⟩
        rw [LB_or, LB_or, l1 q q0 q1, l2 q q0 q1, g2 q q0 q1, cvd_s k0]
      · rw [if_neg z]
        refine Or.inr ⟨_, rfl, Or.inr ⟨fun q => z (hz.mpr ?_), rfl⟩⟩
        have := (sq_s k0).mp (fun j j0 j1 => q j j0 (by omega))
        exact this.2.2) (by
    rintro ⟨x, k'⟩ ⟨g0, g1, g2⟩
    dsimp only at g0 g2
    refine ⟨.inl (x, k'), ?_, Or.inl ⟨g1, _, _, rfl⟩⟩
    show m_X3_takeBricks_L5 M (39 + 2 * a.toNat) (47 + 2 * s2.toNat) x k' = _
    unfold m_X3_takeBricks_L5
    rw [p3, g0, if_pos (by omega)]) w3 (by omega) (s0 := (0, 0)) ⟨rfl, fun k k0 k1 => by omega, fun q q0 q1 => ⟨fun y => absurd y (LB_0 q), fun ⟨k, k0, k1, _⟩ => by omega⟩⟩
  unfold m_X3_takeBricks
  rw [e]
  rcases hQ with ⟨hs, x, y, rfl⟩ | ⟨hs, rfl⟩
  case inr => exact Or.inr ⟨fun q => hs q.1, by rw [be2_r]⟩
  rw [be2_l, openCells_s hy, bd1_q, p3]
  have hall := all_cvd hW w3 hs
  have hb : 0 ≤ nOp W H op ∧ nOp W H op ≤ 64 := by
    have key : ∀ k : Nat, 0 ≤ sm k (fun c => bI (op c)) ∧ sm k (fun c => bI (op c)) ≤ k := by
      intro k
      induction k with
      | zero => exact ⟨by rw [sm_z]; omega, by rw [sm_z]; omega⟩
      | succ k ih =>
        have := bI_lo (op (k : Int))
        have := bI_hi (op (k : Int))
        rw [sm_s]
        omega
    have := key (W * H).toNat
    unfold nOp sI'
    omega
  rw [wr_id (x := 2 * n) (by omega) (by omega), wr_id (x := nOp W H op) (by omega) (by omega)]
  by_cases z : 2 * n = nOp W H op
  case neg => exact Or.inr ⟨fun q => z (hall.mpr q.2), by rw [if_neg z]⟩
  left
  refine ⟨⟨hs, hall.mp z⟩, ?_⟩
  rw [if_pos z]
  obtain ⟨M2, e2, k2, f2⟩ := for_M (f := fun s => m_X3_takeBricks_L91 s.2 (39 + 2 * a.toNat) (47 + 2 * s2.toNat) s.1) 0 n (fun k M' => (∀ q, gI M' (39 + 2 * a.toNat + 1) q = pl W H b (fun q => gI M (39 + 2 * a.toNat + 1) q) k.toNat q) ∧ Fr [39 + 2 * a.toNat + 1] M M') (fun k M' k0 k1 hI => by
    show ∃ M2, m_X3_takeBricks_L91 M' (39 + 2 * a.toNat) (47 + 2 * s2.toNat) k = _ ∧ _
    unfold m_X3_takeBricks_L91
    rw [fI hI.2 (by simp; omega), p3, wr_id (x := n) (by omega) (by omega), wr_id (x := k) (by omega) (by omega), if_neg (by omega), if_pos (by omega), fI hI.2 (by simp; omega), p4 k k0 (by omega)]
    obtain ⟨M3, e3, q3⟩ := put_s (hy.fr hI.2 (by simp <;> omega) (by simp <;> omega)) (a := 39 + 2 * a.toNat) (by omega) (hs k k0 k1).1
    rw [e3, bd1_q]
    refine ⟨M3, rfl, fun q => ?_, hI.2.trans (fr_X3_put e3) (by simp)⟩
    rw [q3 q, show (k + 1).toNat = k.toNat + 1 by omega]
    show _ = puts W H (pl W H b (fun q => gI M (39 + 2 * a.toNat + 1) q) k.toNat) (b ((k.toNat : Nat) : Int)) q
    rw [Int.toNat_of_nonneg k0]
    unfold puts
    dsimp only
    rw [hI.1 q]) (fun M' hI => by
    show m_X3_takeBricks_L91 M' (39 + 2 * a.toNat) (47 + 2 * s2.toNat) n = _
    unfold m_X3_takeBricks_L91
    rw [fI hI.2 (by simp; omega), p3, if_pos (by omega)]) w3 (by omega) (M0 := M) ⟨fun q => rfl, Fr.rf⟩
  rw [e2, bd2_q, lt_q]
  refine ⟨_, rfl, gI_sI_eq, fun q hq => ?_, (f2.mono (by simp)).sI (by simp) rfl⟩
  rw [gI_sI, if_neg (by simp), k2 q]
  obtain ⟨j, j0, j1, h⟩ := hall.mp z q hq
  have hs' : sq W H op b (n.toNat : Int) := by rw [Int.toNat_of_nonneg w3]; exact hs
  have c1 := pl_at (p := fun q => gI M (39 + 2 * a.toNat + 1) q) n.toNat hs' j j0 (by omega)
  have c2 := pl_at (p := fun _ => 0) n.toNat hs' j j0 (by omega)
  rcases h with h | h
  · rw [h, c1.1, c2.1]
  · rw [h, c1.2, c2.2]
theorem bricksR_s {M : Mem} {W H : Int} {op : Int → Bool} (hy : YR M W H op) {a s2 : Int} (a0 : 0 ≤ a) (a1 : a < 4) (s0 : 0 ≤ s2) (s1 : s2 < 4) {ln sz : Int → Int} {it : Int → Int → Int} (hS : SHr M ln sz it) (hw : WFh ln sz it) : ∃ M2, ((sq W H op (it s2) (sz s2) ∧ ∀ q, iso W H op q = true → cvd W H (it s2) (sz s2) q) ∧ (bd2 (itr (fun s => m_X12_bricks_L49 s.2 a s2 s.1) FU (0, M)) fun y21 M22 => be2 (itr (fun s => m_X12_bricks_L101 s.2 a s2 s.1) FU (0, M22)) (fun y40 M41 => be1 (itr (fun s => m_X12_bricks_L195 M41 a s2 s) FU (0)) (fun y45 => bd2 (itr (fun s => m_X12_bricks_L224 s.2 a s2 s.1) FU (0, M41)) fun y51 M52 => if 0 ≤ wr a ∧ wr a < 4 then lt (sI M52 59 (wr a) 1) fun M54 => some ((1 : Int), M54) else none))) = some (1, M2) ∧ gI M2 59 a = 1 ∧ (∀ j, 0 ≤ j → j < 4 → j ≠ a → gI M2 59 j = gI M 59 j) ∧ (∀ q, iso W H op q = true → gI M2 60 (64 * a + q) = pl W H (it s2) (fun _ => 0) (sz s2).toNat q) ∧ (∀ j, ¬ (64 * a ≤ j ∧ j < 64 * a + 64) → gI M2 60 j = gI M 60 j) ∧ Fr [59, 60, 66] M M2) ∨ (¬ (sq W H op (it s2) (sz s2) ∧ ∀ q, iso W H op q = true → cvd W H (it s2) (sz s2) q) ∧ (bd2 (itr (fun s => m_X12_bricks_L49 s.2 a s2 s.1) FU (0, M)) fun y21 M22 => be2 (itr (fun s => m_X12_bricks_L101 s.2 a s2 s.1) FU (0, M22)) (fun y40 M41 => be1 (itr (fun s => m_X12_bricks_L195 M41 a s2 s) FU (0)) (fun y45 => bd2 (itr (fun s => m_X12_bricks_L224 s.2 a s2 s.1) FU (0, M41)) fun y51 M52 => if 0 ≤ wr a ∧ wr a < 4 then lt (sI M52 59 (wr a) 1) fun M54 => some ((1 : Int), M54) else none))) = some (-2, M2) ∧ Fr [66] M M2) := by
  have hW := hy.2.2.1
  have h8 := WH_le hW
  obtain ⟨w1, w2, w3, w4, w5⟩ := hw s2 s0 s1
  obtain ⟨p1, p3, p4⟩ := hS s2 s0 s1
  generalize it s2 = b at *
  generalize sz s2 = n at *
  obtain ⟨M1, e1, k1, f1⟩ := for_M (f := fun s => m_X12_bricks_L49 s.2 a s2 s.1) 0 64 (fun i M' => (∀ q, 0 ≤ q → q < i → gI M' 66 q = bI (!iso W H op q)) ∧ Fr [66] M M') (fun i M' i0 i1 hI => by
    show ∃ M2, m_X12_bricks_L49 M' a s2 i = _ ∧ _
    unfold m_X12_bricks_L49
    rw [show wr 64 = 64 by decide, wr_id (x := i) (by omega) (by omega), if_neg (by omega), fI hI.2 (by decide), fI hI.2 (by decide), hy.1, hy.2.1, wr_id (x := W * H) (by omega) (by omega), if_pos (c := 0 ≤ i ∧ i < 64) (by omega), fI hI.2 (by decide), hy.2.2.2 i i0 (by omega)]
    have ev : (if W * H ≤ i then some (1 : Int) else if wr (bI (op i)) = 0 then some 1 else some 0) = some (bI (!iso W H op i)) := by
      simp only [wrb]
      unfold iso
      by_cases z : W * H ≤ i
      · rw [if_pos z, decide_eq_false (by omega)]; rfl
      · rw [if_neg z, decide_eq_true (by omega)]
        cases op i <;> rfl
    rw [ev, bd1_q, if_pos (c := 0 ≤ i ∧ i < 64) (by omega), if_pos (bI_01 _), lt_q]
    refine ⟨_, rfl, fun q q0 q1 => ?_, hI.2.sI (by decide) rfl⟩
    rw [gI_sI]
    by_cases z : q = i
    · rw [if_pos ⟨rfl, z⟩, z]
    · rw [if_neg (fun y => z y.2)]; exact hI.1 q q0 (by omega)) (fun M' hI => by
    show m_X12_bricks_L49 M' a s2 64 = _
    unfold m_X12_bricks_L49
    rw [if_pos (by decide)]) (by omega) (by omega) (M0 := M) ⟨fun q q0 q1 => by omega, Fr.rf⟩
  rw [e1, bd2_q]
  obtain ⟨r, e2, hQ⟩ := for_g (f := fun s => m_X12_bricks_L101 s.2 a s2 s.1) 0 n (fun k s => s.1 = k ∧ sq W H op b k ∧ (∀ q, 0 ≤ q → q < 64 → gI s.2 66 q = bI (!iso W H op q || bp (cvd W H b k q))) ∧ Fr [66] M s.2) (fun r => (sq W H op b n ∧ ∃ y M', r = .inl (y, M') ∧ (∀ q, 0 ≤ q → q < 64 → gI M' 66 q = bI (!iso W H op q || bp (cvd W H b n q))) ∧ Fr [66] M M') ∨ (¬ sq W H op b n ∧ ∃ M', r = .inr (-2, M') ∧ Fr [66] M M')) (by
    rintro k ⟨k', M'⟩ k0 k1 ⟨g0, g1, g2, g3⟩
    dsimp only at g0 g2 g3
    subst g0
    have hb := w5 k' k0 (by omega)
    have hy' := hy.fr g3 (by decide) (by decide)
    show (∃ s2', m_X12_bricks_L101 M' a s2 k' = _ ∧ _) ∨ (∃ s2', m_X12_bricks_L101 M' a s2 k' = _ ∧ _)
    unfold m_X12_bricks_L101
    rw [wr_id (x := s2) (by omega) (by omega), if_pos (c := 0 ≤ s2 ∧ s2 < 4) (by omega), fI g3 (by decide), p3, wr_id (x := n) (by omega) (by omega), wr_id (x := k') (by omega) (by omega), if_neg (by omega), wr_id (x := 64 * s2 + k') (by omega) (by omega), if_pos (c := 0 ≤ 64 * s2 + k' ∧ 64 * s2 + k' < 256) (by omega), fI g3 (by decide), p4 k' k0 (by omega), isBrick_s hy' hb.1 hb.2, bd1_q]
    simp only [wrb]
    cases hs : stn W H op (b k')
    · rw [if_ff]
      refine Or.inr ⟨_, rfl, Or.inr ⟨fun q => ?_, _, rfl, g3⟩⟩
      have := (q k' k0 k1).1
      rw [hs] at this
      exact absurd this (by decide)
    · obtain ⟨t1, t2, t3, t4, t5, t6, t7, t8⟩ := stn_t hW hs
      have hi1 : iso W H op (b k' / 2) = true := iso_t.mpr ⟨⟨by omega, by omega⟩, t3⟩
      have hi2 : iso W H op (oth W H (b k')) = true := iso_t.mpr ⟨⟨t4, t6⟩, t7⟩
      rw [if_tf, idv_p t1 (by omega) (by omega) (by omega), wr_id (x := b k' / 2) (by omega) (by omega), if_pos (c := 0 ≤ b k' / 2 ∧ b k' / 2 < 64) (by omega), g2 (b k' / 2) (by omega) (by omega), hi1, otherOf_s hy' t1 (by omega), bd1_q, wr_id (x := oth W H (b k')) (by omega) (by omega), if_pos (c := 0 ≤ oth W H (b k') ∧ oth W H (b k') < 64) (by omega), g2 (oth W H (b k')) t4 (by omega), hi2]
      simp only [Bool.not_true, Bool.false_or, wrb]
      by_cases z1 : cvd W H b k' (b k' / 2)
      · rw [bp_t.mpr z1, if_tf]
        refine Or.inr ⟨_, rfl, Or.inr ⟨fun q => ?_, _, rfl, g3⟩⟩
        exact ((sq_s k0).mp (fun j j0 j1 => q j j0 (by omega))).2.2.1 z1
      rw [bp_f.mpr z1, if_ff]
      by_cases z2 : cvd W H b k' (oth W H (b k'))
      · rw [bp_t.mpr z2, if_tf]
        refine Or.inr ⟨_, rfl, Or.inr ⟨fun q => ?_, _, rfl, g3⟩⟩
        exact ((sq_s k0).mp (fun j j0 j1 => q j j0 (by omega))).2.2.2 z2
      have f5 : Fr [66] M (sI M' 66 (b k' / 2) 1) := g3.sI (by decide) rfl
      rw [bp_f.mpr z2, if_ff, lt_q, otherOf_s (hy.fr f5 (by decide) (by decide)) t1 (by omega), bd1_q, wr_id (x := oth W H (b k')) (by omega) (by omega), if_pos (by omega), lt_q]
      refine Or.inl ⟨_, rfl, rfl, (sq_s k0).mpr ⟨g1, hs, z1, z2⟩, fun q q0 q1 => ?_, f5.sI (by decide) rfl⟩
      have hc := cvd_s (W := W) (H := H) (b := b) (n := k') (q := q) k0
      dsimp only
      rw [gI_sI, gI_sI]
      by_cases y1 : q = oth W H (b k')
      · rw [if_pos ⟨rfl, y1⟩, bp_t.mpr (hc.mpr (Or.inr (Or.inr y1))), Bool.or_true]; rfl
      · rw [if_neg (fun y => y1 y.2)]
        by_cases y2 : q = b k' / 2
        · rw [if_pos ⟨rfl, y2⟩, bp_t.mpr (hc.mpr (Or.inr (Or.inl y2))), Bool.or_true]; rfl
        · rw [if_neg (fun y => y2 y.2), g2 q q0 q1]
          congr 2
          apply bp_congr
          constructor
          · intro y; exact hc.mpr (Or.inl y)
          · intro y
            rcases hc.mp y with y | y | y
            · exact y
            · exact absurd y y2
            · exact absurd y y1) (by
    rintro ⟨k', M'⟩ ⟨g0, g1, g2, g3⟩
    dsimp only at g0 g2 g3
    refine ⟨.inl (k', M'), ?_, Or.inl ⟨g1, _, _, rfl, g2, g3⟩⟩
    show m_X12_bricks_L101 M' a s2 k' = _
    unfold m_X12_bricks_L101
    rw [wr_id (x := s2) (by omega) (by omega), if_pos (c := 0 ≤ s2 ∧ s2 < 4) (by omega), fI g3 (by decide), p3, g0, if_pos (by omega)]) w3 (by omega) (s0 := (0, M1)) ⟨rfl, fun k k0 k1 => by omega, fun q q0 q1 => by
      rw [k1 q q0 q1, bp_f.mpr (fun ⟨k, k0, k1, _⟩ => by omega), Bool.or_false], f1⟩
  rw [e2]
  rcases hQ with ⟨hs, y, M3, rfl, k3, f3⟩ | ⟨hs, M3, rfl, f3⟩
  case inr => exact ⟨M3, Or.inr ⟨fun q => hs q.1, by rw [be2_r], f3⟩⟩
  rw [be2_l]
  obtain ⟨r, e4, hQ⟩ := for_g (f := fun s => m_X12_bricks_L195 M3 a s2 s) 0 64 (fun i s => s = i ∧ ∀ q, 0 ≤ q → q < i → iso W H op q = true → cvd W H b n q) (fun r => ((∀ q, iso W H op q = true → cvd W H b n q) ∧ ∃ y, r = .inl y) ∨ (¬ (∀ q, iso W H op q = true → cvd W H b n q) ∧ r = .inr (-2, M3))) (by
    rintro i s i0 i1 ⟨rfl, g1⟩
    show (∃ s2', m_X12_bricks_L195 M3 a s2 s = _ ∧ _) ∨ (∃ s2', m_X12_bricks_L195 M3 a s2 s = _ ∧ _)
    unfold m_X12_bricks_L195
    rw [show wr 64 = 64 by decide, wr_id (x := s) (by omega) (by omega), if_neg (by omega), if_pos (by omega), k3 s i0 i1]
    simp only [wrb]
    by_cases z : iso W H op s = true ∧ ¬ cvd W H b n s
    · rw [z.1, bp_f.mpr z.2, if_pos (by rfl)]
      exact Or.inr ⟨_, rfl, Or.inr ⟨fun q => z.2 (q s z.1), rfl⟩⟩
    · rw [if_neg (fun y => z (by
        simp only [Bool.or_eq_false_iff, Bool.not_eq_false'] at y
        exact ⟨y.1, bp_f.mp y.2⟩))]
      refine Or.inl ⟨_, rfl, rfl, fun q q0 q1 hq => ?_⟩
      by_cases w : q = s
      · rw [w] at hq ⊢
        exact Classical.byContradiction fun v => z ⟨hq, v⟩
      · exact g1 q q0 (by omega) hq) (by
    rintro s ⟨rfl, g1⟩
    show ∃ s2', m_X12_bricks_L195 M3 a s2 64 = _ ∧ _
    unfold m_X12_bricks_L195
    rw [if_pos (by decide)]
    exact ⟨_, rfl, Or.inl ⟨fun q hq => g1 q (iso_t.mp hq).1.1 (by have := (iso_t.mp hq).1; omega) hq, _, rfl⟩⟩) (by omega) (by omega) (s0 := 0) ⟨rfl, fun q q0 q1 => by omega⟩
  rw [e4]
  rcases hQ with ⟨hc, y', rfl⟩ | ⟨hc, rfl⟩
  case inr => exact ⟨M3, Or.inr ⟨fun q => hc q.2, by rw [be1_r], f3⟩⟩
  rw [be1_l]
  have hs' : sq W H op b (n.toNat : Int) := by rw [Int.toNat_of_nonneg w3]; exact hs
  obtain ⟨M5, e5, k5, k6, f5⟩ := for_M (f := fun s => m_X12_bricks_L224 s.2 a s2 s.1) 0 n (fun k M' => (∀ q, 0 ≤ q → q < 64 → gI M' 60 (64 * a + q) = pl W H b (fun q => gI M3 60 (64 * a + q)) k.toNat q) ∧ (∀ j, ¬ (64 * a ≤ j ∧ j < 64 * a + 64) → gI M' 60 j = gI M3 60 j) ∧ Fr [60] M3 M') (fun k M' k0 k1 hI => by
    show ∃ M2, m_X12_bricks_L224 M' a s2 k = _ ∧ _
    unfold m_X12_bricks_L224
    have fA : Fr [60, 66] M M' := (f3.mono (by decide)).trans hI.2.2 (by decide)
    rw [wr_id (x := s2) (by omega) (by omega), if_pos (c := 0 ≤ s2 ∧ s2 < 4) (by omega), fI fA (by decide), p3, wr_id (x := n) (by omega) (by omega), wr_id (x := k) (by omega) (by omega), if_neg (by omega), wr_id (x := 64 * s2 + k) (by omega) (by omega), if_pos (c := 0 ≤ 64 * s2 + k ∧ 64 * s2 + k < 256) (by omega), fI fA (by decide), p4 k k0 (by omega)]
    obtain ⟨M6, e6, q6, q7⟩ := lays_s (hy.fr fA (by decide) (by decide)) a0 a1 (hs k k0 k1).1
    rw [e6, bd1_q]
    refine ⟨M6, rfl, fun q q0 q1 => ?_, fun j hj => (q7 j hj).trans (hI.2.1 j hj), hI.2.2.trans (fr_X12_lays e6) (by decide)⟩
    rw [q6 q q0 q1, show (k + 1).toNat = k.toNat + 1 by omega]
    show _ = puts W H (pl W H b (fun q => gI M3 60 (64 * a + q)) k.toNat) (b ((k.toNat : Nat) : Int)) q
    rw [Int.toNat_of_nonneg k0]
    unfold puts
    dsimp only
    rw [hI.1 q q0 q1]) (fun M' hI => by
    show m_X12_bricks_L224 M' a s2 n = _
    unfold m_X12_bricks_L224
    have fA : Fr [60, 66] M M' := (f3.mono (by decide)).trans hI.2.2 (by decide)
    rw [wr_id (x := s2) (by omega) (by omega), if_pos (c := 0 ≤ s2 ∧ s2 < 4) (by omega), fI fA (by decide), p3, if_pos (by omega)]) w3 (by omega) (M0 := M3) ⟨fun q _ _ => rfl, fun _ _ => rfl, Fr.rf⟩
  rw [e5, bd2_q, wr_id (x := a) (by omega) (by omega), if_pos (by omega), lt_q]
  refine ⟨_, Or.inl ⟨⟨hs, hc⟩, rfl, gI_sI_eq, fun j j0 j1 z => ?_, fun q hq => ?_, fun j hj => ?_, ?_⟩⟩
  · rw [gI_sI, if_neg (fun y => z y.2), fI f5 (by decide), fI f3 (by decide)]
  · have hqr := (iso_t.mp hq).1
    rw [gI_sI, if_neg (by simp), k5 q (by omega) (by omega)]
    obtain ⟨j, j0, j1, h⟩ := hc q hq
    have c1 := pl_at (p := fun q => gI M3 60 (64 * a + q)) n.toNat hs' j j0 (by omega)
    have c2 := pl_at (p := fun _ => 0) n.toNat hs' j j0 (by omega)
    rcases h with h | h
    · rw [h, c1.1, c2.1]
    · rw [h, c1.2, c2.2]
  · rw [gI_sI, if_neg (by simp), k6 j hj, fI f3 (by decide)]
  · have fA : Fr [59, 60, 66] M M5 := (f3.mono (by decide)).trans f5 (by decide)
    exact fA.sI (by decide) rfl
theorem op_bricks {M : Mem} (hI : Inv M) {a s2 l : Int} (ha : -2147483648 ≤ a) (ha2 : a ≤ 2147483647) (hs : -2147483648 ≤ s2) (hs2 : s2 ≤ 2147483647) (hl : -2147483648 ≤ l) (hl2 : l ≤ 2147483647) : OpI (fun M => m_X11_bricks M a s2 l) (fun M => m_X12_bricks M a s2 l) M := by
  have hI' := hI
  obtain ⟨W, H, op, wa, pr, hd, on, ts, tp, ln, sz, it, hA⟩ := hI'
  have hA' := hA
  obtain ⟨hC, hR, hwf, hD, hS⟩ := hA'
  have hW := hwf.1.1
  unfold OpI m_X11_bricks m_X12_bricks
  dsimp only
  rw [isSlot_s ha ha2, isSlotR_s ha ha2, isSheet_s hs hs2, isSheetR_s hs hs2, wr_id hl hl2, l_1, l_2, in_s hl hl2 (by omega) (by omega) (by omega) (by omega), show wr 1 = 1 by decide, show wr 2 = 2 by decide, wr_id hs hs2]
  simp only [wrb, bd1_q]
  by_cases c1 : 0 ≤ a ∧ a < 4
  case neg =>
    rw [decide_eq_false c1]
    exact ⟨-1, M, M, rfl, rfl, hI⟩
  by_cases c2 : 0 ≤ s2 ∧ s2 < 4
  case neg =>
    rw [decide_eq_true c1, decide_eq_false c2]
    exact ⟨-1, M, M, rfl, rfl, hI⟩
  rw [decide_eq_true c1, decide_eq_true c2]
  simp only [if_tf]
  by_cases c3 : 1 ≤ l ∧ l ≤ 2
  case neg =>
    rw [decide_eq_false c3, if_neg (by omega), if_neg (by omega)]
    exact ⟨-1, M, M, rfl, rfl, hI⟩
  rw [decide_eq_true c3]
  simp only [if_tf]
  have hfn : ∀ M3, SHr M3 ln sz it → m_X12_finds M3 s2 l 0 0 = some (fnd ln sz s2 l 0 0) := fun M3 h3 => finds_s h3 hwf.2.2.2 c2.1 c2.2 (wr_id hl hl2) (by omega) (by omega) (by omega) (by omega)
  obtain ⟨w1, w2, w3, w4, w5⟩ := hwf.2.2.2 s2 c2.1 c2.2
  rw [sheetFault_s hC.2.2.2 hwf.2.2.2 c2.1 c2.2 (wr_id hl hl2), bd1_q, wr_id ha ha2, if_pos c1, if_pos c2]
  have hsame : ∀ X Y : Option (Int × Mem), (if l = 1 then X else if l = 2 then X else Y) = X := by
    intro X Y
    by_cases z : l = 1
    · rw [if_pos z]
    · rw [if_neg z, if_pos (by omega)]
  rw [hsame]
  unfold fnd at hfn
  by_cases c4 : ln s2 < 0
  · rw [if_pos c4] at hfn ⊢
    refine ⟨-11, M, M, rfl, ?_, hI⟩
    rw [hfn M hR.2.2.2, bd1_q]; rfl
  rw [if_neg c4] at hfn ⊢
  by_cases c5 : ln s2 = l
  case neg =>
    rw [if_pos c5] at hfn ⊢
    refine ⟨-12, M, M, rfl, ?_, hI⟩
    rw [hfn M hR.2.2.2, bd1_q]; rfl
  rw [if_neg (c := ln s2 ≠ l) (fun z => z c5)] at hfn ⊢
  rw [if_neg (by omega)] at hfn
  rw [if_pos (by decide)]
  rcases takeBricks_s hC.1.1 c1.1 c1.2 c2.1 c2.2 hC.2.2.2 hwf.2.2.2 with ⟨hq, M1, e1, g1, g2, f1⟩ | ⟨hq, e1⟩
  · have fB : Fr [39, 40, 41, 42, 43, 44, 45, 46] M M1 := f1.mono (by rcases s4 c1.1 c1.2 with w | w | w | w <;> rw [w] <;> decide)
    have hR1 := hR.fr fB (by decide)
    obtain ⟨M2, h2⟩ := bricksR_s hR1.1.1 c1.1 c1.2 c2.1 c2.2 hR1.2.2.2 hwf.2.2.2
    rcases h2 with ⟨-, e2, q1, q2, q3, q4, f2⟩ | ⟨z, -⟩
    · rw [e1, bd2_q, lt_q, if_neg (by decide)]
      have hp : Pav W H op (pl W H (it s2) (fun _ => 0) (sz s2).toNat) := pl_pav (by rw [Int.toNat_of_nonneg w3]; exact hq.1) (by rw [Int.toNat_of_nonneg w3]; exact hq.2)
      refine ⟨1, M1, M2, rfl, ?_, W, H, op, wa, pr, _, _, ts, tp, ln, sz, it, hA.slot (v := true) c1.1 c1.2 f1 g1 (fun _ => g2) f2 (by decide) q2 q4 q1 (fun _ => q3) (fun _ => hp)⟩
      rw [hfn M1 hR1.2.2.2, bd1_q, if_pos (by decide)]
      rw [wr_id ha ha2] at e2
      exact e2
    · exact absurd hq z
  · obtain ⟨M2, h2⟩ := bricksR_s hR.1.1 c1.1 c1.2 c2.1 c2.2 hR.2.2.2 hwf.2.2.2
    rcases h2 with ⟨z, -⟩ | ⟨-, e2, f2⟩
    · exact absurd z hq
    · rw [e1, bd2_q, lt_q, if_pos (by decide)]
      refine ⟨-2, M, M2, rfl, ?_, W, H, op, wa, pr, hd, on, ts, tp, ln, sz, it, hA.quiet (ks := []) Fr.rf f2 (by decide) (by decide)⟩
      rw [hfn M hR.2.2.2, bd1_q, if_pos (by decide)]
      rw [wr_id ha ha2] at e2
      exact e2
