/-! cell, want, price, brick, keep, cost -/
theorem oth_hit {W H b c : Int} (h : WHr W H) (h0 : 0 ≤ b) (hb : b < 2 * (W * H)) (hc : 0 ≤ c) (e : oth W H b = c) : (0 < c % W ∧ b = 2 * c - 2) ∨ (W ≤ c ∧ b = 2 * (c - W) + 1) := by
  obtain ⟨a1, a2, a3, a4⟩ := h
  unfold oth at e
  rcases W8 a1 a2 with rfl | rfl | rfl | rfl | rfl | rfl | rfl | rfl <;> (split at e <;> split at e <;> omega)
theorem chg_wf {W H : Int} {t : TS} {on : Int → Int → Int} (hy : WFy W H t.1 t.2.1 t.2.2.1) (hs : WFs W H t.1 t.2.2.2 on) {c : Int} (h0 : 0 ≤ c) (hc : c < W * H) (v : Bool) : WFy W H (chg W c v t).1 (chg W c v t).2.1 (chg W c v t).2.2.1 ∧ WFs W H (chg W c v t).1 (chg W c v t).2.2.2 on := by
  unfold chg
  by_cases e : t.1 c = v
  · rw [if_pos e]; exact ⟨hy, hs⟩
  rw [if_neg e]
  refine ⟨⟨hy.1, fun b x y => ?_⟩, WFs.none⟩
  obtain ⟨q1, q2, q3, q4, q5⟩ := hy.2 b x y
  dsimp only
  unfold frs
  by_cases hit : b = 2 * c ∨ b = 2 * c + 1 ∨ (0 < c % W ∧ b = 2 * c - 2) ∨ (W ≤ c ∧ b = 2 * (c - W) + 1)
  · rw [if_pos hit, if_pos hit]; exact ⟨by omega, by omega, by omega, by omega, fun z => absurd rfl z⟩
  · rw [if_neg hit, if_neg hit]
    refine ⟨q1, q2, q3, q4, fun z => ?_⟩
    obtain ⟨s1, s2, s3, s4, s5, s6, s7, s8⟩ := stn_t hy.1 (q5 z)
    have n1 : b / 2 ≠ c := fun e => hit (by omega)
    have n2 : oth W H b ≠ c := fun e => by
      have := oth_hit hy.1 s1 s2 h0 e
      exact hit (Or.inr (Or.inr this))
    refine stn_i hy.1 s1 s2 ?_ s4 ?_
    · unfold updB; rw [if_neg n1]; exact s3
    · unfold updB; rw [if_neg n2]; exact s7
theorem cell_d {W H c : Int} (h : isc W H c = true) : 0 ≤ c ∧ c < W * H := by
  unfold isc at h; simpa using h
theorem op_cell {M : Mem} (hI : Inv M) {a : Int} (ha : -2147483648 ≤ a) (ha2 : a ≤ 2147483647) (v : Bool) : OpI (fun M => m_X11_cell M a (bI v)) (fun M => m_X12_cell M a (bI v)) M := by
  have hI' := hI
  obtain ⟨W, H, op, wa, pr, hd, on, ts, tp, ln, sz, it, hC, hR, hwf, hD, hS⟩ := hI'
  have hW := hC.1.1.2.2.1
  have h8 := WH_le hW
  unfold OpI m_X11_cell m_X12_cell
  dsimp only
  rw [isCell_s hC.1.1 ha ha2, bd1_q]
  simp only [wrb]
  cases h : isc W H a
  · refine ⟨-1, M, M, by rw [if_pos rfl], ?_, hI⟩
    rw [isCellR_s hR.1.1 ha ha2, bd1_q, h, if_pos rfl]
  · obtain ⟨c0, c1⟩ := cell_d h
    obtain ⟨M1, e1, q1, q2⟩ := changeCell_s (t := (op, wa, pr, hd)) (on := on) ⟨hC.1, hC.2.1, hS⟩ c0 c1 v
    have f1 := fr_X11_changeCell e1
    have hR1 := hR.fr f1 (by decide)
    obtain ⟨M2, e2, r1⟩ := sets_s (t := (op, wa, pr, hd)) (on := on) ⟨hR1.1, hR1.2.1⟩ c0 c1 v
    have f2 := fr_X12_sets e2
    have hw2 := chg_wf (t := (op, wa, pr, hd)) (on := on) hwf.1 hwf.2.1 c0 c1 v
    refine ⟨bI (op a), M1, M2, ?_, ?_, W, H, _, _, _, _, on, ts, tp, ln, sz, it, ⟨q1.1.fr f2 (by decide) (by decide) (by decide) (by decide), q1.2.1.fr f2 (by unfold kp; intro k; simp; omega), (hC.2.2.1.fr f1 (by decide) (by decide)).fr f2 (by decide) (by decide), (hC.2.2.2.fr f1 (by unfold kp; intro k; simp; omega)).fr f2 (by unfold kp; intro k; simp; omega)⟩, ⟨r1.1, r1.2, hR1.2.2.1.fr f2 (by decide) (by decide), hR1.2.2.2.fr f2 (by decide) (by decide) (by decide)⟩, ⟨hw2.1, hw2.2, hwf.2.2⟩, (hD.of (fun j => q2 8 j (Or.inl rfl)) (fun j => q2 14 j (Or.inr rfl))).fr f2 (by decide) (by decide), q1.2.2.fr f2 (by decide) (by decide) (by decide) (by decide)⟩
    · rw [if_neg (by simp), e1, bd2_q, bit_e]
    · rw [isCellR_s hR1.1.1 ha ha2, bd1_q, h, if_neg (by simp), wr_id ha ha2, if_pos ⟨c0, by omega⟩, e2, bd1_q, lt_q, hR1.1.1.2.2.2 a c0 (by omega), wr_bI]
      cases op a <;> rfl
theorem op_want {M : Mem} (hI : Inv M) {a b : Int} (ha : -2147483648 ≤ a) (ha2 : a ≤ 2147483647) (hb : -2147483648 ≤ b) (hb2 : b ≤ 2147483647) : OpI (fun M => m_X11_want M a b) (fun M => m_X12_want M a b) M := by
  have hI' := hI
  obtain ⟨W, H, op, wa, pr, hd, on, ts, tp, ln, sz, it, hC, hR, hwf, hD, hS⟩ := hI'
  have hW := hC.1.1.2.2.1
  have h8 := WH_le hW
  unfold OpI m_X11_want m_X12_want
  dsimp only
  rw [stands_s hC.1.1 ha ha2, bd1_q, wr_id ha ha2, wr_id hb hb2, show wr 2 = 2 by decide, l_0, l_2, in_s hb hb2 (by omega) (by omega) (by omega) (by omega)]
  simp only [wrb]
  cases h : stn W H op a
  · refine ⟨-1, M, M, ?_, ?_, hI⟩
    · by_cases c1 : b < 0
      · rw [if_pos c1]
      rw [if_neg c1]
      by_cases c2 : 2 < b
      · rw [if_pos c2]
      rw [if_neg c2, if_pos rfl]
    · rw [isBrick_s hR.1.1 ha ha2, bd1_q, h, if_pos rfl]
  obtain ⟨s1, s2, -⟩ := stn_t hW h
  by_cases hr : ¬ (0 ≤ b ∧ b ≤ 2)
  · refine ⟨-1, M, M, ?_, ?_, hI⟩
    · by_cases c1 : b < 0
      · rw [if_pos c1]
      rw [if_neg c1, if_pos (by omega)]
    · rw [isBrick_s hR.1.1 ha ha2, bd1_q, h, if_neg (by simp), bd1_q, if_pos (by simpa using hr)]
  replace hr := Classical.not_not.mp hr
  have hwf' : WF W H op (fun d => if d = a then b else wa d) pr hd on ts tp ln sz it := by
    refine ⟨⟨hwf.1.1, fun d x y => ?_⟩, hwf.2⟩
    obtain ⟨q1, q2, q3, q4, q5⟩ := hwf.1.2 d x y
    dsimp only
    by_cases e : d = a
    · rw [if_pos e]; exact ⟨hr.1, hr.2, q3, q4, fun _ => by rw [e]; exact h⟩
    · rw [if_neg e]; exact ⟨q1, q2, q3, q4, q5⟩
  have hyc : ∀ M1, Fr [3, 8] M M1 → (∀ d, gI M1 3 d = if d = a then b else gI M 3 d) → YSc M1 W H op (fun d => if d = a then b else wa d) pr := by
    intro M1 f1 h3
    refine ⟨hC.1.1.fr f1 (by decide) (by decide), fun d x y => ⟨?_, (fI f1 (by decide) d).trans (hC.1.2 d x y).2⟩⟩
    rw [h3]
    dsimp only
    by_cases e : d = a
    · rw [if_pos e, if_pos e]
    · rw [if_neg e, if_neg e]; exact (hC.1.2 d x y).1
  have hg := (hC.1.2 a s1 (by omega)).1
  have hgr := (hR.1.2 a s1 (by omega)).1
  have hwr := hwf.1.2 a s1 (by omega)
  -- the class
  obtain ⟨M1, e1, f1, h3, hS1, hD1⟩ : ∃ M1, (bd1 (if wr (gI M 3 a) = b then some (sI M 3 a b) else bd1 (m_X7_forget (sI M 3 a b)) fun M10 => some M10) fun M11 => some (gI M 3 a, M11)) = some (wa a, M1) ∧ Fr [3, 8] M M1 ∧ (∀ d, gI M1 3 d = if d = a then b else gI M 3 d) ∧ SwC M1 W H op (fun d => if d = a then b else wa d) pr ∧ DRs M1 := by
    rw [hg, wr_id (x := wa a) (by omega) (by omega)]
    by_cases e : wa a = b
    · rw [if_pos e, bd1_q]
      have f1 : Fr [3] M (sI M 3 a b) := Fr.sI Fr.rf (by decide) rfl
      refine ⟨_, rfl, f1.mono (by decide), fun d => by rw [gI_sI]; simp, ?_, hD.fr f1 (by decide) (by decide)⟩
      have : (fun d => if d = a then b else wa d) = wa := by
        funext d
        by_cases z : d = a
        · rw [if_pos z, z, e]
        · rw [if_neg z]
      rw [this]
      exact hS.fr f1 (by decide) (by decide) (by decide) (by decide)
    · rw [if_neg e]
      unfold m_X7_forget
      rw [lt_q, lt_q, bd1_q, bd1_q]
      have f1 : Fr [3, 8] M (sI (sI (sI M 3 a b) 8 5 0) 8 6 0) := Fr.sI (Fr.sI (Fr.sI Fr.rf (by decide) rfl) (by decide) rfl) (by decide) rfl
      refine ⟨_, rfl, f1, fun d => by rw [gI_sI, if_neg (by simp), gI_sI, if_neg (by simp), gI_sI]; simp, SwC.zero _ _ _ _ _ ?_ ?_, hD⟩
      · rw [gI_sI, if_neg (by simp), gI_sI, if_pos ⟨rfl, rfl⟩]
      · rw [gI_sI, if_pos ⟨rfl, rfl⟩]
  have hR1 := hR.fr f1 (by decide)
  have f2 : Fr [57] M1 (sI M1 57 a b) := Fr.sI Fr.rf (by decide) rfl
  have hyc1 := hyc M1 f1 h3
  refine ⟨wa a, M1, sI M1 57 a b, ?_, ?_, W, H, op, _, pr, hd, on, ts, tp, ln, sz, it, ⟨hyc1.fr f2 (by decide) (by decide) (by decide) (by decide), (hC.2.1.fr f1 (by unfold kp; intro k; simp; omega)).fr f2 (by unfold kp; intro k; simp; omega), (hC.2.2.1.fr f1 (by decide) (by decide)).fr f2 (by decide) (by decide), (hC.2.2.2.fr f1 (by unfold kp; intro k; simp; omega)).fr f2 (by unfold kp; intro k; simp; omega)⟩, ⟨⟨hR1.1.1.fr f2 (by decide) (by decide), fun d x y => ⟨?_, (fI f2 (by decide) d).trans (hR1.1.2 d x y).2⟩⟩, hR1.2.1.fr f2 (by decide) (by decide), hR1.2.2.1.fr f2 (by decide) (by decide), hR1.2.2.2.fr f2 (by decide) (by decide) (by decide)⟩, hwf', hD1.fr f2 (by decide) (by decide), hS1.fr f2 (by decide) (by decide) (by decide) (by decide)⟩
  · rw [if_neg (by omega), if_neg (by omega), if_neg (by simp), if_pos ⟨s1, by omega⟩, lt_q]
    exact e1
  · rw [isBrick_s hR1.1.1 ha ha2, bd1_q, h, if_neg (by simp), bd1_q, if_neg (by simpa using hr), if_pos ⟨s1, by omega⟩, lt_q, (hR1.1.2 a s1 (by omega)).1]
  · rw [gI_sI]
    dsimp only
    by_cases e : d = a
    · rw [if_pos ⟨rfl, e⟩, if_pos e]
    · rw [if_neg (fun z => e z.2), if_neg e]; exact (hR1.1.2 d x y).1
theorem l_999 : (999 : Int64) = i2l 999 := by decide
theorem op_price {M : Mem} (hI : Inv M) {a b : Int} (ha : -2147483648 ≤ a) (ha2 : a ≤ 2147483647) (hb : -2147483648 ≤ b) (hb2 : b ≤ 2147483647) : OpI (fun M => m_X11_price M a b) (fun M => m_X12_price M a b) M := by
  have hI' := hI
  obtain ⟨W, H, op, wa, pr, hd, on, ts, tp, ln, sz, it, hC, hR, hwf, hD, hS⟩ := hI'
  have hW := hC.1.1.2.2.1
  have h8 := WH_le hW
  unfold OpI m_X11_price m_X12_price
  dsimp only
  rw [stands_s hC.1.1 ha ha2, bd1_q, wr_id ha ha2, wr_id hb hb2, show wr 999 = 999 by decide, l_0, l_999, in_s hb hb2 (by omega) (by omega) (by omega) (by omega)]
  simp only [wrb]
  cases h : stn W H op a
  · refine ⟨-1, M, M, ?_, ?_, hI⟩
    · by_cases c1 : b < 0
      · rw [if_pos c1]
      rw [if_neg c1]
      by_cases c2 : 999 < b
      · rw [if_pos c2]
      rw [if_neg c2, if_pos rfl]
    · rw [isBrick_s hR.1.1 ha ha2, bd1_q, h, if_pos rfl]
  obtain ⟨s1, s2, -⟩ := stn_t hW h
  by_cases hr : ¬ (0 ≤ b ∧ b ≤ 999)
  · refine ⟨-1, M, M, ?_, ?_, hI⟩
    · by_cases c1 : b < 0
      · rw [if_pos c1]
      rw [if_neg c1, if_pos (by omega)]
    · rw [isBrick_s hR.1.1 ha ha2, bd1_q, h, if_neg (by simp), bd1_q, if_pos (by simpa using hr)]
  replace hr := Classical.not_not.mp hr
  have hwf' : WF W H op wa (fun d => if d = a then b else pr d) hd on ts tp ln sz it := by
    refine ⟨⟨hwf.1.1, fun d x y => ?_⟩, hwf.2⟩
    obtain ⟨q1, q2, q3, q4, q5⟩ := hwf.1.2 d x y
    dsimp only
    by_cases e : d = a
    · rw [if_pos e]; exact ⟨q1, q2, hr.1, hr.2, q5⟩
    · rw [if_neg e]; exact ⟨q1, q2, q3, q4, q5⟩
  have hyc : ∀ M1, Fr [4, 8] M M1 → (∀ d, gI M1 4 d = if d = a then b else gI M 4 d) → YSc M1 W H op wa (fun d => if d = a then b else pr d) := by
    intro M1 f1 h3
    refine ⟨hC.1.1.fr f1 (by decide) (by decide), fun d x y => ⟨(fI f1 (by decide) d).trans (hC.1.2 d x y).1, ?_⟩⟩
    rw [h3]
    dsimp only
    by_cases e : d = a
    · rw [if_pos e, if_pos e]
    · rw [if_neg e, if_neg e]; exact (hC.1.2 d x y).2
  have hg := (hC.1.2 a s1 (by omega)).2
  have hgr := (hR.1.2 a s1 (by omega)).2
  have hwr := hwf.1.2 a s1 (by omega)
  obtain ⟨M1, e1, f1, h3, hS1, hD1⟩ : ∃ M1, (bd1 (if wr (gI M 4 a) = b then some (sI M 4 a b) else bd1 (m_X7_forget (sI M 4 a b)) fun M10 => some M10) fun M11 => some (gI M 4 a, M11)) = some (pr a, M1) ∧ Fr [4, 8] M M1 ∧ (∀ d, gI M1 4 d = if d = a then b else gI M 4 d) ∧ SwC M1 W H op wa (fun d => if d = a then b else pr d) ∧ DRs M1 := by
    rw [hg, wr_id (x := pr a) (by omega) (by omega)]
    by_cases e : pr a = b
    · rw [if_pos e, bd1_q]
      have f1 : Fr [4] M (sI M 4 a b) := Fr.sI Fr.rf (by decide) rfl
      refine ⟨_, rfl, f1.mono (by decide), fun d => by rw [gI_sI]; simp, ?_, hD.fr f1 (by decide) (by decide)⟩
      have : (fun d => if d = a then b else pr d) = pr := by
        funext d
        by_cases z : d = a
        · rw [if_pos z, z, e]
        · rw [if_neg z]
      rw [this]
      exact hS.fr f1 (by decide) (by decide) (by decide) (by decide)
    · rw [if_neg e]
      unfold m_X7_forget
      rw [lt_q, lt_q, bd1_q, bd1_q]
      have f1 : Fr [4, 8] M (sI (sI (sI M 4 a b) 8 5 0) 8 6 0) := Fr.sI (Fr.sI (Fr.sI Fr.rf (by decide) rfl) (by decide) rfl) (by decide) rfl
      refine ⟨_, rfl, f1, fun d => by rw [gI_sI, if_neg (by simp), gI_sI, if_neg (by simp), gI_sI]; simp, SwC.zero _ _ _ _ _ ?_ ?_, hD⟩
      · rw [gI_sI, if_neg (by simp), gI_sI, if_pos ⟨rfl, rfl⟩]
      · rw [gI_sI, if_pos ⟨rfl, rfl⟩]
  have hR1 := hR.fr f1 (by decide)
  have f2 : Fr [58] M1 (sI M1 58 a b) := Fr.sI Fr.rf (by decide) rfl
  have hyc1 := hyc M1 f1 h3
  refine ⟨pr a, M1, sI M1 58 a b, ?_, ?_, W, H, op, wa, _, hd, on, ts, tp, ln, sz, it, ⟨hyc1.fr f2 (by decide) (by decide) (by decide) (by decide), (hC.2.1.fr f1 (by unfold kp; intro k; simp; omega)).fr f2 (by unfold kp; intro k; simp; omega), (hC.2.2.1.fr f1 (by decide) (by decide)).fr f2 (by decide) (by decide), (hC.2.2.2.fr f1 (by unfold kp; intro k; simp; omega)).fr f2 (by unfold kp; intro k; simp; omega)⟩, ⟨⟨hR1.1.1.fr f2 (by decide) (by decide), fun d x y => ⟨(fI f2 (by decide) d).trans (hR1.1.2 d x y).1, ?_⟩⟩, hR1.2.1.fr f2 (by decide) (by decide), hR1.2.2.1.fr f2 (by decide) (by decide), hR1.2.2.2.fr f2 (by decide) (by decide) (by decide)⟩, hwf', hD1.fr f2 (by decide) (by decide), hS1.fr f2 (by decide) (by decide) (by decide) (by decide)⟩
  · rw [if_neg (by omega), if_neg (by omega), if_neg (by simp), if_pos ⟨s1, by omega⟩, lt_q]
    exact e1
  · rw [isBrick_s hR1.1.1 ha ha2, bd1_q, h, if_neg (by simp), bd1_q, if_neg (by simpa using hr), if_pos ⟨s1, by omega⟩, lt_q, (hR1.1.2 a s1 (by omega)).2]
  · rw [gI_sI]
    dsimp only
    by_cases e : d = a
    · rw [if_pos ⟨rfl, e⟩, if_pos e]
    · rw [if_neg (fun z => e z.2), if_neg e]; exact (hR1.1.2 d x y).2
