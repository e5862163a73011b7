/-! item, copy, lay -/
def itv (l v : Int) : Int := if l = 0 then (if v = 0 then 0 else 1) else if l = 1 then i2b v else v
theorem i2b_r (v : Int) : -2147483648 ≤ i2b v ∧ i2b v ≤ 2147483647 := by
  unfold i2b
  have h1 := Int32.le_toInt ((Int32.ofInt v).toInt8.toInt32)
  have h2 := Int32.toInt_lt ((Int32.ofInt v).toInt8.toInt32)
  omega
theorem itv_r {l v : Int} (h1 : -2147483648 ≤ v) (h2 : v ≤ 2147483647) : -2147483648 ≤ itv l v ∧ itv l v ≤ 2147483647 := by
  unfold itv
  have := i2b_r v
  repeat' split
  all_goals omega
theorem op_item {M : Mem} (hI : Inv M) {a l i v : Int} (ha : -2147483648 ≤ a) (ha2 : a ≤ 2147483647) (hl : -2147483648 ≤ l) (hl2 : l ≤ 2147483647) (hi : -2147483648 ≤ i) (hi2 : i ≤ 2147483647) (hv : -2147483648 ≤ v) (hv2 : v ≤ 2147483647) : OpI (fun M => m_X11_item M a l i v) (fun M => m_X12_item M a l i v) M := by
  have hI' := hI
  obtain ⟨W, H, op, wa, pr, hd, on, ts, tp, ln, sz, it, hA⟩ := hI'
  have hA' := hA
  obtain ⟨hC, hR, hwf, hD, hS⟩ := hA'
  unfold OpI m_X11_item m_X12_item
  dsimp only
  rw [isSheet_s ha ha2, isSheetR_s ha ha2, isLane_s hl hl2, isLaneR_s hl hl2, wr_id ha ha2, wr_id hi hi2, wr_id hl hl2, wr_id hv hv2]
  simp only [wrb, bd1_q]
  by_cases c1 : 0 ≤ a ∧ a < 4
  case neg =>
    rw [decide_eq_false c1]
    exact ⟨-1, M, M, rfl, rfl, hI⟩
  by_cases c2 : 0 ≤ l ∧ l < 3
  case neg =>
    rw [decide_eq_true c1, decide_eq_false c2]
    exact ⟨-1, M, M, rfl, rfl, hI⟩
  rw [decide_eq_true c1, decide_eq_true c2, sheetFault_s hC.2.2.2 hwf.2.2.2 c1.1 c1.2 (wr_id (by omega) (by omega))]
  simp only [if_tf, if_pos c1, bd1_q]
  obtain ⟨w1, w2, w3, w4, w5⟩ := hwf.2.2.2 a c1.1 c1.2
  obtain ⟨p1, p2, p3, p4⟩ := hC.2.2.2 a c1.1 c1.2
  obtain ⟨r1, r2, r3⟩ := hR.2.2.2 a c1.1 c1.2
  by_cases c3 : ln a < 0
  · refine ⟨-11, M, M, ?_, ?_, hI⟩
    · rw [if_pos c3]; rfl
    · rw [finds_s hR.2.2.2 hwf.2.2.2 c1.1 c1.2 (wr_id (by omega) (by omega)) hi hi2 (by omega) (by omega), bd1_q]
      unfold fnd
      rw [if_pos c3]; rfl
  rw [if_neg c3]
  by_cases c4 : ln a = l
  case neg =>
    refine ⟨-12, M, M, ?_, ?_, hI⟩
    · rw [if_pos c4]; rfl
    · rw [finds_s hR.2.2.2 hwf.2.2.2 c1.1 c1.2 (wr_id (by omega) (by omega)) hi hi2 (by omega) (by omega), bd1_q]
      unfold fnd
      rw [if_neg c3, if_pos c4]; rfl
  rw [if_neg (c := ln a ≠ l) (fun z => z c4), p3, wr_id (x := sz a) (by omega) (by omega), if_pos (c := 0 ≤ wr 0) (by decide)]
  by_cases c5 : 0 ≤ i ∧ i < sz a
  case neg =>
    refine ⟨-13, M, M, ?_, ?_, hI⟩
    · by_cases z : i < 0
      · rw [if_pos z]
      · rw [if_neg z, if_neg (by omega)]
    · rw [finds_s hR.2.2.2 hwf.2.2.2 c1.1 c1.2 (wr_id (by omega) (by omega)) hi hi2 (by omega) (by omega), bd1_q]
      unfold fnd
      rw [if_neg c3, if_neg (c := ln a ≠ l) (fun z => z c4), if_pos (c := i < 0 ∨ sz a < i + 1) (by omega)]; rfl
  rw [if_neg (by omega), if_pos (by omega)]
  have e1 : m_X6_put M (47 + 2 * a.toNat) i v = some (sI M (47 + 2 * a.toNat + 1) i (itv l v)) := by
    unfold m_X6_put itv
    rw [p2 (by omega), wr_id (x := ln a) (by omega) (by omega), wr_id (x := i) hi hi2, wr_id hv hv2, show wr 1 = 1 by decide, c4]
    simp only [lt_q, if_pos (show 0 ≤ i ∧ i < 64 by omega)]
    by_cases z : l = 0
    · rw [if_pos z, if_pos z, bd1_q]
      by_cases y : v = 0
      · rw [if_pos y]; rfl
      · rw [if_neg y]; rfl
    · rw [if_neg z, if_neg z, bd1_q]
  have f1 := fr_X6_put e1
  have f1' : Fr [47 + 2 * a.toNat + 1, 47 + 2 * a.toNat] M (sI M (47 + 2 * a.toNat + 1) i (itv l v)) := f1.mono (by simp)
  have hr1 := hR.2.2.2.fr f1' (by simp; omega) (by simp; omega) (by simp; omega)
  refine ⟨1, _, sI (sI M (47 + 2 * a.toNat + 1) i (itv l v)) 78 (64 * a + i) (itv l v), by rw [e1, bd1_q], ?_, W, H, op, wa, pr, hd, on, ts, tp, up1 ln a (ln a), up1 sz a (sz a), up1 it a (up1 (it a) i (itv l v)), hA.sheet c1.1 c1.2 f1' (hC.2.2.2.upd c1.1 f1' ?_ (fun z => ?_) ?_ (fun j x y => ?_)) (ks := [78]) (Fr.sI Fr.rf (by decide) rfl) (by decide) (hr1.upd ?_ ?_ ?_ ?_ ?_) (hwf.2.2.2.upd (by omega) (by omega) w3 w4 (fun j x y => ?_))⟩
  · rw [finds_s hr1 hwf.2.2.2 c1.1 c1.2 (wr_id (by omega) (by omega)) hi hi2 (by omega) (by omega), bd1_q]
    unfold fnd
    rw [if_neg c3, if_neg (c := ln a ≠ l) (fun z => z c4), if_neg (c := i < 0 ∨ sz a < i + 1) (by omega), if_pos (c := 0 ≤ wr 0) (by decide), lt_q, wr_id (x := 64 * a + i) (by omega) (by omega), if_pos (c := 0 ≤ 64 * a + i ∧ 64 * a + i < 256) (by omega), lt_q, show wr 1 = 1 by decide]
    rfl
  · rw [gI_sI, if_neg (by simp)]; exact p1
  · rw [gI_sI, if_neg (by simp)]; exact p2 z
  · rw [gI_sI, if_neg (by simp)]; exact p3
  · rw [gI_sI]
    unfold up1
    by_cases e : j = i
    · rw [if_pos ⟨rfl, e⟩, if_pos e]
    · rw [if_neg (fun z => e z.2), if_neg e]; exact p4 j x y
  · intro j j0 j1 e
    exact ⟨by rw [gI_sI, if_neg (by simp)], by rw [gI_sI, if_neg (by simp)]⟩
  · intro j x
    rw [gI_sI, if_neg (fun z => x (by omega))]
  · rw [gI_sI, if_neg (by simp), fI f1' (by simp; omega)]; exact r1
  · rw [gI_sI, if_neg (by simp), fI f1' (by simp; omega)]; exact r2
  · intro j x y
    rw [gI_sI]
    unfold up1
    by_cases e : j = i
    · rw [if_pos ⟨rfl, by rw [e]⟩, if_pos e]
    · rw [if_neg (fun z => e (by omega)), if_neg e, fI f1' (by simp; omega)]; exact r3 j x y
  · unfold up1
    by_cases e : j = i
    · rw [if_pos e]; exact itv_r hv hv2
    · rw [if_neg e]; exact w5 j x y
theorem hasStretch_s {M : Mem} {ln sz : Int → Int} {it : Int → Int → Int} (h : SHc M ln sz it) (hw : WFh ln sz it) {a i n : Int} (a0 : 0 ≤ a) (a1 : a < 4) (hi : -2147483648 ≤ i) (hi2 : i ≤ 2147483647) (hn : -2147483648 ≤ n) (hn2 : n ≤ 2147483647) : m_X6_hasStretch M (47 + 2 * a.toNat) i n = some (decide (0 ≤ i ∧ 0 ≤ n ∧ i + n ≤ sz a)) := by
  obtain ⟨w1, w2, w3, w4, w5⟩ := hw a a0 a1
  obtain ⟨q1, q2, q3, q4⟩ := h a a0 a1
  unfold m_X6_hasStretch
  rw [q3, wr_id hi hi2, wr_id hn hn2, wr_id (x := sz a) (by omega) (by omega), lt_q]
  by_cases c1 : i < 0
  · rw [if_pos c1, decide_eq_false (p := 0 ≤ i ∧ 0 ≤ n ∧ i + n ≤ sz a) (by omega)]; rfl
  rw [if_neg c1]
  by_cases c2 : n < 0
  · rw [if_pos c2, decide_eq_false (p := 0 ≤ i ∧ 0 ≤ n ∧ i + n ≤ sz a) (by omega)]; rfl
  rw [if_neg c2]
  by_cases c3 : sz a < n
  · rw [if_pos c3, decide_eq_false (p := 0 ≤ i ∧ 0 ≤ n ∧ i + n ≤ sz a) (by omega)]; rfl
  rw [if_neg c3, wr_id (x := sz a - n) (by omega) (by omega)]
  by_cases c4 : sz a - n < i
  · rw [if_pos c4, decide_eq_false (p := 0 ≤ i ∧ 0 ≤ n ∧ i + n ≤ sz a) (by omega)]; rfl
  · rw [if_neg c4, decide_eq_true (p := 0 ≤ i ∧ 0 ≤ n ∧ i + n ≤ sz a) (by omega)]; rfl
theorem op_copy {M : Mem} (hI : Inv M) {a i b j n : Int} (ha : -2147483648 ≤ a) (ha2 : a ≤ 2147483647) (hi : -2147483648 ≤ i) (hi2 : i ≤ 2147483647) (hb : -2147483648 ≤ b) (hb2 : b ≤ 2147483647) (hj : -2147483648 ≤ j) (hj2 : j ≤ 2147483647) (hn : -2147483648 ≤ n) (hn2 : n ≤ 2147483647) : OpI (fun M => m_X11_copy M a i b j n) (fun M => m_X12_copy M a i b j n) M := by
  have hI' := hI
  obtain ⟨W, H, op, wa, pr, hd, on, ts, tp, ln, sz, it, hA⟩ := hI'
  have hA' := hA
  obtain ⟨hC, hR, hwf, hD, hS⟩ := hA'
  unfold OpI m_X11_copy m_X12_copy
  dsimp only
  rw [isSheet_s ha ha2, isSheetR_s ha ha2, isSheet_s hb hb2, isSheetR_s hb hb2, wr_id ha ha2, wr_id hb hb2, wr_id hi hi2, wr_id hj hj2, wr_id hn hn2]
  simp only [wrb, bd1_q]
  by_cases c1 : 0 ≤ a ∧ a < 4
  case neg =>
    rw [decide_eq_false c1]
    exact ⟨-1, M, M, rfl, rfl, hI⟩
  by_cases c2 : 0 ≤ b ∧ b < 4
  case neg =>
    rw [decide_eq_true c1, decide_eq_false c2]
    exact ⟨-1, M, M, rfl, rfl, hI⟩
  rw [decide_eq_true c1, decide_eq_true c2]
  simp only [if_tf, if_pos c1, if_pos c2]
  obtain ⟨w1, w2, w3, w4, w5⟩ := hwf.2.2.2 a c1.1 c1.2
  obtain ⟨p1, p2, p3, p4⟩ := hC.2.2.2 a c1.1 c1.2
  obtain ⟨r1, r2, r3⟩ := hR.2.2.2 a c1.1 c1.2
  obtain ⟨v1, v2, v3, v4, v5⟩ := hwf.2.2.2 b c2.1 c2.2
  obtain ⟨o1, o2, o3, o4⟩ := hC.2.2.2 b c2.1 c2.2
  obtain ⟨t1, t2, t3⟩ := hR.2.2.2 b c2.1 c2.2
  rw [p1, o1, hasStretch_s hC.2.2.2 hwf.2.2.2 c1.1 c1.2 hi hi2 hn hn2, hasStretch_s hC.2.2.2 hwf.2.2.2 c2.1 c2.2 hj hj2 hn hn2, bd1_q, bd1_q]
  simp only [wrb]
  by_cases c3 : 0 ≤ ln a
  case neg =>
    refine ⟨-11, M, M, by rw [decide_eq_false c3, if_ff], ?_, hI⟩
    rw [r1, wr_id (x := ln a) (by omega) (by omega), if_pos (by omega)]
  rw [decide_eq_true c3, if_tf]
  by_cases c4 : 0 ≤ ln b
  case neg =>
    refine ⟨-11, M, M, by rw [decide_eq_false c4, if_ff], ?_, hI⟩
    rw [r1, t1, wr_id (x := ln a) (by omega) (by omega), wr_id (x := ln b) (by omega) (by omega), if_neg (by omega), if_neg c4]
  rw [decide_eq_true c4, if_tf, p2 c3, o2 c4, wr_id (x := ln a) (by omega) (by omega), wr_id (x := ln b) (by omega) (by omega)]
  by_cases c5 : ln a = ln b
  case neg =>
    refine ⟨-12, M, M, by rw [if_neg c5], ?_, hI⟩
    rw [r1, t1, wr_id (x := ln a) (by omega) (by omega), wr_id (x := ln b) (by omega) (by omega), if_neg (by omega), if_pos c4, if_neg c5]
  rw [if_pos c5]
  have q1 := finds_s hR.2.2.2 hwf.2.2.2 (lane := ln a) c1.1 c1.2 (wr_id (by omega) (by omega)) hi hi2 hn hn2
  have q2 := finds_s hR.2.2.2 hwf.2.2.2 (lane := ln b) c2.1 c2.2 (wr_id (by omega) (by omega)) hj hj2 hn hn2
  unfold fnd at q1 q2
  rw [if_neg (by omega), if_neg (fun z => z rfl)] at q1 q2
  by_cases c6 : 0 ≤ i ∧ 0 ≤ n ∧ i + n ≤ sz a
  case neg =>
    refine ⟨-13, M, M, by rw [decide_eq_false c6, if_ff], ?_, hI⟩
    rw [r1, t1, wr_id (x := ln a) (by omega) (by omega), wr_id (x := ln b) (by omega) (by omega), if_neg (by omega), if_pos c4, if_pos c5]
    by_cases z : n < 0
    · rw [if_pos z]
    · rw [if_neg z, q1, bd1_q, if_pos (c := i < 0 ∨ sz a < i + n) (by omega), if_pos (by decide)]
  rw [decide_eq_true c6, if_tf]
  rw [if_neg (by omega)] at q1
  by_cases c7 : 0 ≤ j ∧ 0 ≤ n ∧ j + n ≤ sz b
  case neg =>
    refine ⟨-13, M, M, by rw [decide_eq_false c7, if_ff], ?_, hI⟩
    rw [r1, t1, wr_id (x := ln a) (by omega) (by omega), wr_id (x := ln b) (by omega) (by omega), if_neg (by omega), if_pos c4, if_pos c5, if_neg (by omega), q1, bd1_q, if_neg (by decide), q2, bd1_q, if_pos (c := j < 0 ∨ sz b < j + n) (by omega), if_neg (by decide)]
  rw [decide_eq_true c7, if_tf, if_pos (by omega), lt_q]
  have f1 : Fr [47 + 2 * b.toNat + 1, 47 + 2 * b.toNat] M (cpI M (47 + 2 * a.toNat + 1) i (47 + 2 * b.toNat + 1) j n) := Fr.cpI Fr.rf (by simp) rfl
  generalize hM1 : cpI M (47 + 2 * a.toNat + 1) i (47 + 2 * b.toNat + 1) j n = M1 at f1 ⊢
  have hr1 := hR.2.2.2.fr f1 (by simp; omega) (by simp; omega) (by simp; omega)
  have q1 := finds_s hr1 hwf.2.2.2 (lane := ln a) c1.1 c1.2 (wr_id (by omega) (by omega)) hi hi2 hn hn2
  have q2 := finds_s hr1 hwf.2.2.2 (lane := ln b) c2.1 c2.2 (wr_id (by omega) (by omega)) hj hj2 hn hn2
  unfold fnd at q1 q2
  rw [if_neg (by omega), if_neg (fun z => z rfl), if_neg (by omega)] at q1 q2
  obtain ⟨r1, r2, r3⟩ := hr1 a c1.1 c1.2
  obtain ⟨t1, t2, t3⟩ := hr1 b c2.1 c2.2
  obtain ⟨M2, e2, k2⟩ := for_M (f := fun s => m_X12_copy_L101 s.2 a i b j n s.1) 0 n (fun x M' => (∀ y, 0 ≤ y → y < x → gI M' 79 y = it a (i + y)) ∧ Fr [79] M1 M') (fun x M' h1 h2 hI => by
    show ∃ M2, m_X12_copy_L101 M' a i b j n x = _ ∧ _
    unfold m_X12_copy_L101
    rw [wr_id hn hn2, wr_id (x := x) (by omega) (by omega), if_neg (by omega), wr_id (x := 64 * a + i + x) (by omega) (by omega), if_pos (by omega), if_pos (by omega), lt_q, fI hI.2 (by decide), Int.add_assoc, r3 (i + x) (by omega) (by omega)]
    refine ⟨_, rfl, fun y y0 y1 => ?_, hI.2.sI (by decide) rfl⟩
    rw [gI_sI]
    by_cases e : y = x
    · rw [if_pos ⟨rfl, e⟩, e]
    · rw [if_neg (fun z => e z.2)]; exact hI.1 y y0 (by omega)) (fun M' hI => by
    show m_X12_copy_L101 M' a i b j n n = _
    unfold m_X12_copy_L101
    rw [if_pos (by omega)]) (by omega) (by omega) (M0 := M1) ⟨fun j x y => by omega, Fr.rf⟩
  obtain ⟨M3, e3, k3⟩ := for_M (f := fun s => m_X12_copy_L138 s.2 b j n s.1) 0 n (fun x M' => (∀ y, 0 ≤ y → y < x → gI M' 78 (64 * b + j + y) = it a (i + y)) ∧ (∀ y, ¬ (64 * b + j ≤ y ∧ y < 64 * b + j + n) → gI M' 78 y = gI M1 78 y) ∧ (∀ y, 0 ≤ y → y < n → gI M' 79 y = it a (i + y)) ∧ Fr [78, 79] M1 M') (fun x M' h1 h2 hI => by
    show ∃ M2, m_X12_copy_L138 M' b j n x = _ ∧ _
    unfold m_X12_copy_L138
    rw [wr_id hn hn2, wr_id (x := x) (by omega) (by omega), if_neg (by omega), wr_id (x := 64 * b + j + x) (by omega) (by omega), if_pos (by omega), if_pos (by omega), lt_q, hI.2.2.1 x h1 h2]
    refine ⟨_, rfl, fun y y0 y1 => ?_, fun y y0 => ?_, fun y y0 y1 => ?_, hI.2.2.2.sI (by decide) rfl⟩
    · rw [gI_sI]
      by_cases e : y = x
      · rw [if_pos ⟨rfl, by rw [e]⟩, e]
      · rw [if_neg (fun z => e (by omega))]; exact hI.1 y y0 (by omega)
    · rw [gI_sI, if_neg (by omega)]; exact hI.2.1 y y0
    · rw [gI_sI, if_neg (by simp)]; exact hI.2.2.1 y y0 y1) (fun M' hI => by
    show m_X12_copy_L138 M' b j n n = _
    unfold m_X12_copy_L138
    rw [if_pos (by omega)]) (by omega) (by omega) (M0 := M2) ⟨fun j x y => by omega, fun y _ => fI k2.2 (by decide) y, k2.1, k2.2.mono (by decide)⟩
  refine ⟨n, M1, M3, rfl, ?_, W, H, op, wa, pr, hd, on, ts, tp, up1 ln b (ln b), up1 sz b (sz b), up1 it b (fun y => if j ≤ y ∧ y < j + n then it a (i + (y - j)) else it b y), hA.sheet c2.1 c2.2 f1 (hC.2.2.2.upd c2.1 f1 ?_ (fun z => ?_) ?_ (fun y x1 x2 => ?_)) (ks := [78, 79]) k3.2.2.2 (by decide) (hr1.upd ?_ ?_ ?_ ?_ ?_) (hwf.2.2.2.upd (by omega) (by omega) v3 v4 (fun y x1 x2 => ?_))⟩
  · rw [r1, t1, wr_id (x := ln a) (by omega) (by omega), wr_id (x := ln b) (by omega) (by omega), if_neg (by omega), if_pos c4, if_pos c5, if_neg (by omega), q1, bd1_q, if_neg (by decide), q2, bd1_q, if_pos (by decide), e2, bd2_q, e3, bd2_q]
  · rw [← hM1, gI_cpI, if_neg (by simp)]; exact o1
  · rw [← hM1, gI_cpI, if_neg (by simp)]; exact o2 z
  · rw [← hM1, gI_cpI, if_neg (by simp)]; exact o3
  · rw [← hM1, gI_cpI]
    by_cases e : j ≤ y ∧ y < j + n
    · rw [if_pos ⟨rfl, e⟩, if_pos e]; exact p4 _ (by omega) (by omega)
    · rw [if_neg (fun z => e z.2), if_neg e]; exact o4 y x1 x2
  · intro y j0 j1 e
    exact ⟨fI k3.2.2.2 (by decide) y, fI k3.2.2.2 (by decide) y⟩
  · intro y x
    exact k3.2.1 y (by omega)
  · rw [fI k3.2.2.2 (by decide)]; exact t1
  · rw [fI k3.2.2.2 (by decide)]; exact t2
  · intro y x1 x2
    by_cases e : j ≤ y ∧ y < j + n
    · rw [if_pos e]
      have := k3.1 (y - j) (by omega) (by omega)
      rw [show 64 * b + j + (y - j) = 64 * b + y by omega] at this
      exact this
    · rw [if_neg e, k3.2.1 _ (by omega)]; exact t3 y x1 x2
  · by_cases e : j ≤ y ∧ y < j + n
    · rw [if_pos e]; exact w5 _ (by omega) (by omega)
    · rw [if_neg e]; exact v5 y x1 x2
