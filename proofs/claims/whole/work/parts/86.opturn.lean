/-! turn, turns -/
noncomputable def wf (hd : Int → Bool) (P : Prop) (a b : Int) : Int := if sfl hd a b = 0 then (if bp P = true then 0 else -2) else sfl hd a b
theorem wf_c {hd : Int → Bool} {P : Prop} {a b : Int} : (wf hd P a b = -1 ∧ ¬ (0 ≤ a ∧ a < 4 ∧ 0 ≤ b ∧ b < 4)) ∨ (wf hd P a b = -4 ∧ (0 ≤ a ∧ a < 4 ∧ 0 ≤ b ∧ b < 4) ∧ ¬ (hd a = true ∧ hd b = true)) ∨ (wf hd P a b = -2 ∧ (0 ≤ a ∧ a < 4 ∧ 0 ≤ b ∧ b < 4) ∧ (hd a = true ∧ hd b = true) ∧ ¬ P) ∨ (wf hd P a b = 0 ∧ (0 ≤ a ∧ a < 4 ∧ 0 ≤ b ∧ b < 4) ∧ (hd a = true ∧ hd b = true) ∧ P) := by
  unfold wf
  rcases sfl_c (hd := hd) (a := a) (b := b) with ⟨e, c⟩ | ⟨e, c, d⟩ | ⟨e, c, d1, d2⟩
  · rw [e, if_neg (by decide)]; exact Or.inl ⟨rfl, c⟩
  · rw [e, if_neg (by decide)]; exact Or.inr (Or.inl ⟨rfl, c, d⟩)
  · rw [e, if_pos rfl]
    by_cases z : P
    · rw [bp_t.mpr z]; exact Or.inr (Or.inr (Or.inr ⟨rfl, c, ⟨d1, d2⟩, z⟩))
    · rw [bp_f.mpr z]; exact Or.inr (Or.inr (Or.inl ⟨rfl, c, ⟨d1, d2⟩, z⟩))
theorem wholeFault_s {M : Mem} {W H : Int} {op : Int → Bool} {hd : Int → Bool} (hy : YC M W H op) (h : HDc M hd) {a b : Int} (ha : -2147483648 ≤ a) (ha2 : a ≤ 2147483647) (hb : -2147483648 ≤ b) (hb2 : b ≤ 2147483647) : ∃ M2, m_X11_wholeFault M a b = some (wf hd (Who W H op) a b, M2) ∧ Fr [25, 26, 27] M M2 := by
  unfold m_X11_wholeFault wf
  rw [slotsFault_s h ha ha2 hb hb2, bd1_q]
  rcases sfl_c (hd := hd) (a := a) (b := b) with ⟨e, c⟩ | ⟨e, c, d⟩ | ⟨e, c, d1, d2⟩
  · rw [e]; exact ⟨M, rfl, Fr.rf⟩
  · rw [e]; exact ⟨M, rfl, Fr.rf⟩
  · obtain ⟨M2, e2, f2⟩ := isWhole_s hy
    rw [e, e2, if_pos (by decide), bd2_q, lt_q, if_pos rfl]
    refine ⟨M2, ?_, f2⟩
    cases bp (Who W H op) <;> rfl
theorem refuses_s {M : Mem} {W H : Int} {op : Int → Bool} {hd : Int → Bool} (hy : YR M W H op) (h : HDr M hd) {a : Int} (a0 : 0 ≤ a) (a1 : a < 4) : ∃ M2, m_X12_refuses M a = some (wf hd (Who W H op) a a, M2) ∧ Fr [71, 72] M M2 := by
  unfold m_X12_refuses wf sfl
  rw [wr_id (x := a) (by omega) (by omega), if_pos (by omega), h a a0 a1, if_pos (c := 0 ≤ a ∧ a < 4 ∧ 0 ≤ a ∧ a < 4) (by omega)]
  simp only [wrb]
  cases hh : hd a
  · exact ⟨M, rfl, Fr.rf⟩
  · obtain ⟨M2, e2, f2⟩ := isWholeR_s hy
    rw [if_tf, e2, bd2_q]
    refine ⟨M2, ?_, f2⟩
    cases bp (Who W H op) <;> rfl
theorem HDr.fr {ks : List Nat} {M M2 : Mem} {hd : Int → Bool} (h : HDr M hd) (hF : Fr ks M M2) (h1 : 59 ∉ ks) : HDr M2 hd := fun s a b => (fI hF h1 s).trans (h s a b)
theorem op_turn {M : Mem} (hI : Inv M) {a x y : Int} (ha : -2147483648 ≤ a) (ha2 : a ≤ 2147483647) (hx : -2147483648 ≤ x) (hx2 : x ≤ 2147483647) (hy : -2147483648 ≤ y) (hy2 : y ≤ 2147483647) : OpI (fun M => m_X11_turn M a x y) (fun M => m_X12_turn M a x y) M := by
  have hI' := hI
  obtain ⟨W, H, op, wa, pr, hd, on, ts, tp, ln, sz, it, hA⟩ := hI'
  have hA' := hA
  obtain ⟨hC, hR, hwf, hD, hS⟩ := hA'
  have hW := hC.1.1.2.2.1
  have hW' := hW
  obtain ⟨a1, a2, a3, a4⟩ := hW'
  unfold OpI m_X11_turn m_X12_turn
  dsimp only
  rw [isSlot_s ha ha2, bd1_q, wr_id ha ha2, wr_id hx hx2, wr_id hy hy2, hC.1.1.1, hC.1.1.2.1, wr_id (x := W) (by omega) (by omega), wr_id (x := H) (by omega) (by omega)]
  simp only [wrb, isSlotR_s ha ha2, bd1_q]
  by_cases c1 : 0 ≤ a ∧ a < 4
  rotate_left
  · rw [decide_eq_false c1]
    exact ⟨-1, M, M, rfl, rfl, hI⟩
  rw [decide_eq_true c1]
  simp only [if_tf]
  have hin : ∀ M', RS M' W H op wa pr hd on ts tp ln sz it → m_X12_in (i2l x) 0 (i2l (gI M' 55 0)) = some (decide (0 ≤ x ∧ x ≤ W)) ∧ m_X12_in (i2l y) 0 (i2l (gI M' 55 1)) = some (decide (0 ≤ y ∧ y ≤ H)) := fun M' h => by
    rw [h.1.1.1, h.1.1.2.1, l_0]
    exact ⟨in_s hx hx2 (by omega) (by omega) (by omega) (by omega), in_s hy hy2 (by omega) (by omega) (by omega) (by omega)⟩
  by_cases c2 : 0 ≤ x ∧ x ≤ W
  rotate_left
  · refine ⟨-1, M, M, ?_, ?_, hI⟩
    · by_cases z : x < 0
      · rw [if_pos z]
      · rw [if_neg z, if_pos (by omega)]
    · rw [(hin M hR).1, bd1_q, decide_eq_false c2]; rfl
  by_cases c3 : 0 ≤ y ∧ y ≤ H
  rotate_left
  · refine ⟨-1, M, M, ?_, ?_, hI⟩
    · rw [if_neg (by omega), if_neg (by omega)]
      by_cases z : y < 0
      · rw [if_pos z]
      · rw [if_neg z, if_neg (by omega)]
    · rw [(hin M hR).1, bd1_q, decide_eq_true c2, (hin M hR).2, bd1_q, decide_eq_false c3]; rfl
  rw [if_neg (by omega), if_neg (by omega), if_neg (by omega), if_pos (by omega)]
  obtain ⟨M1, e1, f1⟩ := wholeFault_s hC.1.1 hC.2.1.1 ha ha2 ha ha2
  rw [e1, bd2_q]
  have hC1 := hC.fr f1 (by decide)
  have hR1 := hR.fr f1 (by decide)
  have hSm := hS.fr f1 (by decide) (by decide) (by decide) (by decide)
  have hDm := hD.fr f1 (by decide) (by decide)
  rcases wf_c (hd := hd) (P := Who W H op) (a := a) (b := a) with ⟨e, c⟩ | ⟨e, c, d⟩ | ⟨e, c, d, nw⟩ | ⟨e, c, d, w⟩
  · exact absurd ⟨c1.1, c1.2, c1⟩ c
  · obtain ⟨M2, e2, f2⟩ := refuses_s hR1.1.1 hR1.2.1.1 c1.1 c1.2
    refine ⟨-4, M1, M2, by rw [e]; rfl, ?_, W, H, op, wa, pr, hd, on, ts, tp, ln, sz, it, hA.quiet f1 f2 (by decide) (by decide)⟩
    rw [(hin M1 hR1).1, (hin M1 hR1).2, bd1_q, bd1_q, decide_eq_true c2, decide_eq_true c3, e2, bd2_q, e]; rfl
  · obtain ⟨M2, e2, f2⟩ := refuses_s hR1.1.1 hR1.2.1.1 c1.1 c1.2
    refine ⟨-2, M1, M2, by rw [e]; rfl, ?_, W, H, op, wa, pr, hd, on, ts, tp, ln, sz, it, hA.quiet f1 f2 (by decide) (by decide)⟩
    rw [(hin M1 hR1).1, (hin M1 hR1).2, bd1_q, bd1_q, decide_eq_true c2, decide_eq_true c3, e2, bd2_q, e]; rfl
  · have hp := hwf.2.1 a c1.1 c1.2 d.1
    rw [e, if_pos (by decide), if_pos c1, wayOfTurn_s hC1.1.1 hp (hC1.2.1.2 a c1.1 c1.2 d.1) c2.1 (by omega) c3.1 (by omega), bd1_q]
    by_cases t : wT W H op (on a) x y = -1
    · obtain ⟨M2, e2, f2⟩ := refuses_s hR1.1.1 hR1.2.1.1 c1.1 c1.2
      have hR2 := hR1.fr f2 (by decide)
      refine ⟨-2, M1, M2, by rw [t]; rfl, ?_, W, H, op, wa, pr, hd, on, ts, tp, ln, sz, it, hA.quiet f1 f2 (by decide) (by decide)⟩
      rw [(hin M1 hR1).1, (hin M1 hR1).2, bd1_q, bd1_q, decide_eq_true c2, decide_eq_true c3, e2, bd2_q, e, turnOf_s hR2.1.1 hp c1.1 c1.2 (hR2.2.1.2 a c1.1 c1.2 d.1) c2.1 (by omega) c3.1 (by omega), bd1_q, t]; rfl
    · obtain ⟨M2, e2, g2⟩ := makeTurn_s hC1.1.1 hp (a := 39 + 2 * a.toNat) (by omega) (hC1.2.1.2 a c1.1 c1.2 d.1) t
      have f2 := fr_X1_makeTurn e2
      have hR2 : YR M2 W H op ∧ HDr M2 hd ∧ ONr M2 W H op a (on a) := ⟨hR1.1.1.fr f2 (by simp; omega) (by simp; omega), hR1.2.1.1.fr f2 (by simp; omega), fun q hq => (fI f2 (by simp; omega) _).trans (hR1.2.1.2 a c1.1 c1.2 d.1 q hq)⟩
      have hwr : 0 ≤ wr (wT W H op (on a) x y) := by
        rcases wT_r (W := W) (H := H) (op := op) (p := on a) (x := x) (y := y) with q | q | q
        · exact absurd q t
        · rw [q]; decide
        · rw [q]; decide
      rw [if_pos hwr, e2, bd1_q]
      obtain ⟨M3, e3, f3⟩ := refuses_s hR2.1 hR2.2.1 c1.1 c1.2
      have hR3 : YR M3 W H op ∧ HDr M3 hd ∧ ONr M3 W H op a (on a) := ⟨hR2.1.fr f3 (by decide) (by decide), hR2.2.1.fr f3 (by decide), fun q hq => (fI f3 (by decide) _).trans (hR2.2.2 q hq)⟩
      obtain ⟨M4, e4, g4, k4⟩ := across_s hR3.1 hp c1.1 c1.2 hR3.2.2 t
      have f4 := fr_X12_across e4
      have f34 : Fr [60, 71, 72] M2 M4 := (f3.mono (by decide)).trans f4 (by decide)
      refine ⟨wT W H op (on a) x y, M2, M4, rfl, ?_, W, H, op, wa, pr, _, _, ts, tp, ln, sz, it, hA.slotS c1.1 c1.2 f1 (by decide) hDm hSm (f2.mono (by simp)) ?_ g2 f34 (by decide) (fun j _ _ _ => fI f34 (by decide) j) ?_ ?_ g4 (tP_pav hW hp t)⟩
      · rw [hR2.1.1, hR2.1.2.1, l_0, in_s hx hx2 (by omega) (by omega) (by omega) (by omega), in_s hy hy2 (by omega) (by omega) (by omega) (by omega), bd1_q, bd1_q, decide_eq_true c2, decide_eq_true c3, if_tf, if_tf, e3, bd2_q, e, if_pos (by decide), turnOf_s hR3.1 hp c1.1 c1.2 hR3.2.2 c2.1 (by omega) c3.1 (by omega), bd1_q, e4]
        unfold wR
        rw [if_neg t, if_neg, bd1_q]
        rcases wT_r (W := W) (H := H) (op := op) (p := on a) (x := x) (y := y) with q | q | q
        · exact absurd q t
        · rw [q]; decide
        · rw [q]; decide
      · rw [fI f2 (by simp), hC1.2.1.1 a c1.1 c1.2, d.1]; rfl
      · intro j hj
        rw [k4 j hj, fI f3 (by decide)]
      · rw [fI f34 (by decide), hR2.2.1 a c1.1 c1.2, d.1]; rfl
def fo {σ : Type} (st : σ → Int → σ) : Nat → σ → σ
  | 0, s => s
  | n + 1, s => st (fo st n s) n
theorem fo_s {σ : Type} (st : σ → Int → σ) {i : Int} (h : 0 ≤ i) (s : σ) : fo st (i + 1).toNat s = st (fo st i.toNat s) i := by
  rw [show (i + 1).toNat = i.toNat + 1 by omega]
  show st (fo st i.toNat s) (i.toNat : Int) = _
  rw [Int.toNat_of_nonneg h]
theorem fo_off {σ : Type} (st : σ → Int → σ) {i : Int} (h : 0 ≤ i) (s : σ) : ∀ n : Nat, (∀ k, i ≤ k → k < i + n → ∀ s, st s k = s) → fo st (i + n).toNat s = fo st i.toNat s := by
  intro n
  induction n with
  | zero => intro _; rw [show i + ((0 : Nat) : Int) = i by omega]
  | succ n ih =>
    intro hk
    rw [show i + ((n + 1 : Nat) : Int) = (i + n) + 1 by omega, fo_s st (by omega), hk (i + n) (by omega) (by omega)]
    exact ih (fun k a b => hk k a (by omega))
theorem fo_of2 {σ : Type} (st : σ → Int → σ) {i j : Int} (h : 0 ≤ i) (hij : i ≤ j) (s : σ) (hk : ∀ k, i ≤ k → k < j → ∀ s, st s k = s) : fo st j.toNat s = fo st i.toNat s := by
  have := fo_off st h s (j - i).toNat (fun k a b => hk k a (by omega))
  rw [show i + ((j - i).toNat : Int) = j by omega] at this
  exact this
def stN (W H : Int) (op : Int → Bool) (p : Int → Int) (way : Int) (a k : Int) : Int := a + bI (decide (wT W H op p (k % 9) (k / 9) = way))
theorem stN_off {W H : Int} {op : Int → Bool} {p : Int → Int} {way : Int} (hW : WHr W H) (hw : way ≠ -1) {k : Int} (h : ¬ (1 ≤ k % 9 ∧ k % 9 < W ∧ 1 ≤ k / 9 ∧ k / 9 < H)) (s : Int) : stN W H op p way s k = s := by
  unfold stN
  rw [wT_off hW h, decide_eq_false (fun q => hw q.symm)]
  show s + 0 = s
  omega
theorem turnsOfWay_s {M : Mem} {W H : Int} {op : Int → Bool} {p : Int → Int} (hy : YC M W H op) (hp : Pav W H op p) {a : Nat} (ha : ∀ q, iso W H op q = true → gI M (a + 1) q = p q) {way : Int} (hw : way = 0 ∨ way = 1) : m_X1_turnsOfWay M a way = some (fo (stN W H op p way) 81 0) := by
  have hW := hy.2.2.1
  obtain ⟨a1, a2, a3, a4⟩ := hW
  have hW := hy.2.2.1
  have hw1 : way ≠ -1 := by omega
  unfold m_X1_turnsOfWay
  obtain ⟨⟨u, z⟩, e, h⟩ := for_g (f := fun s => m_X1_turnsOfWay_L6 M a way s.1 s.2) 1 H (fun y s => s.2 = y ∧ s.1 = fo (stN W H op p way) (9 * y + 1).toNat 0) (fun r => r.1 = fo (stN W H op p way) 81 0) (by
    rintro y ⟨u, y'⟩ y0 y1 ⟨g0, g1⟩
    dsimp only at g0 g1
    subst g0
    left
    show ∃ s2, m_X1_turnsOfWay_L6 M a way u y' = _ ∧ _
    unfold m_X1_turnsOfWay_L6
    obtain ⟨⟨u2, z2⟩, e2, h2⟩ := for_g (f := fun s => m_X1_turnsOfWay_L18 M a way y' s.1 s.2) 1 W (fun x s => s.2 = x ∧ s.1 = fo (stN W H op p way) (9 * y' + x).toNat 0) (fun r => r.1 = fo (stN W H op p way) (9 * y' + W).toNat 0) (by
      rintro x ⟨v, x'⟩ x0 x1 ⟨k0, k1⟩
      dsimp only at k0 k1
      subst k0
      left
      show ∃ s2, m_X1_turnsOfWay_L18 M a way y' v x' = _ ∧ _
      unfold m_X1_turnsOfWay_L18
      rw [hy.1, wr_id (x := W) (by omega) (by omega), wr_id (x := x') (by omega) (by omega), if_neg (by omega), wayOfTurn_s hy hp ha (by omega) (by omega) (by omega) (by omega), bd1_q, lt_q]
      refine ⟨_, rfl, rfl, ?_⟩
      dsimp only
      rw [show 9 * y' + (x' + 1) = 9 * y' + x' + 1 by omega, fo_s _ (by omega), ← k1]
      unfold stN
      rw [show (9 * y' + x') % 9 = x' by omega, show (9 * y' + x') / 9 = y' by omega]
      rcases wT_r (W := W) (H := H) (op := op) (p := p) (x := x') (y := y') with q | q | q <;> rcases hw with q2 | q2 <;> rw [q, q2] <;> rfl) (by
      rintro ⟨v, x'⟩ ⟨k0, k1⟩
      dsimp only at k0 k1
      refine ⟨(v, x'), ?_, k1⟩
      show m_X1_turnsOfWay_L18 M a way y' v x' = _
      unfold m_X1_turnsOfWay_L18
      rw [hy.1, k0, if_pos (by omega)]) (by omega) (by omega) (s0 := (u, 1)) ⟨rfl, g1⟩
    dsimp only at h2
    rw [hy.2.1, wr_id (x := H) (by omega) (by omega), wr_id (x := y') (by omega) (by omega), if_neg (by omega), e2, bd2_q]
    refine ⟨_, rfl, rfl, ?_⟩
    dsimp only
    rw [h2]
    exact (fo_of2 _ (by omega) (by omega) 0 (fun k k0 k1 s => stN_off hW hw1 (by omega) s)).symm) (by
    rintro ⟨u, y'⟩ ⟨g0, g1⟩
    dsimp only at g0 g1
    refine ⟨(u, y'), ?_, ?_⟩
    · show m_X1_turnsOfWay_L6 M a way u y' = _
      unfold m_X1_turnsOfWay_L6
      rw [hy.2.1, g0, if_pos (by omega)]
    · dsimp only
      rw [g1]
      exact (fo_of2 (j := 81) _ (by omega) (by omega) 0 (fun k k0 k1 s => stN_off hW hw1 (by omega) s)).symm) (by omega) (by omega) (s0 := (0, 1)) ⟨rfl, (fo_of2 (i := 0) (j := 9 * 1 + 1) _ (by omega) (by omega) 0 (fun k k0 k1 s => stN_off hW hw1 (by omega) s)).symm⟩
  dsimp only at h
  rw [e, bd2_q, h]
theorem turnMany_s {M : Mem} {W H : Int} {op : Int → Bool} {p : Int → Int} (hy : YR M W H op) (hp : Pav W H op p) {s : Int} (s0 : 0 ≤ s) (s1 : s < 4) (ha : ∀ q, iso W H op q = true → gI M 60 (64 * s + q) = p q) {way : Int} (hw : way = 0 ∨ way = 1) : m_X12_turnMany M s way = some (fo (stN W H op p way) 81 0) := by
  unfold m_X12_turnMany
  obtain ⟨⟨u, z⟩, e, h⟩ := for_g (f := fun s' => m_X12_turnMany_L5 M s way s'.1 s'.2) 0 81 (fun k s => s.2 = k ∧ s.1 = fo (stN W H op p way) k.toNat 0) (fun r => r.1 = fo (stN W H op p way) 81 0) (by
    rintro k ⟨u, k'⟩ k0 k1 ⟨g0, g1⟩
    dsimp only at g0 g1
    subst g0
    left
    show ∃ s2, m_X12_turnMany_L5 M s way u k' = _ ∧ _
    unfold m_X12_turnMany_L5
    rw [show wr 81 = 81 by decide, wr_id (x := k') (by omega) (by omega), if_neg (by omega), irm_p k0 (by omega) (by omega) (by omega), idv_p k0 (by omega) (by omega) (by omega), turnOf_s hy hp s0 s1 ha (by omega) (by omega) (by omega) (by omega), bd1_q, lt_q]
    refine ⟨_, rfl, rfl, ?_⟩
    dsimp only
    rw [fo_s _ k0, ← g1]
    unfold stN wR
    rcases wT_r (W := W) (H := H) (op := op) (p := p) (x := k' % 9) (y := k' / 9) with q | q | q <;> rcases hw with q2 | q2 <;> rw [q, q2] <;> rfl) (by
    rintro ⟨u, k'⟩ ⟨g0, g1⟩
    dsimp only at g0 g1
    refine ⟨(u, k'), ?_, g1⟩
    show m_X12_turnMany_L5 M s way u k' = _
    unfold m_X12_turnMany_L5
    rw [g0, if_pos (by decide)]) (by omega) (by omega) (s0 := (0, 0)) ⟨rfl, rfl⟩
  dsimp only at h
  rw [e, bd2_q, h]
theorem op_turns {M : Mem} (hI : Inv M) {a way : Int} (ha : -2147483648 ≤ a) (ha2 : a ≤ 2147483647) (hw : -2147483648 ≤ way) (hw2 : way ≤ 2147483647) : OpI (fun M => m_X11_turns M a way) (fun M => m_X12_turns M a way) M := by
  have hI' := hI
  obtain ⟨W, H, op, wa, pr, hd, on, ts, tp, ln, sz, it, hA⟩ := hI'
  have hA' := hA
  obtain ⟨hC, hR, hwf, hD, hS⟩ := hA'
  unfold OpI m_X11_turns m_X12_turns
  dsimp only
  rw [isSlot_s ha ha2, bd1_q, wr_id ha ha2, wr_id hw hw2, show wr 1 = 1 by decide, l_0, l_1]
  simp only [wrb, isSlotR_s ha ha2, bd1_q, in_s hw hw2 (show (-2147483648 : Int) ≤ 0 by omega) (by omega) (show (-2147483648 : Int) ≤ 1 by omega) (by omega)]
  by_cases c1 : 0 ≤ a ∧ a < 4
  rotate_left
  · rw [decide_eq_false c1]
    exact ⟨-1, M, M, rfl, rfl, hI⟩
  rw [decide_eq_true c1]
  simp only [if_tf]
  by_cases c2 : 0 ≤ way ∧ way ≤ 1
  rotate_left
  · rw [if_neg (by omega), if_neg (by omega), decide_eq_false c2]
    exact ⟨-1, M, M, rfl, rfl, hI⟩
  rw [decide_eq_true c2]
  have hcond : way = 0 ∨ way = 1 := by omega
  have hb : ∀ X : Option (Int × Mem), (if way = 0 then X else if way = 1 then X else some (-1, M)) = X := fun X => by
    rcases hcond with z | z
    · rw [if_pos z]
    · rw [if_neg (by omega), if_pos z]
  rw [hb]
  obtain ⟨M1, e1, f1⟩ := wholeFault_s hC.1.1 hC.2.1.1 ha ha2 ha ha2
  have hC1 := hC.fr f1 (by decide)
  have hR1 := hR.fr f1 (by decide)
  obtain ⟨M2, e2, f2⟩ := refuses_s hR1.1.1 hR1.2.1.1 c1.1 c1.2
  have hR2 := hR1.fr f2 (by decide)
  rw [e1, bd2_q]
  rcases wf_c (hd := hd) (P := Who W H op) (a := a) (b := a) with ⟨e, c⟩ | ⟨e, c, d⟩ | ⟨e, c, d, nw⟩ | ⟨e, c, d, w⟩
  · exact absurd ⟨c1.1, c1.2, c1⟩ c
  · refine ⟨-4, M1, M2, by rw [e]; rfl, ?_, W, H, op, wa, pr, hd, on, ts, tp, ln, sz, it, hA.quiet f1 f2 (by decide) (by decide)⟩
    rw [if_tf, e2, bd2_q, e]; rfl
  · refine ⟨-2, M1, M2, by rw [e]; rfl, ?_, W, H, op, wa, pr, hd, on, ts, tp, ln, sz, it, hA.quiet f1 f2 (by decide) (by decide)⟩
    rw [if_tf, e2, bd2_q, e]; rfl
  · have hp := hwf.2.1 a c1.1 c1.2 d.1
    refine ⟨fo (stN W H op (on a) way) 81 0, M1, M2, ?_, ?_, W, H, op, wa, pr, hd, on, ts, tp, ln, sz, it, hA.quiet f1 f2 (by decide) (by decide)⟩
    · rw [e, if_pos (by decide), if_pos c1, turnsOfWay_s hC1.1.1 hp (hC1.2.1.2 a c1.1 c1.2 d.1) hcond]; rfl
    · rw [if_tf, e2, bd2_q, e, if_pos (by decide), turnMany_s hR2.1.1 hp c1.1 c1.2 (hR2.2.1.2 a c1.1 c1.2 d.1) hcond]; rfl
