/-! heights: the class -/
theorem canGo_s {M : Mem} {W H : Int} {op : Int → Bool} {p : Int → Int} (hW : WHr W H) (hp : Pav W H op p) {a : Nat} (ha : ∀ q, iso W H op q = true → gI M (a + 1) q = p q) {x y x' y' : Int} : m_X1_canGoBetween M a (oAt W H op x y) (oAt W H op x' y') = some (bp ((opn W H op x y = true ∨ opn W H op x' y' = true) ∧ ¬ sam W H op p x y x' y')) := by
  have fin : ∀ v : Bool, (if (bI v) = 0 ∨ (bI v) = 1 then some (decide ((bI v) = 1)) else none) = some v := fun v => by cases v <;> rfl
  unfold m_X1_canGoBetween
  by_cases o1 : opn W H op x y = true
  · obtain ⟨i1, -, -⟩ := opn_i hW o1
    have r1 := iso_r hW i1
    have e1 : oAt W H op x y = y * W + x := by unfold oAt; rw [if_pos o1]
    by_cases o2 : opn W H op x' y' = true
    · obtain ⟨i2, -, -⟩ := opn_i hW o2
      have r2 := iso_r hW i2
      have e2 : oAt W H op x' y' = y' * W + x' := by unfold oAt; rw [if_pos o2]
      have s1 := stn_t hW (hp _ i1).1
      have s2 := stn_t hW (hp _ i2).1
      have h8 := WH_le hW
      rw [e1, e2, wr_id (x := y * W + x) (by omega) (by omega), wr_id (x := y' * W + x') (by omega) (by omega), if_neg (by omega), if_pos (by omega), if_pos (by omega), if_pos (by omega), ha _ i1, ha _ i2, wr_id (x := p (y * W + x)) (by omega) (by omega), wr_id (x := p (y' * W + x')) (by omega) (by omega), lt_q]
      by_cases z : p (y * W + x) = p (y' * W + x')
      · have : bp ((opn W H op x y = true ∨ opn W H op x' y' = true) ∧ ¬ sam W H op p x y x' y') = false := bp_f.mpr (fun q => q.2 ⟨o1, o2, z⟩)
        rw [if_pos z, this]; rfl
      · have : bp ((opn W H op x y = true ∨ opn W H op x' y' = true) ∧ ¬ sam W H op p x y x' y') = true := bp_t.mpr ⟨Or.inl o1, fun q => z q.2.2⟩
        rw [if_neg z, this]; rfl
    · have e2 : oAt W H op x' y' = -1 := by unfold oAt; rw [if_neg o2]
      have : bp ((opn W H op x y = true ∨ opn W H op x' y' = true) ∧ ¬ sam W H op p x y x' y') = true := bp_t.mpr ⟨Or.inl o1, fun q => o2 q.2.1⟩
      rw [e1, e2, wr_id (x := y * W + x) (by omega) (by omega), if_neg (by omega), if_neg (c := 0 ≤ wr (-1)) (by decide), if_pos (by omega), lt_q, this]; rfl
  · have e1 : oAt W H op x y = -1 := by unfold oAt; rw [if_neg o1]
    rw [e1, if_pos (by decide), if_neg (by decide), lt_q]
    have hb := b01 (op := op) hW x' y'
    rw [hb, fin]
    congr 1
    apply bx
    rw [bp_t]
    exact ⟨fun q => ⟨Or.inr q, fun z => o1 z.1⟩, fun q => q.1.resolve_left o1⟩
theorem stepEast_s {M : Mem} {W H : Int} {op : Int → Bool} {p : Int → Int} (hy : YC M W H op) (hp : Pav W H op p) {a : Nat} (ha : ∀ q, iso W H op q = true → gI M (a + 1) q = p q) {x y : Int} (x0 : -1 ≤ x) (x1 : x ≤ 9) (y0 : -1 ≤ y) (y1 : y ≤ 9) : m_X1_stepEast M a x y = some (stE W H op p x y) := by
  have hW := hy.2.2.1
  unfold m_X1_stepEast stE
  rw [openAt_g hy (x := x) (y := y - 1) (by omega) (by omega) (by omega) (by omega), openAt_g hy (x := x) (y := y) (by omega) (by omega) (by omega) (by omega), bd1_q, bd1_q, canGo_s hW hp ha, bd1_q]
  simp only [wrb]
  by_cases z : alE W H op p x y
  · have hr := alE_r z
    have : bp ((opn W H op x (y - 1) = true ∨ opn W H op x y = true) ∧ ¬ sam W H op p x (y - 1) x y) = true := bp_t.mpr z
    rw [this, if_tf, if_pos (bp_t.mpr z), iand1 (by omega) (by omega), wr_id (x := (x + y) % 2) (by omega) (by omega), lt_q]
    rfl
  · have : bp ((opn W H op x (y - 1) = true ∨ opn W H op x y = true) ∧ ¬ sam W H op p x (y - 1) x y) = false := bp_f.mpr z
    rw [this, if_ff, if_neg (fun q => z (bp_t.mp q))]
theorem stepSouth_s {M : Mem} {W H : Int} {op : Int → Bool} {p : Int → Int} (hy : YC M W H op) (hp : Pav W H op p) {a : Nat} (ha : ∀ q, iso W H op q = true → gI M (a + 1) q = p q) {x y : Int} (x0 : -1 ≤ x) (x1 : x ≤ 9) (y0 : -1 ≤ y) (y1 : y ≤ 9) : m_X1_stepSouth M a x y = some (stS W H op p x y) := by
  have hW := hy.2.2.1
  unfold m_X1_stepSouth stS
  rw [openAt_g hy (x := x - 1) (y := y) (by omega) (by omega) (by omega) (by omega), openAt_g hy (x := x) (y := y) (by omega) (by omega) (by omega) (by omega), bd1_q, bd1_q, canGo_s hW hp ha, bd1_q]
  simp only [wrb]
  by_cases z : alS W H op p x y
  · have hr := alS_r z
    have : bp ((opn W H op (x - 1) y = true ∨ opn W H op x y = true) ∧ ¬ sam W H op p (x - 1) y x y) = true := bp_t.mpr z
    rw [this, if_tf, if_pos (bp_t.mpr z), iand1 (by omega) (by omega), wr_id (x := (x + y) % 2) (by omega) (by omega), lt_q]
    rfl
  · have : bp ((opn W H op (x - 1) y = true ∨ opn W H op x y = true) ∧ ¬ sam W H op p (x - 1) y x y) = false := bp_f.mpr z
    rw [this, if_ff, if_neg (fun q => z (bp_t.mp q))]
theorem stepFrom_s {M : Mem} {W H : Int} {op : Int → Bool} {p : Int → Int} (hy : YC M W H op) (hp : Pav W H op p) {a : Nat} (ha : ∀ q, iso W H op q = true → gI M (a + 1) q = p q) {x y k : Int} (x0 : 0 ≤ x) (x1 : x ≤ 9) (y0 : 0 ≤ y) (y1 : y ≤ 9) (k0 : 0 ≤ k) (k1 : k < 4) : m_X1_stepFrom M a x y k = some (stF W H op p x y k) := by
  unfold m_X1_stepFrom stF
  rw [stepEast_s hy hp ha (x := x) (y := y) (by omega) (by omega) (by omega) (by omega), stepSouth_s hy hp ha (x := x) (y := y) (by omega) (by omega) (by omega) (by omega), stepEast_s hy hp ha (x := x - 1) (y := y) (by omega) (by omega) (by omega) (by omega), stepSouth_s hy hp ha (x := x) (y := y - 1) (by omega) (by omega) (by omega) (by omega), wr_id (x := k) (by omega) (by omega)]
  simp only [bd1_q]
  by_cases z0 : k = 0
  · rw [if_pos z0, if_pos z0]
  · rw [if_neg z0, if_neg z0]
    by_cases z1 : k = 1
    · rw [if_pos z1, if_pos z1]
    · rw [if_neg z1, if_neg z1]
      by_cases z2 : k = 2
      · rw [if_pos z2, if_pos z2]
      · rw [if_neg z2, if_neg z2]
theorem cbs_s {q k : Int} (k0 : 0 ≤ k) (k1 : k < 4) : m_X1_cornerBeside q k = cbs q k := by
  unfold m_X1_cornerBeside cbs
  rw [wr_id (x := k) (by omega) (by omega)]
theorem oAt_ge' {W H : Int} {op : Int → Bool} (hW : WHr W H) (x y : Int) : (0 ≤ wr (oAt W H op x y)) = (opn W H op x y = true) := by
  rw [oAt_wr hW]
  unfold oAt
  by_cases z : opn W H op x y = true
  · obtain ⟨i, -, -⟩ := opn_i hW z
    have := iso_r hW i
    rw [if_pos z]
    exact propext ⟨fun _ => z, fun _ => this.1⟩
  · rw [if_neg z]
    exact propext ⟨fun q => by omega, fun q => absurd q z⟩
theorem isCornerC_s {M : Mem} {W H : Int} {op : Int → Bool} (hy : YC M W H op) {x y : Int} (x0 : -2147483648 ≤ x) (x1 : x ≤ 2147483647) (y0 : -2147483648 ≤ y) (y1 : y ≤ 2147483647) : m_X10_isCorner M x y = some (crn W H op x y) := by
  have hW := hy.2.2.1
  unfold m_X10_isCorner crn
  rw [openAt_g hy (x := x - 1) (y := y - 1) (by omega) (by omega) (by omega) (by omega), openAt_g hy (x := x) (y := y - 1) (by omega) (by omega) (by omega) (by omega), openAt_g hy (x := x - 1) (y := y) (by omega) (by omega) (by omega) (by omega), openAt_g hy (x := x) (y := y) (by omega) (by omega) (by omega) (by omega)]
  simp only [bd1_q, oAt_ge' hW]
  have hb : (if wr (oAt W H op x y) < 0 then some (0 : Int) else some 1) = some (bI (opn W H op x y)) := by
    rw [← b01 (op := op) hW x y]
    split <;> rfl
  rw [hb]
  cases opn W H op (x - 1) (y - 1) <;> cases opn W H op x (y - 1) <;> cases opn W H op (x - 1) y <;> cases opn W H op x y <;> rfl
/-- the first corner -/
def fcr (W H : Int) (op : Int → Bool) (f : Int) : Prop := CO W H op f ∧ ∀ q, 0 ≤ q → q < f → crn W H op (q % 9) (q / 9) = false
theorem fcr_ex {W H : Int} {op : Int → Bool} (hW : WHr W H) (hw : Who W H op) : ∃ f, fcr W H op f := by
  obtain ⟨-, ⟨f, n, L, hf, -⟩, -⟩ := hw
  have ho := opn_cell hW hf.1
  have hr := (opn_t.mp ho).1
  have w8 := hW.2.1
  have h8 := hW.2.2.2
  have hc : crn W H op ((9 * (f / W) + f % W) % 9) ((9 * (f / W) + f % W) / 9) = true := by
    rw [show (9 * (f / W) + f % W) % 9 = f % W by omega, show (9 * (f / W) + f % W) / 9 = f / W by omega]
    exact crn_t.mpr (Or.inr (Or.inr (Or.inr ho)))
  rcases fst_or (fun q => crn W H op ((q : Int) % 9) ((q : Int) / 9) = true) 81 with h | ⟨i, h1, h2, h3⟩
  · exfalso
    have := h (9 * (f / W) + f % W).toNat (by omega)
    rw [Int.toNat_of_nonneg (by omega)] at this
    exact this hc
  · refine ⟨i, ⟨by omega, by omega, h2⟩, fun q q0 q1 => ?_⟩
    have := h3 q.toNat (by omega)
    rw [Int.toNat_of_nonneg q0] at this
    exact Bool.eq_false_iff.mpr this
theorem fcr_one {W H : Int} {op : Int → Bool} {f g : Int} (h : fcr W H op f) (h2 : fcr W H op g) : f = g := by
  rcases Int.lt_trichotomy f g with z | z | z
  · have := h2.2 f h.1.1 z
    rw [h.1.2.2] at this; exact absurd this (by decide)
  · exact z
  · have := h.2 g h2.1.1 z
    rw [h2.1.2.2] at this; exact absurd this (by decide)
theorem dst_N {n : Int} {L : Int → Int} (N : Nat) (h : dst n L) (hr : ∀ j, 0 ≤ j → j < n → 0 ≤ L j ∧ L j < N) : n ≤ N := by
  have := (cn_inj (P := fun _ => true) (Q := fun _ => true) (g := L) (k := n.toNat) (n := N) (fun x x0 x1 _ => by
    have := hr x x0 (by omega)
    exact ⟨this.1, by omega, rfl⟩) (fun x y x0 x1 y0 y1 _ _ e => by
    rcases Int.lt_trichotomy x y with q | q | q
    · exact absurd e (h x y x0 q (by omega))
    · exact q
    · exact absurd e.symm (h y x y0 q (by omega)))).1
  rw [cn_all, cn_all] at this
  omega
def PQ (ph : Int → Int → Int) (q : Int) : Int := ph (q % 9) (q / 9)
/-- what the class's measure keeps -/
def MS1 (W H : Int) (op : Int → Bool) (p : Int → Int) (ph : Int → Int → Int) (f0 : Int) (to : Nat) (M0 : Mem) (i k n : Int) (L : Int → Int) (M : Mem) : Prop := PW (nbH W H op p) 4 f0 n L i k ∧ (∀ j, 0 ≤ j → j < n → CO W H op (L j)) ∧ WVm M 31 n L ∧ (∀ q, 0 ≤ q → q < 81 → gI M to q = if bp (inL n L q) = true then PQ ph q - PQ ph f0 else 0) ∧ Fr [to, 31, 32, 33] M0 M
theorem mea95_s {M0 : Mem} {W H : Int} {op : Int → Bool} {p : Int → Int} {ph : Int → Int → Int} (hy : YC M0 W H op) (hp : Pav W H op p) (hph : PHt W H op p ph) {a to : Nat} (hto : to = 29 ∨ to = 30) (haa : 38 < a) (ha : ∀ q, iso W H op q = true → gI M0 (a + 1) q = p q) {f0 i n : Int} {L : Int → Int} {M : Mem} (i0 : 0 ≤ i) (i1 : i < n) (h : MS1 W H op p ph f0 to M0 i 0 n L M) : ∃ y n' L' M2, itr (fun t => m_X1_measure_L102 t.2 a to i (L i) t.1) FU (0, M) = some (y, M2) ∧ i < n' ∧ MS1 W H op p ph f0 to M0 i 4 n' L' M2 := by
  have hW := hy.2.2.1
  obtain ⟨⟨y, M2⟩, e, n', L', hn', -, hQ⟩ := for_g (f := fun t => m_X1_measure_L102 t.2 a to i (L i) t.1) 0 4 (fun k t => t.1 = k ∧ ∃ n' L', i < n' ∧ L' i = L i ∧ MS1 W H op p ph f0 to M0 i k n' L' t.2) (fun r => ∃ n' L', i < n' ∧ L' i = L i ∧ MS1 W H op p ph f0 to M0 i 4 n' L' r.2) (by
    rintro k ⟨k', M'⟩ k0 k1 ⟨g0, n', L', g1, g2, g3⟩
    dsimp only at g0 g3
    subst g0
    left
    show ∃ s2, m_X1_measure_L102 M' a to i (L i) k' = _ ∧ _
    obtain ⟨b1, b2, b3, b4, b5⟩ := g3
    have hyM := hy.fr b5 (by simp; omega) (by simp; omega)
    have haM : ∀ q, iso W H op q = true → gI M' (a + 1) q = p q := fun q hq => (fI b5 (by simp; omega) q).trans (ha q hq)
    have hi := b2 i i0 g1
    rw [g2] at hi
    have hir := crn_r hi.2.2
    have hn81 : n' ≤ 81 := dst_N 81 b1.2.2.2.2.1 (fun j j0 j1 => ⟨(b2 j j0 j1).1, (b2 j j0 j1).2.1⟩)
    have hadd := PW_add b1 i0 g1 k0 k1
    rw [g2] at hadd
    have w8 := hW.2.1
    have h8 := hW.2.2.2
    unfold m_X1_measure_L102
    rw [show wr 4 = 4 by decide, wr_id (x := k') (by omega) (by omega), if_neg (by omega), irm_p hi.1 (by have := hi.2.1; omega) (by omega) (by omega), idv_p hi.1 (by have := hi.2.1; omega) (by omega) (by omega), stepFrom_s hyM hp haM (by omega) (by omega) (by omega) (by omega) k0 k1, bd1_q, cbs_s k0 k1]
    by_cases z : stF W H op p (L i % 9) (L i / 9) k' = 0
    · have enb : nbH W H op p (L i) k' = -1 := by unfold nbH; rw [if_pos z]
      rw [z, if_pos (by decide), bd1_q]
      have hnw : ¬ nwp n' L' (-1) := fun q => by have := q.1; omega
      rw [enb] at hadd
      unfold adN adL' at hadd
      rw [if_neg (fun q => hnw (bp_t.mp q)), if_neg (fun q => hnw (bp_t.mp q))] at hadd
      exact ⟨_, rfl, rfl, n', L', g1, g2, hadd.1, b2, b3, b4, b5⟩
    · obtain ⟨c1, c2, c3, c4, -⟩ := stF_s hW hi.1 hi.2.1 k0 k1 z
      have enb : nbH W H op p (L i) k' = cbs (L i) k' := by unfold nbH; rw [if_neg z]
      generalize ht : cbs (L i) k' = t at *
      have hst : wr (stF W H op p (L i % 9) (L i / 9) k') ≠ 0 := by
        rcases c3 with q | q <;> rw [q] <;> decide
      have t1 := c2.1
      have t2 := c2.2.1
      rw [if_neg hst, wr_id (x := t) (by omega) (by omega), if_neg (by omega), show wr 81 = 81 by decide, if_pos (by omega)]
      obtain ⟨M2, e2, w1, w2⟩ := reach_s b3 (by have := b1.1; omega) (q := t) (wr_id (by omega) (by omega)) (fun _ => by omega)
      rw [e2, bd2_q]
      rw [enb] at hadd
      simp only [wrb]
      have hlt : ((ly to).2 : Int) = 81 := by rcases hto with q | q <;> rw [q] <;> decide
      by_cases tn : nwp n' L' t
      · unfold adN adL' at hadd w1
        rw [if_pos (bp_t.mpr tn), if_pos (bp_t.mpr tn)] at hadd w1
        rw [bp_t.mpr tn, if_tf, wr_id (x := L i) (by have := hi.1; omega) (by have := hi.2.1; omega), hlt, if_pos ⟨hi.1, hi.2.1⟩, if_pos ⟨t1, t2⟩, lt_q, bd1_q]
        have n0 : 0 ≤ n' := by have := b1.1; omega
        refine ⟨_, rfl, rfl, n' + 1, up1 L' n' t, by omega, by rw [up1_lt g1]; exact g2, hadd.1, fun j j0 j1 => ?_, ?_, fun q q0 q1 => ?_, ((b5.trans w2 (by intro k hk; simp at hk ⊢; omega)).sI (by simp) rfl)⟩
        · by_cases y : j = n'
          · rw [y, up1_at]; exact c2
          · rw [up1_lt (by omega)]; exact b2 j j0 (by omega)
        · obtain ⟨v1, v2, v3⟩ := w1
          refine ⟨?_, fun j j0 j1 => ?_, fun x x0 x1 => ?_⟩
          · rw [gI_sI, if_neg (by omega)]; exact v1
          · rw [gI_sI, if_neg (by omega)]; exact v2 j j0 j1
          · rw [gI_sI, if_neg (by omega)]; exact v3 x x0 x1
        · dsimp only
          rw [gI_sI, fI w2 (by simp; omega), fI w2 (by simp; omega)]
          have hLi : inL n' L' (L i) := ⟨i, i0, g1, g2⟩
          rw [b4 (L i) hi.1 hi.2.1, if_pos (c := bp (inL n' L' (L i)) = true) (bp_t.mpr hLi)]
          by_cases y : q = t
          · rw [if_pos ⟨rfl, y⟩, if_pos (bp_t.mpr ((inL_up n0).mpr (Or.inr y))), y]
            have := c4 ph hph
            unfold PQ
            omega
          · rw [if_neg (fun r => y r.2), b4 q q0 q1]
            have : inL n' L' q ↔ inL (n' + 1) (up1 L' n' t) q := by
              rw [inL_up n0]
              exact ⟨Or.inl, fun r => r.elim (fun r => r) (fun r => absurd r y)⟩
            rw [bp_congr this]
      · unfold adN adL' at hadd w1
        rw [if_neg (fun q => tn (bp_t.mp q)), if_neg (fun q => tn (bp_t.mp q))] at hadd w1
        rw [bp_f.mpr tn, if_ff, bd1_q]
        refine ⟨_, rfl, rfl, n', L', g1, g2, hadd.1, b2, w1, fun q q0 q1 => ?_, b5.trans w2 (by intro k hk; simp at hk ⊢; omega)⟩
        dsimp only
        rw [fI w2 (by simp; omega)]; exact b4 q q0 q1) (by
    rintro ⟨k', M'⟩ ⟨g0, n', L', g1, g2, g3⟩
    dsimp only at g0 g3
    refine ⟨(k', M'), ?_, n', L', g1, g2, g3⟩
    show m_X1_measure_L102 M' a to i (L i) k' = _
    unfold m_X1_measure_L102
    rw [g0, if_pos (by decide)]) (by omega) (by omega) (s0 := (0, M)) ⟨rfl, n, L, i1, rfl, h⟩
  exact ⟨y, n', L', M2, e, hn', hQ⟩
