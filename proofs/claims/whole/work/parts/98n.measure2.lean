/-! heights: the class's measure; bounds; multiples of four -/
theorem measure_s {M : Mem} {W H : Int} {op : Int → Bool} {p : Int → Int} {ph : Int → Int → Int} (hy : YC M W H op) (hw : Who W H op) (hp : Pav W H op p) (hph : PHt W H op p ph) {a to : Nat} (hto : to = 29 ∨ to = 30) (haa : 38 < a) (ha : ∀ q, iso W H op q = true → gI M (a + 1) q = p q) {f0 : Int} (hf : fcr W H op f0) : ∃ M2, m_X1_measure M a to = some M2 ∧ (∀ q, 0 ≤ q → q < 81 → gI M2 to q = if crn W H op (q % 9) (q / 9) = true then PQ ph q - PQ ph f0 else 0) ∧ (∀ q, CO W H op q → -80 ≤ PQ ph q - PQ ph f0 ∧ PQ ph q - PQ ph f0 ≤ 80) := by
  have hW := hy.2.2.1
  have hlt : ((ly to).2 : Int) = 81 := by rcases hto with q | q <;> rw [q] <;> decide
  obtain ⟨f00, f01, f02⟩ := hf.1
  obtain ⟨M1, e1, h1⟩ := fill_s M to 0 81 hlt (by omega)
  have f1 := fr_J7_fill_53178 e1
  obtain ⟨M2, e2, h2⟩ := clear_s M1 31 (fun _ => 0)
  have f2 := fr_X9_clear e2
  have f12 : Fr [to, 31, 32, 33] M M2 := (f1.mono (by simp)).trans f2 (by intro k hk; simp at hk ⊢; omega)
  unfold m_X1_measure
  rw [e1, bd1_q, e2, bd1_q]
  -- the first corner
  obtain ⟨⟨y3, M3⟩, e3, h3, f3⟩ := for_g (f := fun t => m_X1_measure_L15 t.2 a to t.1) 0 (f0 + 1) (fun i t => t.1 = i ∧ (i ≤ f0 → WVm t.2 31 0 (fun _ => 0)) ∧ (f0 < i → WVm t.2 31 (0 + 1) (up1 (fun _ => 0) 0 f0)) ∧ Fr [31, 32, 33] M2 t.2) (fun r => WVm r.2 31 (0 + 1) (up1 (fun _ => 0) 0 f0) ∧ Fr [31, 32, 33] M2 r.2) (by
    rintro i ⟨i', M'⟩ i0 i1 ⟨g0, g1, g2, g3⟩
    dsimp only at g0 g1 g2 g3
    subst g0
    left
    show ∃ s2, m_X1_measure_L15 M' a to i' = _ ∧ _
    have gw := g1 (by omega)
    have fM : Fr [to, 31, 32, 33] M M' := f12.trans g3 (by intro k hk; simp at hk ⊢; omega)
    have hyM := hy.fr fM (by simp; omega) (by simp; omega)
    unfold m_X1_measure_L15
    rw [show wr 81 = 81 by decide, wr_id (x := i') (by omega) (by omega), if_neg (by omega), gw.1, if_pos (by decide), irm_p i0 (by omega) (by omega) (by omega), idv_p i0 (by omega) (by omega) (by omega), isCornerC_s hyM (by omega) (by omega) (by omega) (by omega), bd1_q]
    simp only [wrb]
    by_cases z : i' = f0
    · obtain ⟨M4, e4, w1, w2⟩ := reach_s gw (by omega) (q := i') (wr_id (by omega) (by omega)) (fun _ => by omega)
      have hnw : nwp 0 (fun _ => 0) i' := ⟨i0, by omega, by rintro ⟨j, q1, q2, -⟩; omega⟩
      unfold adN adL' at w1
      rw [if_pos (bp_t.mpr hnw), if_pos (bp_t.mpr hnw)] at w1
      have hcc : crn W H op (i' % 9) (i' / 9) = true := by rw [z]; exact f02
      rw [hcc, if_tf, e4, bd2_q, bd1_q]
      refine ⟨_, rfl, rfl, fun q => by omega, fun _ => ?_, g3.trans w2 (by decide)⟩
      rw [z] at w1; exact w1
    · have hcc := hf.2 i' i0 (by omega)
      rw [hcc, if_ff, bd1_q]
      exact ⟨_, rfl, rfl, fun _ => gw, fun q => by omega, g3⟩) (by
    rintro ⟨i', M'⟩ ⟨g0, g1, g2, g3⟩
    dsimp only at g0 g1 g2 g3
    have gw := g2 (by omega)
    refine ⟨(i', M'), ?_, gw, g3⟩
    show m_X1_measure_L15 M' a to i' = _
    unfold m_X1_measure_L15
    rw [gw.1]
    by_cases z : wr 81 ≤ wr i'
    · rw [if_pos z]
    · rw [if_neg z, if_neg (by decide)]) (by omega) (by omega) (s0 := (0, M2)) ⟨rfl, fun _ => h2, fun q => by omega, Fr.rf⟩
  dsimp only at h3 f3
  rw [e3, bd2_q]
  have f13 : Fr [to, 31, 32, 33] M M3 := f12.trans f3 (by intro k hk; simp at hk ⊢; omega)
  have hMS : MS1 W H op p ph f0 to M 0 0 (0 + 1) (up1 (fun _ => 0) 0 f0) M3 := by
    refine ⟨PW_1 _ _ _ _ rfl f00 (by omega), fun j j0 j1 => ?_, h3, fun q q0 q1 => ?_, f13⟩
    · rw [show j = 0 by omega]; exact hf.1
    · rw [fI f3 (by simp; omega), fI f2 (by simp; omega), h1 q q0 q1]
      by_cases z : q = f0
      · rw [if_pos (bp_t.mpr ⟨0, by omega, by omega, z.symm⟩), z]; omega
      · rw [if_neg]
        intro r
        obtain ⟨j, j0, j1, ej⟩ := bp_t.mp r
        rw [show j = 0 by omega] at ej
        exact z ej.symm
  obtain ⟨⟨y4, M4⟩, e4, i4, n, L, hni, b1, b2, b3, b4, b5⟩ := for_g (f := fun t => m_X1_measure_L68 t.2 a to t.1) 0 81 (fun i t => t.1 = i ∧ ∃ n L, MS1 W H op p ph f0 to M i 0 n L t.2) (fun r => ∃ i n L, n ≤ i ∧ MS1 W H op p ph f0 to M i 0 n L r.2) (by
    rintro i ⟨i', M'⟩ i0 i1 ⟨g0, n, L, g1⟩
    dsimp only at g0 g1
    subst g0
    show (∃ s2, m_X1_measure_L68 M' a to i' = _ ∧ _) ∨ (∃ r, m_X1_measure_L68 M' a to i' = _ ∧ _)
    have hn81 : n ≤ 81 := dst_N 81 g1.1.2.2.2.2.1 (fun j j0 j1 => ⟨(g1.2.1 j j0 j1).1, (g1.2.1 j j0 j1).2.1⟩)
    have hn1 := g1.1.1
    unfold m_X1_measure_L68
    rw [show wr 100 = 100 by decide, wr_id (x := i') (by omega) (by omega), if_neg (c := (100 : Int) ≤ i') (by omega), g1.2.2.1.1, wr_id (x := n) (by omega) (by omega)]
    by_cases z : n ≤ i'
    · right
      rw [if_pos z]
      exact ⟨_, rfl, i', n, L, z, g1⟩
    · left
      rw [if_neg z, if_pos (by omega), g1.2.2.1.2.1 i' i0 (by omega)]
      obtain ⟨y, n', L', M5, e5, hn', h5⟩ := mea95_s hy hp hph hto haa ha i0 (by omega) g1
      rw [e5, bd2_q]
      exact ⟨_, rfl, rfl, n', L', PW_next h5.1 i0, h5.2⟩) (by
    rintro ⟨i', M'⟩ ⟨g0, n, L, g1⟩
    dsimp only at g0 g1
    have hn81 : n ≤ 81 := dst_N 81 g1.1.2.2.2.2.1 (fun j j0 j1 => ⟨(g1.2.1 j j0 j1).1, (g1.2.1 j j0 j1).2.1⟩)
    have hn1 := g1.1.1
    refine ⟨(i', M'), ?_, 81, n, L, hn81, g1⟩
    show m_X1_measure_L68 M' a to i' = _
    unfold m_X1_measure_L68
    rw [g0, if_neg (c := wr 100 ≤ wr 81) (by decide), g1.2.2.1.1, if_pos (by rw [wr_id (x := n) (by omega) (by omega)]; exact hn81)]) (by omega) (by omega) (s0 := (0, M3)) ⟨rfl, _, _, hMS⟩
  rw [e4, bd2_q]
  dsimp only at b3 b4 b5
  have hn81 : n ≤ 81 := dst_N 81 b1.2.2.2.2.1 (fun j j0 j1 => ⟨(b2 j j0 j1).1, (b2 j j0 j1).2.1⟩)
  -- the list is closed
  have cl : ∀ q k, inL n L q → 0 ≤ k → k < 4 → stF W H op p (q % 9) (q / 9) k ≠ 0 → inL n L (cbs q k) := by
    rintro q k ⟨j, j0, j1, ej⟩ k0 k1 hs
    have hq := b2 j j0 j1
    rw [ej] at hq
    obtain ⟨c1, c2, c3, c4, -⟩ := stF_s hW hq.1 hq.2.1 k0 k1 hs
    have := b1.2.2.2.2.2.1 j j0 (by omega) j1 k k0 k1
    rw [ej] at this
    have enb : nbH W H op p q k = cbs q k := by unfold nbH; rw [if_neg hs]
    rw [enb] at this
    exact this c2.1 (by have := c2.2.1; omega)
  have hin : ∀ q, 0 ≤ q → q < 81 → (inL n L q ↔ crn W H op (q % 9) (q / 9) = true) := fun q q0 q1 => by
    constructor
    · rintro ⟨j, j0, j1, ej⟩
      rw [← ej]; exact (b2 j j0 j1).2.2
    · intro hc
      have w8 := hW.2.1
      have h8 := hW.2.2.2
      have hf' : crn W H op (f0 % 9) (f0 / 9) = true := f02
      have key := all_crn hW hw hp (C := fun x y => inL n L (9 * y + x)) (fun x y hal => by
        have hr := alE_r hal
        have hs : stF W H op p ((9 * y + x) % 9) ((9 * y + x) / 9) 0 ≠ 0 := by
          rw [show (9 * y + x) % 9 = x by omega, show (9 * y + x) / 9 = y by omega]
          show stE W H op p x y ≠ 0
          rcases stE_c (W := W) (H := H) (op := op) (p := p) (x := x) (y := y) with ⟨-, c⟩ | ⟨c, -⟩
          · exact absurd hal c
          · have := (sg1 x y).1; omega
        obtain ⟨-, -, -, -, k', k0, k1, k2, k3⟩ := stF_s hW (q := 9 * y + x) (by omega) (by omega) (by omega) (by omega) hs
        have e0 : cbs (9 * y + x) 0 = 9 * y + (x + 1) := by show 9 * y + x + 1 = _; omega
        rw [e0] at k2 k3
        constructor
        · intro r
          have := cl _ 0 r (by omega) (by omega) hs
          rw [e0] at this; exact this
        · intro r
          have := cl _ k' r k0 k1 k2
          rw [k3] at this; exact this) (fun x y hal => by
        have hr := alS_r hal
        have hs : stF W H op p ((9 * y + x) % 9) ((9 * y + x) / 9) 1 ≠ 0 := by
          rw [show (9 * y + x) % 9 = x by omega, show (9 * y + x) / 9 = y by omega]
          show stS W H op p x y ≠ 0
          rcases stS_c (W := W) (H := H) (op := op) (p := p) (x := x) (y := y) with ⟨-, c⟩ | ⟨c, -⟩
          · exact absurd hal c
          · have := (sg1 x y).2; omega
        obtain ⟨-, -, -, -, k', k0, k1, k2, k3⟩ := stF_s hW (q := 9 * y + x) (by omega) (by omega) (by omega) (by omega) hs
        have e0 : cbs (9 * y + x) 1 = 9 * (y + 1) + x := by show 9 * y + x + 9 = _; omega
        rw [e0] at k2 k3
        constructor
        · intro r
          have := cl _ 1 r (by omega) (by omega) hs
          rw [e0] at this; exact this
        · intro r
          have := cl _ k' r k0 k1 k2
          rw [k3] at this; exact this) hf' (by
        show inL n L (9 * (f0 / 9) + f0 % 9)
        rw [show 9 * (f0 / 9) + f0 % 9 = f0 by omega]
        exact ⟨0, by omega, by have := b1.1; omega, b1.2.1⟩) (q % 9) (q / 9) hc
      have : inL n L (9 * (q / 9) + q % 9) := key
      rw [show 9 * (q / 9) + q % 9 = q by omega] at this
      exact this
  have hbd : ∀ m : Nat, ∀ j : Int, 0 ≤ j → j ≤ m → j < n → -j ≤ PQ ph (L j) - PQ ph f0 ∧ PQ ph (L j) - PQ ph f0 ≤ j := by
    intro m
    induction m with
    | zero =>
      intro j j0 j1 _
      rw [show j = 0 by omega, b1.2.1]; omega
    | succ m ih =>
      intro j j0 j1 jn
      by_cases z : j = 0
      · rw [z, b1.2.1]; omega
      · obtain ⟨b, b0, bj, k, k0, k1, ek⟩ := b1.2.2.2.1 j (by omega) jn
        have hb := ih b b0 (by omega) (by omega)
        have hbc := b2 b b0 (by omega)
        have hjr := b2 j j0 jn
        unfold nbH at ek
        by_cases hs : stF W H op p (L b % 9) (L b / 9) k = 0
        · rw [if_pos hs] at ek
          have := hjr.1
          omega
        · rw [if_neg hs] at ek
          obtain ⟨-, -, c3, c4, -⟩ := stF_s hW hbc.1 hbc.2.1 k0 k1 hs
          have := c4 ph hph
          rw [ek] at this
          unfold PQ at hb ⊢
          omega
  refine ⟨M4, rfl, fun q q0 q1 => ?_, fun q hq => ?_⟩
  · rw [b4 q q0 q1]
    have h := hin q q0 q1
    by_cases z : crn W H op (q % 9) (q / 9) = true
    · rw [if_pos z, if_pos (bp_t.mpr (h.mpr z))]
    · rw [if_neg z, if_neg (fun r => z (h.mp (bp_t.mp r)))]
  · obtain ⟨j, j0, j1, ej⟩ := (hin q hq.1 hq.2.1).mpr hq.2.2
    have := hbd j.toNat j j0 (by omega) j1
    rw [ej] at this
    omega
def cm4 (x y : Int) : Int := if x % 2 = 0 then y % 2 else -1 - y % 2
theorem cm4_E (x y : Int) : (cm4 (x + 1) y - cm4 x y - sgE x y) % 4 = 0 := by
  unfold cm4 sgE
  by_cases z : x % 2 = 0
  · rw [if_neg (by omega), if_pos z]
    by_cases w : (x + y) % 2 = 0
    · rw [if_pos w]; omega
    · rw [if_neg w]; omega
  · rw [if_pos (by omega), if_neg z]
    by_cases w : (x + y) % 2 = 0
    · rw [if_pos w]; omega
    · rw [if_neg w]; omega
theorem cm4_S (x y : Int) : (cm4 x (y + 1) - cm4 x y - sgS x y) % 4 = 0 := by
  unfold cm4 sgS
  by_cases z : x % 2 = 0
  · rw [if_pos z, if_pos z]
    by_cases w : (x + y) % 2 = 0
    · rw [if_pos w]; omega
    · rw [if_neg w]; omega
  · rw [if_neg z, if_neg z]
    by_cases w : (x + y) % 2 = 0
    · rw [if_pos w]; omega
    · rw [if_neg w]; omega
/-- two pavings: heights differ by multiples of four -/
theorem mod4 {W H : Int} {op : Int → Bool} {p p' : Int → Int} {ph ph' : Int → Int → Int} (hW : WHr W H) (hw : Who W H op) (hp : Pav W H op p) (hp' : Pav W H op p') (h1 : PHt W H op p ph) (h2 : PHt W H op p' ph') {f0 q : Int} (hf : fcr W H op f0) (hq : CO W H op q) : (PQ ph q - PQ ph f0 - (PQ ph' q - PQ ph' f0)) % 4 = 0 := by
  have key : ∀ {p : Int → Int} {ph : Int → Int → Int}, Pav W H op p → PHt W H op p ph → (ph (q % 9) (q / 9) - ph (f0 % 9) (f0 / 9) - (cm4 (q % 9) (q / 9) - cm4 (f0 % 9) (f0 / 9))) % 4 = 0 := fun {p} {ph} hp h => by
    refine all_crn hW hw hp (C := fun x y => (ph x y - ph (f0 % 9) (f0 / 9) - (cm4 x y - cm4 (f0 % 9) (f0 / 9))) % 4 = 0) (fun x y hal => ?_) (fun x y hal => ?_) hf.1.2.2 ?_ _ _ hq.2.2
    · have := h.1 x y hal
      have := cm4_E x y
      omega
    · have := h.2 x y hal
      have := cm4_S x y
      omega
    · omega
  have k1 := key hp h1
  have k2 := key hp' h2
  unfold PQ
  omega
