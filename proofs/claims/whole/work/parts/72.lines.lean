/-! lines -/
theorem ln1 : ∀ u : Nat, u < 256 → ∀ x : Nat, x < 8 → ∀ i : Nat, i < 8 → ((u : Int) - (u : Int) / p2 x % 2 * p2 x) / p2 i % 2 = (if i = x then 0 else (u : Int) / p2 i % 2) ∧ ((u : Int) / p2 x % 2 = 0 → ((u : Int) + p2 x) / p2 i % 2 = (if i = x then 1 else (u : Int) / p2 i % 2)) := by decide +kernel
theorem ln2 : ∀ W : Nat, W < 9 → 0 < W → ∀ i : Nat, i < 8 → (p2 W - 2) / p2 i % 2 = (if 1 ≤ i ∧ i < W then 1 else 0) := by decide +kernel
theorem ln3 : ∀ u : Nat, u < 256 → ∀ x : Nat, x < 8 → 0 ≤ (u : Int) - (u : Int) / p2 x % 2 * p2 x ∧ (u : Int) - (u : Int) / p2 x % 2 * p2 x < 256 ∧ ((u : Int) / p2 x % 2 = 0 → (u : Int) + p2 x < 256) := by decide +kernel
theorem rec8N : ∀ n : Nat, n < 256 → (n : Int) = (n : Int) / 1 % 2 + 2 * ((n : Int) / 2 % 2) + 4 * ((n : Int) / 4 % 2) + 8 * ((n : Int) / 8 % 2) + 16 * ((n : Int) / 16 % 2) + 32 * ((n : Int) / 32 % 2) + 64 * ((n : Int) / 64 % 2) + 128 * ((n : Int) / 128 % 2) := by decide +kernel
theorem rec8 {a : Int} (a0 : 0 ≤ a) (a1 : a < 256) : a = a / 1 % 2 + 2 * (a / 2 % 2) + 4 * (a / 4 % 2) + 8 * (a / 8 % 2) + 16 * (a / 16 % 2) + 32 * (a / 32 % 2) + 64 * (a / 64 % 2) + 128 * (a / 128 % 2) := by
  have := rec8N a.toNat (by omega)
  rw [Int.toNat_of_nonneg a0] at this
  exact this
theorem bit_eq {a b i : Int} (h : bit a i ↔ bit b i) : a / p2 i % 2 = b / p2 i % 2 := by
  unfold bit at h
  have h1 := Int.emod_two_eq (a / p2 i)
  have h2 := Int.emod_two_eq (b / p2 i)
  omega
theorem bits8 {a b : Int} (a0 : 0 ≤ a) (a1 : a < 256) (b0 : 0 ≤ b) (b1 : b < 256) (h : ∀ i, 0 ≤ i → i < 8 → (bit a i ↔ bit b i)) : a = b := by
  have h0 := bit_eq (h 0 (by omega) (by omega))
  have h1 := bit_eq (h 1 (by omega) (by omega))
  have h2 := bit_eq (h 2 (by omega) (by omega))
  have h3 := bit_eq (h 3 (by omega) (by omega))
  have h4 := bit_eq (h 4 (by omega) (by omega))
  have h5 := bit_eq (h 5 (by omega) (by omega))
  have h6 := bit_eq (h 6 (by omega) (by omega))
  have h7 := bit_eq (h 7 (by omega) (by omega))
  rw [show p2 0 = 1 by decide] at h0
  rw [show p2 1 = 2 by decide] at h1
  rw [show p2 2 = 4 by decide] at h2
  rw [show p2 3 = 8 by decide] at h3
  rw [show p2 4 = 16 by decide] at h4
  rw [show p2 5 = 32 by decide] at h5
  rw [show p2 6 = 64 by decide] at h6
  rw [show p2 7 = 128 by decide] at h7
  have ra := rec8 a0 a1
  have rb := rec8 b0 b1
  rw [h0, h1, h2, h3, h4, h5, h6, h7] at ra
  exact ra.trans rb.symm
theorem Ln1 {u x i : Int} (u0 : 0 ≤ u) (u1 : u < 256) (x0 : 0 ≤ x) (x1 : x < 8) (i0 : 0 ≤ i) (i1 : i < 8) : (bit (u - u / p2 x % 2 * p2 x) i ↔ (i ≠ x ∧ bit u i)) ∧ (u / p2 x % 2 = 0 → (bit (u + p2 x) i ↔ (i = x ∨ bit u i))) := by
  have := ln1 u.toNat (by omega) x.toNat (by omega) i.toNat (by omega)
  rw [Int.toNat_of_nonneg u0, Int.toNat_of_nonneg x0, Int.toNat_of_nonneg i0] at this
  unfold bit
  refine ⟨?_, fun z => ?_⟩
  · rw [this.1]
    by_cases y : i.toNat = x.toNat
    · rw [if_pos y]; omega
    · rw [if_neg y]; omega
  · rw [this.2 z]
    by_cases y : i.toNat = x.toNat
    · rw [if_pos y]; omega
    · rw [if_neg y]; omega
theorem Ln2 {W i : Int} (h1 : 1 ≤ W) (h2 : W ≤ 8) (i0 : 0 ≤ i) (i1 : i < 8) : bit (p2 W - 2) i ↔ (1 ≤ i ∧ i < W) := by
  have := ln2 W.toNat (by omega) (by omega) i.toNat (by omega)
  rw [Int.toNat_of_nonneg i0, Int.toNat_of_nonneg (show 0 ≤ W by omega)] at this
  unfold bit
  rw [this]
  by_cases y : 1 ≤ i.toNat ∧ i.toNat < W.toNat
  · rw [if_pos y]; omega
  · rw [if_neg y]; omega
theorem Ln3 {u x : Int} (u0 : 0 ≤ u) (u1 : u < 256) (x0 : 0 ≤ x) (x1 : x < 8) : 0 ≤ u - u / p2 x % 2 * p2 x ∧ u - u / p2 x % 2 * p2 x < 256 ∧ (u / p2 x % 2 = 0 → u + p2 x < 256) := by
  have := ln3 u.toNat (by omega) x.toNat (by omega)
  rw [Int.toNat_of_nonneg u0, Int.toNat_of_nonneg x0] at this
  exact this
def crs (W H : Int) (op : Int → Bool) (p : Int → Int) (i : Int) : Prop := ∃ y, 0 ≤ y ∧ y < H ∧ op (W * y + i - 1) = true ∧ p (W * y + i - 1) = 2 * (W * y + i - 1)
theorem linesC_s {M : Mem} {W H : Int} {op : Int → Bool} (hy : YC M W H op) {a : Nat} {p : Int → Int} (hp : Pav W H op p) (hon : ∀ q, iso W H op q = true → gI M (a + 1) q = p q) : ∃ v, m_X3_linesNotCrossed M a = some v ∧ 0 ≤ v ∧ v < 256 ∧ ∀ i, 0 ≤ i → i < 8 → (bit v i ↔ (1 ≤ i ∧ i < W ∧ ¬ crs W H op p i)) := by
  have hW := hy.2.2.1
  have h8 := WH_le hW
  have hp2 := p2_256 hW.1 hW.2.1
  have hw1 := hW.1
  have hw2 := hW.2.1
  have hbW := Bt0 (x := W) (by omega) (by omega)
  have ec : m_X10_cells M = W * H := by unfold m_X10_cells; rw [hy.1, hy.2.1]
  unfold m_X3_linesNotCrossed
  rw [hy.1, hbW.1]
  obtain ⟨⟨v, y⟩, e, g1, g2, g3⟩ := for_g (f := fun s => m_X3_linesNotCrossed_L11 M a s.1 s.2) 0 (W * H) (fun c s => s.2 = c ∧ 0 ≤ s.1 ∧ s.1 < 256 ∧ ∀ i, 0 ≤ i → i < 8 → (bit s.1 i ↔ (1 ≤ i ∧ i < W ∧ ¬ ∃ c', 0 ≤ c' ∧ c' < c ∧ op c' = true ∧ p c' = 2 * c' ∧ c' % W + 1 = i))) (fun r => 0 ≤ r.1 ∧ r.1 < 256 ∧ ∀ i, 0 ≤ i → i < 8 → (bit r.1 i ↔ (1 ≤ i ∧ i < W ∧ ¬ ∃ c', 0 ≤ c' ∧ c' < W * H ∧ op c' = true ∧ p c' = 2 * c' ∧ c' % W + 1 = i))) (by
    rintro c ⟨v, c'⟩ c0 c1 ⟨g0, g1, g2, g3⟩
    dsimp only at g0 g1 g2 g3
    subst g0
    left
    have hcx := cx_r hW c0 c1
    show ∃ s2, m_X3_linesNotCrossed_L11 M a v c' = _ ∧ _
    unfold m_X3_linesNotCrossed_L11 m_X3_startsAt
    rw [ec, wr_id (x := W * H) (by omega) (by omega), wr_id (x := c') (by omega) (by omega), if_neg (by omega), if_pos (c := 0 ≤ c' ∧ c' < 64) (by omega), hy.2.2.2 c' c0 (by omega), lt_q]
    simp only [wrb]
    have skip : ¬ (op c' = true ∧ p c' = 2 * c') → ∀ i, 0 ≤ i → i < 8 → (bit v i ↔ (1 ≤ i ∧ i < W ∧ ¬ ∃ d, 0 ≤ d ∧ d < c' + 1 ∧ op d = true ∧ p d = 2 * d ∧ d % W + 1 = i)) := by
      intro hz i i0 i1
      rw [g3 i i0 i1]
      constructor
      · rintro ⟨a1, a2, a3⟩
        refine ⟨a1, a2, fun ⟨d, d0, d1, d2, d3, d4⟩ => ?_⟩
        by_cases y : d = c'
        · rw [y] at d2 d3; exact hz ⟨d2, d3⟩
        · exact a3 ⟨d, d0, by omega, d2, d3, d4⟩
      · rintro ⟨a1, a2, a3⟩
        exact ⟨a1, a2, fun ⟨d, d0, d1, d2, d3, d4⟩ => a3 ⟨d, d0, by omega, d2, d3, d4⟩⟩
    cases ho : op c'
    · rw [if_ff, if_pos (by decide), bd1_q, show decide ((0 : Int) = 1) = false by decide, if_ff, bd1_q]
      exact ⟨_, rfl, rfl, g1, g2, skip (by rw [ho]; simp)⟩
    · have hi : iso W H op c' = true := iso_t.mpr ⟨⟨c0, c1⟩, ho⟩
      have hpa := hp.at hW hi
      obtain ⟨s1, s2, -⟩ := stn_t hW hpa.1
      rw [if_tf, hon c' hi, idv_p s1 (by omega) (by omega) (by omega), wr_id (x := p c' / 2) (by omega) (by omega)]
      by_cases z : p c' / 2 = c'
      · rw [if_pos z, if_pos (by decide), bd1_q, show decide ((1 : Int) = 1) = true by decide, if_tf, if_pos (c := 0 ≤ c' ∧ c' < 64) (by omega), irm_p s1 (by omega) (by omega) (by omega), wr_id (x := p c' % 2) (by omega) (by omega), column_s hy c0 (by omega), bd1_q]
        by_cases z2 : p c' % 2 = 0
        · have e2 : p c' = 2 * c' := by omega
          have hx := stn_east hW (by rw [← e2]; exact hpa.1)
          have hb0 := Bt0 (x := c' % W) (by omega) (by omega)
          rw [if_pos z2, hb0.2.1, ← hb0.2.2.1, (Bt4 (u := v) (x := c' % W + 1) g1 g2 (by omega) (by omega)).1, bd1_q]
          have l3 := Ln3 (u := v) (x := c' % W + 1) g1 g2 (by omega) (by omega)
          refine ⟨_, rfl, rfl, l3.1, l3.2.1, fun i i0 i1 => ?_⟩
          rw [(Ln1 (u := v) (x := c' % W + 1) g1 g2 (by omega) (by omega) i0 i1).1, g3 i i0 i1]
          constructor
          · rintro ⟨a0, a1, a2, a3⟩
            refine ⟨a1, a2, fun ⟨d, d0, d1, d2, d3, d4⟩ => ?_⟩
            by_cases y : d = c'
            · rw [y] at d4; exact a0 d4.symm
            · exact a3 ⟨d, d0, by omega, d2, d3, d4⟩
          · rintro ⟨a1, a2, a3⟩
            exact ⟨fun y => a3 ⟨c', c0, by omega, ho, e2, y.symm⟩, a1, a2, fun ⟨d, d0, d1, d2, d3, d4⟩ => a3 ⟨d, d0, by omega, d2, d3, d4⟩⟩
        · rw [if_neg z2, bd1_q]
          exact ⟨_, rfl, rfl, g1, g2, skip (fun q => z2 (by omega))⟩
      · rw [if_neg z, if_pos (by decide), bd1_q, show decide ((0 : Int) = 1) = false by decide, if_ff, bd1_q]
        exact ⟨_, rfl, rfl, g1, g2, skip (fun q => z (by omega))⟩) (by
    rintro ⟨v, c'⟩ ⟨g0, g1, g2, g3⟩
    dsimp only at g0 g1 g2 g3
    subst g0
    show ∃ s2, m_X3_linesNotCrossed_L11 M a v (W * H) = _ ∧ _
    unfold m_X3_linesNotCrossed_L11
    rw [ec, if_pos (by omega)]
    exact ⟨_, rfl, g1, g2, g3⟩) (by omega) (by omega) (s0 := (p2 W - 2, 0)) ⟨rfl, by dsimp only; omega, by dsimp only; omega, fun i i0 i1 => by
      rw [Ln2 hw1 hw2 i0 i1]
      constructor
      · rintro ⟨a1, a2⟩; exact ⟨a1, a2, fun ⟨d, d0, d1, _⟩ => by omega⟩
      · rintro ⟨a1, a2, -⟩; exact ⟨a1, a2⟩⟩
  rw [e, bd2_q]
  refine ⟨v, rfl, g1, g2, fun i i0 i1 => ?_⟩
  rw [g3 i i0 i1]
  have key : i < W → 1 ≤ i → ((∃ c', 0 ≤ c' ∧ c' < W * H ∧ op c' = true ∧ p c' = 2 * c' ∧ c' % W + 1 = i) ↔ crs W H op p i) := by
    intro iw i1'
    constructor
    · rintro ⟨c, c0, c1, h1, h2, h3⟩
      have hcx := cx_r hW c0 c1
      refine ⟨c / W, by omega, by omega, ?_, ?_⟩
      · rw [show W * (c / W) + i - 1 = c by rw [Int.mul_comm]; omega]; exact h1
      · rw [show W * (c / W) + i - 1 = c by rw [Int.mul_comm]; omega]; exact h2
    · rintro ⟨y, y0, y1, h1, h2⟩
      have hxy := xy_c hW (x := i - 1) (y := y) (by omega) (by omega) y0 y1
      have e : W * y + i - 1 = y * W + (i - 1) := by rw [Int.mul_comm]; omega
      rw [e] at h1 h2
      exact ⟨_, hxy.1, hxy.2.1, h1, h2, by omega⟩
  constructor
  · rintro ⟨a1, a2, a3⟩; exact ⟨a1, a2, fun q => a3 ((key a2 a1).mpr q)⟩
  · rintro ⟨a1, a2, a3⟩; exact ⟨a1, a2, fun q => a3 ((key a2 a1).mp q)⟩
theorem isCrossed_s {M : Mem} {W H : Int} {op : Int → Bool} (hy : YR M W H op) {s x : Int} (s0 : 0 ≤ s) (s1 : s < 4) (x1 : 1 ≤ x) (x2 : x < W) {p : Int → Int} (hp : Pav W H op p) (hon : ∀ q, iso W H op q = true → gI M 60 (64 * s + q) = p q) : m_X12_isCrossed M s x = some (bp (crs W H op p x)) := by
  have hW := hy.2.2.1
  have h8 := WH_le hW
  have hw1 := hW.1
  have hw2 := hW.2.1
  have hh1 := hW.2.2.1
  have hh2 := hW.2.2.2
  unfold m_X12_isCrossed
  obtain ⟨⟨v, y⟩, e, b, g1, g2⟩ := for_g (f := fun s' => m_X12_isCrossed_L5 M s x s'.1 s'.2) 0 H (fun y s' => s'.2 = y ∧ ∃ b : Bool, s'.1 = bI b ∧ (b = true ↔ ∃ y', 0 ≤ y' ∧ y' < y ∧ op (W * y' + x - 1) = true ∧ p (W * y' + x - 1) = 2 * (W * y' + x - 1))) (fun r => ∃ b : Bool, r.1 = bI b ∧ (b = true ↔ crs W H op p x)) (by
    rintro y ⟨v, y'⟩ y0 y1 ⟨g0, b, g1, g2⟩
    dsimp only at g0 g1
    subst g0
    subst g1
    left
    have hxy := xy_c hW (x := x - 1) (y := y') (by omega) (by omega) y0 y1
    have ec : W * y' + x - 1 = y' * W + (x - 1) := by rw [Int.mul_comm]; omega
    rw [← ec] at hxy
    show ∃ s2, m_X12_isCrossed_L5 M s x (bI b) y' = _ ∧ _
    unfold m_X12_isCrossed_L5
    rw [hy.1, hy.2.1, wr_id (x := H) (by omega) (by omega), wr_id (x := y') (by omega) (by omega), if_neg (by omega), wr_id (x := W * y' + x - 1) (by omega) (by omega), if_pos (c := 0 ≤ W * y' + x - 1 ∧ W * y' + x - 1 < 64) (by omega), hy.2.2.2 (W * y' + x - 1) (by omega) (by omega), wr_id (x := 64 * s + (W * y' + x - 1)) (by omega) (by omega), if_pos (c := 0 ≤ 64 * s + (W * y' + x - 1) ∧ 64 * s + (W * y' + x - 1) < 256) (by omega), wr_id (x := 2 * (W * y' + x - 1)) (by omega) (by omega)]
    simp only [wrb]
    cases b
    · rw [if_ff]
      have hno : ¬ ∃ y'', 0 ≤ y'' ∧ y'' < y' ∧ op (W * y'' + x - 1) = true ∧ p (W * y'' + x - 1) = 2 * (W * y'' + x - 1) := fun q => absurd (g2.mpr q) (by decide)
      cases ho : op (W * y' + x - 1)
      · rw [if_ff, bd1_q]
        refine ⟨_, rfl, rfl, false, rfl, ⟨fun q => absurd q (by decide), fun ⟨z, z0, z1, z2, z3⟩ => ?_⟩⟩
        by_cases q : z = y'
        · rw [q, ho] at z2; exact absurd z2 (by decide)
        · exact absurd ⟨z, z0, by omega, z2, z3⟩ hno
      · have hi : iso W H op (W * y' + x - 1) = true := iso_t.mpr ⟨⟨hxy.1, hxy.2.1⟩, ho⟩
        have hpa := hp.at hW hi
        obtain ⟨t1, t2, -⟩ := stn_t hW hpa.1
        rw [if_tf, hon _ hi, wr_id (x := p (W * y' + x - 1)) (by omega) (by omega)]
        by_cases z : p (W * y' + x - 1) = 2 * (W * y' + x - 1)
        · rw [if_pos z, bd1_q]
          exact ⟨_, rfl, rfl, true, rfl, ⟨fun _ => ⟨y', y0, by omega, ho, z⟩, fun _ => rfl⟩⟩
        · rw [if_neg z, bd1_q]
          refine ⟨_, rfl, rfl, false, rfl, ⟨fun q => absurd q (by decide), fun ⟨w, w0, w1, w2, w3⟩ => ?_⟩⟩
          by_cases q : w = y'
          · rw [q] at w3; exact absurd w3 z
          · exact absurd ⟨w, w0, by omega, w2, w3⟩ hno
    · rw [if_tf, bd1_q]
      obtain ⟨w, w0, w1, w2, w3⟩ := g2.mp rfl
      exact ⟨_, rfl, rfl, true, rfl, ⟨fun _ => ⟨w, w0, by omega, w2, w3⟩, fun _ => rfl⟩⟩) (by
    rintro ⟨v, y'⟩ ⟨g0, b, g1, g2⟩
    dsimp only at g0 g1
    subst g0
    subst g1
    show ∃ s2, m_X12_isCrossed_L5 M s x (bI b) y' = _ ∧ _
    unfold m_X12_isCrossed_L5
    rw [hy.2.1, if_pos (by omega)]
    exact ⟨_, rfl, b, rfl, g2⟩) (by omega) (by omega) (s0 := (0, 0)) ⟨rfl, false, rfl, ⟨fun q => absurd q (by decide), fun ⟨z, z0, z1, _⟩ => by omega⟩⟩
  dsimp only at g1
  subst g1
  rw [e, bd2_q, if_pos (bI_01 b)]
  cases b
  · rw [bp_f.mpr (fun q => absurd (g2.mpr q) (by decide))]; rfl
  · rw [bp_t.mpr (g2.mp rfl)]; rfl
theorem op_lines {M : Mem} (hI : Inv M) {a : Int} (ha : -2147483648 ≤ a) (ha2 : a ≤ 2147483647) : ∃ r, m_X11_lines M a = some r ∧ m_X12_lines M a = some r := by
  obtain ⟨W, H, op, wa, pr, hd, on, ts, tp, ln, sz, it, hC, hR, hwf, hD, hS⟩ := hI
  have hW := hC.1.1.2.2.1
  have h8 := WH_le hW
  have hw1 := hW.1
  have hw2 := hW.2.1
  unfold m_X11_lines m_X12_lines
  rw [slotFault_s hC.2.1.1 ha ha2, isSlotR_s ha ha2, bd1_q, bd1_q, wr_id ha ha2]
  simp only [wrb]
  rcases sfl_c (hd := hd) (a := a) (b := a) with ⟨e, c⟩ | ⟨e, c, d⟩ | ⟨e, c, d, -⟩
  · rw [e, decide_eq_false (by omega)]
    exact ⟨-1, rfl, rfl⟩
  · rw [e, decide_eq_true (by omega), if_tf, if_pos (c := 0 ≤ a ∧ a < 4) (by omega), if_pos (c := 0 ≤ a ∧ a < 4) (by omega), hR.2.1.1 a c.1 c.2.1]
    simp only [wrb]
    rw [if_pos (c := hd a = false) (by simpa using d)]
    exact ⟨-4, rfl, rfl⟩
  · rw [e, decide_eq_true (by omega), if_tf, if_pos (c := 0 ≤ a ∧ a < 4) (by omega), if_pos (c := 0 ≤ a ∧ a < 4) (by omega), hR.2.1.1 a c.1 c.2.1]
    simp only [wrb]
    rw [if_neg (c := hd a = false) (by simp [d]), show wr 0 = 0 by decide, if_pos (by decide)]
    have hon := hC.2.1.2 a c.1 c.2.1 d
    have honr := hR.2.1.2 a c.1 c.2.1 d
    have hp := hwf.2.1 a c.1 c.2.1 d
    obtain ⟨v, e1, v0, v1, hv⟩ := linesC_s hC.1.1 hp hon
    obtain ⟨⟨v2, y⟩, e2, w0, w1, hv2⟩ := for_g (f := fun s => m_X12_lines_L25 M a s.1 s.2) 1 W (fun x s => s.2 = x ∧ 0 ≤ s.1 ∧ s.1 < 256 ∧ ∀ i, 0 ≤ i → i < 8 → (bit s.1 i ↔ (1 ≤ i ∧ i < x ∧ ¬ crs W H op (on a) i))) (fun r => 0 ≤ r.1 ∧ r.1 < 256 ∧ ∀ i, 0 ≤ i → i < 8 → (bit r.1 i ↔ (1 ≤ i ∧ i < W ∧ ¬ crs W H op (on a) i))) (by
      rintro x ⟨v, x'⟩ x0 x1 ⟨g0, g1, g2, g3⟩
      dsimp only at g0 g1 g2 g3
      subst g0
      left
      have hb0 := Bt0 (x := x') (by omega) (by omega)
      show ∃ s2, m_X12_lines_L25 M a v x' = _ ∧ _
      unfold m_X12_lines_L25
      rw [hR.1.1.1, wr_id (x := W) (by omega) (by omega), wr_id (x := x') (by omega) (by omega), if_neg (by omega), isCrossed_s hR.1.1 c.1 c.2.1 x0 x1 hp honr, bd1_q, lt_q, hb0.1]
      simp only [wrb]
      by_cases z : crs W H op (on a) x'
      · rw [bp_t.mpr z, if_tf, show ior v 0 = v by
          have : ∀ n : Nat, n < 256 → ior (n : Int) 0 = n := by decide +kernel
          have := this v.toNat (by omega)
          rw [Int.toNat_of_nonneg g1] at this
          exact this]
        refine ⟨_, rfl, rfl, g1, g2, fun i i0 i1 => ?_⟩
        rw [g3 i i0 i1]
        constructor
        · rintro ⟨a1, a2, a3⟩; exact ⟨a1, by omega, a3⟩
        · rintro ⟨a1, a2, a3⟩
          refine ⟨a1, ?_, a3⟩
          by_cases q : i = x'
          · rw [q] at a3; exact absurd z a3
          · omega
      · have hz : v / p2 x' % 2 = 0 := by
          have := g3 x' (by omega) (by omega)
          have n : ¬ bit v x' := fun q => by
            have := (this.mp q).2.1
            omega
          unfold bit at n
          omega
        rw [bp_f.mpr z, if_ff, (Bt4 (u := v) (x := x') g1 g2 (by omega) (by omega)).2 hz]
        refine ⟨_, rfl, rfl, by dsimp only; omega, (Ln3 g1 g2 (by omega) (by omega)).2.2 hz, fun i i0 i1 => ?_⟩
        rw [(Ln1 (u := v) (x := x') g1 g2 (by omega) (by omega) i0 i1).2 hz, g3 i i0 i1]
        constructor
        · rintro (q | ⟨a1, a2, a3⟩)
          · rw [q]; exact ⟨x0, by omega, z⟩
          · exact ⟨a1, by omega, a3⟩
        · rintro ⟨a1, a2, a3⟩
          by_cases q : i = x'
          · exact Or.inl q
          · exact Or.inr ⟨a1, by omega, a3⟩) (by
      rintro ⟨v, x'⟩ ⟨g0, g1, g2, g3⟩
      dsimp only at g0 g1 g2 g3
      subst g0
      show ∃ s2, m_X12_lines_L25 M a v x' = _ ∧ _
      unfold m_X12_lines_L25
      rw [hR.1.1.1, if_pos (by omega)]
      exact ⟨_, rfl, g1, g2, g3⟩) (by omega) (by omega) (s0 := (0, 1)) ⟨rfl, by dsimp only; omega, by dsimp only; omega, fun i i0 i1 => ⟨fun q => by
        unfold bit at q
        rw [Int.zero_ediv] at q
        omega, fun q => by omega⟩⟩
    dsimp only at w0 w1 hv2
    rw [e1, bd1_q, bd1_q, e2, bd2_q]
    refine ⟨v, rfl, ?_⟩
    rw [bits8 v0 v1 w0 w1 (fun i i0 i1 => (hv i i0 i1).trans (hv2 i i0 i1).symm)]
