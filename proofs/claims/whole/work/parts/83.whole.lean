/-! whole, on both sides -/
theorem WV_one {nb : Int → Int → Int} {K s n n2 : Int} {L L2 : Int → Int} (h : WV nb K s n L) (h2 : WV nb K s n2 L2) : n = n2 := by
  have a := WV_le (by have := h.1; omega) (by have := h2.1; omega) h.2.2.2.2.1 (WV_sub h h2 (fun p m _ _ m0 m1 _ _ => ⟨m, m0, m1, rfl⟩))
  have b := WV_le (by have := h2.1; omega) (by have := h.1; omega) h2.2.2.2.2.1 (WV_sub h2 h (fun p m _ _ m0 m1 _ _ => ⟨m, m0, m1, rfl⟩))
  omega
theorem fst_one {W H : Int} {op : Int → Bool} {f g : Int} (h : fstO W H op f) (h2 : fstO W H op g) : f = g := by
  have a := iso_t.mp h.1
  have b := iso_t.mp h2.1
  rcases Int.lt_trichotomy f g with z | z | z
  · have := h2.2 f a.1.1 z
    rw [a.2] at this; exact absurd this (by decide)
  · exact z
  · have := h.2 g b.1.1 z
    rw [b.2] at this; exact absurd this (by decide)
def phi (W c : Int) : Int := 10 * (c / W + 1) + c % W + 1
theorem phi_s {W H c : Int} (hW : WHr W H) (c0 : 0 ≤ c) (c1 : c < W * H) : 0 ≤ phi W c ∧ phi W c < 100 ∧ phi W c % 10 = c % W + 1 ∧ phi W c / 10 = c / W + 1 := by
  have hcx := cx_r hW c0 c1
  have hw2 := hW.2.1
  have hh2 := hW.2.2.2
  unfold phi
  omega
theorem phi_inj {W H c d : Int} (hW : WHr W H) (c0 : 0 ≤ c) (c1 : c < W * H) (d0 : 0 ≤ d) (d1 : d < W * H) (h : phi W c = phi W d) : c = d := by
  have a := phi_s hW c0 c1
  have b := phi_s hW d0 d1
  have hc := cx_r hW c0 c1
  have hd := cx_r hW d0 d1
  have e1 : c % W = d % W := by rw [h] at a; omega
  have e2 : c / W = d / W := by rw [h] at a; omega
  rw [← hc.2.2.2.2, ← hd.2.2.2.2, e1, e2]
theorem opn_cell {W H : Int} {op : Int → Bool} (hW : WHr W H) {c : Int} (hc : iso W H op c = true) : opn W H op (c % W) (c / W) = true := by
  have h := iso_t.mp hc
  have hcx := cx_r hW h.1.1 h.1.2
  exact opn_t.mpr ⟨⟨hcx.1, hcx.2.1, hcx.2.2.1, hcx.2.2.2.1⟩, by rw [hcx.2.2.2.2]; exact h.2⟩
/-- a neighbour of a cell, told in the frame -/
theorem nbM_of {W H : Int} {op : Int → Bool} (hW : WHr W H) {p dx dy k : Int} (hp : iso W H op p = true) (hk : k % 3 - 1 = dx) (hk2 : k / 3 - 1 = dy) (hd : dx = 0 ∨ dy = 0) (ho : opn W H op (p % W + dx) (p / W + dy) = true) : nbM W H op false true (phi W p) k = phi W (oAt W H op (p % W + dx) (p / W + dy)) := by
  have h := (iso_t.mp hp).1
  have a := phi_s hW h.1 h.2
  obtain ⟨⟨b1, b2, b3, b4⟩, b5⟩ := opn_t.mp ho
  have hxy := xy_c hW b1 b2 b3 b4
  have e : oAt W H op (p % W + dx) (p / W + dy) = (p / W + dy) * W + (p % W + dx) := if_pos ho
  unfold nbM
  rw [a.2.2.1, a.2.2.2, hk, hk2, e, if_pos ⟨⟨by omega, by omega, by omega, by omega⟩, Or.inr hd, by rw [show p % W + 1 + dx - 1 = p % W + dx by omega, show p / W + 1 + dy - 1 = p / W + dy by omega]; exact ho⟩]
  unfold phi
  rw [hxy.2.2.1, hxy.2.2.2]
  omega
theorem open_map {W H : Int} {op : Int → Bool} (hW : WHr W H) {f n : Int} {L : Int → Int} (hf : iso W H op f = true) (h : WV (bes W H op) 4 f n L) : WV (nbM W H op false true) 9 (phi W f) n (fun j => phi W (L j)) := by
  have hi := PW_iso hW hf h
  have hr := fun j j0 j1 => (iso_t.mp (hi j j0 j1)).1
  obtain ⟨h1, h2, h3, h4, h5, h6, h7⟩ := h
  refine ⟨h1, by dsimp only; rw [h2], fun j j0 j1 => ?_, fun j j0 j1 => ?_, fun a b a0 ab b1 => ?_, fun a a0 a1 a2 m m0 m1 q0 q1 => ?_, fun z => by omega⟩
  · have := phi_s hW (hr j j0 j1).1 (hr j j0 j1).2
    exact ⟨this.1, this.2.1⟩
  · obtain ⟨a, a0, a1, m, m0, m1, e⟩ := h4 j j0 j1
    have ha := hi a a0 (by omega)
    have hj := hr j (by omega) j1
    have hm : m = 0 ∨ m = 1 ∨ m = 2 ∨ m = 3 := by omega
    have key : ∀ dx dy k, k % 3 - 1 = dx → k / 3 - 1 = dy → (dx = 0 ∨ dy = 0) → oAt W H op (L a % W + dx) (L a / W + dy) = L j → nbM W H op false true (phi W (L a)) k = phi W (L j) := by
      intro dx dy k e1 e2 e3 e4
      have ho : opn W H op (L a % W + dx) (L a / W + dy) = true := by
        rcases oAt_r (op := op) hW (L a % W + dx) (L a / W + dy) with y | y
        · rw [e4] at y; omega
        · exact y.2.2.2.1
      rw [nbM_of hW ha e1 e2 e3 ho, e4]
    unfold bes at e
    rcases hm with rfl | rfl | rfl | rfl
    · refine ⟨a, a0, a1, 1, by omega, by omega, key 0 (-1) 1 (by decide) (by decide) (Or.inl rfl) ?_⟩
      rw [if_pos rfl] at e
      rw [Int.add_zero]; exact e
    · refine ⟨a, a0, a1, 3, by omega, by omega, key (-1) 0 3 (by decide) (by decide) (Or.inr rfl) ?_⟩
      rw [if_neg (by decide), if_pos rfl] at e
      rw [Int.add_zero]; exact e
    · refine ⟨a, a0, a1, 5, by omega, by omega, key 1 0 5 (by decide) (by decide) (Or.inr rfl) ?_⟩
      rw [if_neg (by decide), if_neg (by decide), if_pos rfl] at e
      rw [Int.add_zero]; exact e
    · refine ⟨a, a0, a1, 7, by omega, by omega, key 0 1 7 (by decide) (by decide) (Or.inl rfl) ?_⟩
      rw [if_neg (by decide), if_neg (by decide), if_neg (by decide)] at e
      rw [Int.add_zero]; exact e
  · intro e
    have ha := hr a a0 (by omega)
    have hb := hr b (by omega) b1
    exact h5 a b a0 ab b1 (phi_inj hW ha.1 ha.2 hb.1 hb.2 e)
  · dsimp only at q0 q1 ⊢
    have ha := hi a a0 a2
    have har := hr a a0 a2
    have hp := phi_s hW har.1 har.2
    -- the step is a side
    have hc : (0 ≤ phi W (L a) % 10 + (m % 3 - 1) ∧ phi W (L a) % 10 + (m % 3 - 1) ≤ W + 1 ∧ 0 ≤ phi W (L a) / 10 + (m / 3 - 1) ∧ phi W (L a) / 10 + (m / 3 - 1) ≤ H + 1) ∧ (false = true ∨ m % 3 - 1 = 0 ∨ m / 3 - 1 = 0) ∧ opn W H op (phi W (L a) % 10 + (m % 3 - 1) - 1) (phi W (L a) / 10 + (m / 3 - 1) - 1) = true := by
      refine Classical.byContradiction fun w => ?_
      unfold nbM at q0
      rw [if_neg w] at q0
      omega
    have hd : m % 3 - 1 = 0 ∨ m / 3 - 1 = 0 := by
      rcases hc.2.1 with w | w
      · exact absurd w (by decide)
      · exact w
    have ho : opn W H op (L a % W + (m % 3 - 1)) (L a / W + (m / 3 - 1)) = true := by
      have := hc.2.2
      rw [hp.2.2.1, hp.2.2.2, show L a % W + 1 + (m % 3 - 1) - 1 = L a % W + (m % 3 - 1) by omega, show L a / W + 1 + (m / 3 - 1) - 1 = L a / W + (m / 3 - 1) by omega] at this
      exact this
    have e := nbM_of hW ha (k := m) rfl rfl hd ho
    rw [e]
    have hin : ∀ c, inL n L c → inL n (fun j => phi W (L j)) (phi W c) := by
      rintro c ⟨j, j0, j1, ej⟩
      exact ⟨j, j0, j1, by dsimp only; rw [ej]⟩
    have hpos : 0 ≤ oAt W H op (L a % W + (m % 3 - 1)) (L a / W + (m / 3 - 1)) ∧ oAt W H op (L a % W + (m % 3 - 1)) (L a / W + (m / 3 - 1)) < 100 := by
      have h8 := WH_le hW
      rcases oAt_r (op := op) hW (L a % W + (m % 3 - 1)) (L a / W + (m / 3 - 1)) with y | y
      · rw [y.2] at ho; exact absurd ho (by decide)
      · omega
    apply hin
    have hm : m = 0 ∨ m = 1 ∨ m = 2 ∨ m = 3 ∨ m = 4 ∨ m = 5 ∨ m = 6 ∨ m = 7 ∨ m = 8 := by omega
    have use : ∀ k, 0 ≤ k → k < 4 → bes W H op (L a) k = oAt W H op (L a % W + (m % 3 - 1)) (L a / W + (m / 3 - 1)) → inL n L (oAt W H op (L a % W + (m % 3 - 1)) (L a / W + (m / 3 - 1))) := by
      intro k k0 k1 ek
      have := h6 a a0 a2 a2 k k0 k1
      rw [ek] at this
      exact this hpos.1 hpos.2
    rcases hm with rfl | rfl | rfl | rfl | rfl | rfl | rfl | rfl | rfl
    · exact absurd hd (by decide)
    · exact use 0 (by omega) (by omega) (by unfold bes; rw [if_pos rfl]; congr 1; omega)
    · exact absurd hd (by decide)
    · exact use 1 (by omega) (by omega) (by unfold bes; rw [if_neg (by decide), if_pos rfl]; congr 1; omega)
    · refine ⟨a, a0, a2, ?_⟩
      have hcx := cx_r hW har.1 har.2
      unfold oAt
      rw [if_pos ho]
      show L a = (L a / W + 0) * W + (L a % W + 0)
      rw [Int.add_zero, Int.add_zero]; exact hcx.2.2.2.2.symm
    · exact use 2 (by omega) (by omega) (by unfold bes; rw [if_neg (by decide), if_neg (by decide), if_pos rfl]; congr 1; omega)
    · exact absurd hd (by decide)
    · exact use 3 (by omega) (by omega) (by unfold bes; rw [if_neg (by decide), if_neg (by decide), if_neg (by decide)]; congr 1; omega)
    · exact absurd hd (by decide)
theorem nbC_M {W H : Int} {op : Int → Bool} (p k : Int) : nbM W H op true false p k = nbC W H op p k := by
  unfold nbM nbC clsd
  rw [show p % 10 + (k % 3 - 1) = p % 10 + k % 3 - 1 by omega, show p / 10 + (k / 3 - 1) = p / 10 + k / 3 - 1 by omega]
  generalize p % 10 + k % 3 - 1 = X
  generalize p / 10 + k / 3 - 1 = Y
  by_cases c1 : 0 ≤ X ∧ X ≤ W + 1 ∧ 0 ≤ Y ∧ Y ≤ H + 1
  · rw [decide_eq_true c1]
    cases opn W H op (X - 1) (Y - 1)
    · rw [if_pos ⟨c1, Or.inl rfl, rfl⟩, if_pos (by decide)]; omega
    · rw [if_neg (fun z => absurd z.2.2 (by decide)), if_neg (by decide)]
  · rw [decide_eq_false c1, if_neg (fun z => c1 z.1), if_neg (by simp)]
def Who (W H : Int) (op : Int → Bool) : Prop := nOp W H op ≠ 0 ∧ (∃ f n L, fstO W H op f ∧ WV (bes W H op) 4 f n L ∧ n = nOp W H op) ∧ (∃ n L, WV (nbC W H op) 9 0 n L ∧ n = (W + 2) * (H + 2) - nOp W H op) ∧ ¬ tCb W H op
theorem isWhole_s {M : Mem} {W H : Int} {op : Int → Bool} (hy : YC M W H op) : ∃ M2, m_X5_isWhole M = some (bp (Who W H op), M2) ∧ Fr [25, 26, 27] M M2 := by
  have fin : ∀ (M3 : Mem) (v : Bool), (if bI v = 0 ∨ bI v = 1 then some (decide (bI v = 1), M3) else none) = some (v, M3) := by
    intro M3 v
    cases v <;> rfl
  unfold m_X5_isWhole
  obtain ⟨M1, f1, h1⟩ := openIsOne_s hy
  rcases h1 with ⟨h1, e1⟩ | ⟨f, n, L, h1, h2, e1⟩
  · rw [e1, bd2_q, if_pos (by decide), bd2_q, bp_f.mpr (fun z => z.1 h1)]
    exact ⟨M1, fin M1 false, f1⟩
  · rw [e1, bd2_q]
    have hn0 : nOp W H op ≠ 0 := by
      intro z
      have := (nOp_0 hy.2.2.1).mp z f (iso_t.mp h1.1).1.1 (iso_t.mp h1.1).1.2
      rw [(iso_t.mp h1.1).2] at this
      exact absurd this (by decide)
    by_cases z : n = nOp W H op
    · rw [decide_eq_true z, if_neg (by decide)]
      obtain ⟨n2, L2, M2, g1, e2, f2⟩ := closedIsOne_s (hy.fr f1 (by decide) (by decide))
      have fA : Fr [25, 26, 27] M M2 := f1.trans f2 (by decide)
      rw [e2, bd2_q]
      by_cases z2 : n2 = (W + 2) * (H + 2) - nOp W H op
      · rw [decide_eq_true z2, if_neg (by decide), touches_s (hy.fr fA (by decide) (by decide)), bd1_q]
        by_cases z3 : tCb W H op
        · rw [bp_t.mpr z3, if_neg (by decide), bd2_q, bp_f.mpr (fun w => w.2.2.2 z3)]
          exact ⟨M2, fin M2 false, fA⟩
        · rw [bp_f.mpr z3, if_pos (by decide), bd2_q, bp_t.mpr ⟨hn0, ⟨f, n, L, h1, h2, z⟩, ⟨n2, L2, g1, z2⟩, z3⟩]
          exact ⟨M2, fin M2 true, fA⟩
      · rw [decide_eq_false z2, if_pos (by decide), bd2_q, bp_f.mpr (fun ⟨_, _, ⟨n3, L3, g3, g4⟩, _⟩ => z2 (by rw [WV_one g1 g3]; exact g4))]
        exact ⟨M2, fin M2 false, fA⟩
    · rw [decide_eq_false z, if_pos (by decide), bd2_q, bp_f.mpr (fun ⟨_, ⟨f3, n3, L3, g2, g3, g4⟩, _⟩ => z (by
        rw [fst_one g2 h1] at g3
        rw [WV_one h2 g3]; exact g4))]
      exact ⟨M1, fin M1 false, f1⟩
