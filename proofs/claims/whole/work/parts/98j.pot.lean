/-! heights: a whole yard has them -/
def sgE (x y : Int) : Int := if (x + y) % 2 = 0 then -1 else 1
def sgS (x y : Int) : Int := if (x + y) % 2 = 0 then 1 else -1
/-- two cells on one brick -/
def sam (W H : Int) (op : Int → Bool) (p : Int → Int) (x y x' y' : Int) : Prop := opn W H op x y = true ∧ opn W H op x' y' = true ∧ p (y * W + x) = p (y' * W + x')
noncomputable def w0E (W H : Int) (op : Int → Bool) (p : Int → Int) (x y : Int) : Int := if bp (sam W H op p x (y - 1) x y) = true then -3 * sgE x y else sgE x y
noncomputable def w0S (W H : Int) (op : Int → Bool) (p : Int → Int) (x y : Int) : Int := if bp (sam W H op p (x - 1) y x y) = true then -3 * sgS x y else sgS x y
def crl (E S : Int → Int → Int) (x y : Int) : Int := E x y + S (x + 1) y - E x (y + 1) - S x y
theorem opn_i {W H : Int} {op : Int → Bool} (hW : WHr W H) {x y : Int} (h : opn W H op x y = true) : iso W H op (y * W + x) = true ∧ (y * W + x) % W = x ∧ (y * W + x) / W = y := by
  obtain ⟨⟨a, b, c, d⟩, o⟩ := opn_t.mp h
  have hc := xy_c hW a b c d
  exact ⟨iso_t.mpr ⟨⟨hc.1, hc.2.1⟩, o⟩, hc.2.2.1, hc.2.2.2⟩
/-- the cell beside, on the same brick: just one -/
theorem bar4 {W H : Int} {op : Int → Bool} {p : Int → Int} (hW : WHr W H) (hp : Pav W H op p) {x y : Int} (h : opn W H op x y = true) : ∃ dx dy, ((dx = 1 ∧ dy = 0) ∨ (dx = -1 ∧ dy = 0) ∨ (dx = 0 ∧ dy = 1) ∨ (dx = 0 ∧ dy = -1)) ∧ ∀ x' y', (x' ≠ x ∨ y' ≠ y) → (sam W H op p x y x' y' ↔ (x' = x + dx ∧ y' = y + dy)) := by
  obtain ⟨hi, h1, h2⟩ := opn_i hW h
  generalize hc : y * W + x = c at *
  obtain ⟨s1, s2, s3, s4⟩ := hp c hi
  obtain ⟨b0, b1, b2, b3, b4, b5, b6, -⟩ := stn_t hW s1
  -- the other cell
  have main : ∀ o, iso W H op o = true → p o = p c → o ≠ c → (∀ e, iso W H op e = true → p e = p c → e = c ∨ e = o) → ∀ x' y', (x' ≠ x ∨ y' ≠ y) → (sam W H op p x y x' y' ↔ (x' = o % W ∧ y' = o / W)) := by
    intro o ho hpo noc hu x' y' hne
    unfold sam
    rw [hc]
    constructor
    · rintro ⟨-, q2, q3⟩
      obtain ⟨e1, e2, e3⟩ := opn_i hW q2
      rcases hu _ e1 q3.symm with q | q
      · exfalso
        rw [q, h1] at e2
        rw [q, h2] at e3
        omega
      · rw [q] at e2 e3
        exact ⟨e2.symm, e3.symm⟩
    · rintro ⟨q1, q2⟩
      obtain ⟨r1, r2⟩ := iso_t.mp ho
      have hcx := cx_r hW r1.1 r1.2
      refine ⟨h, ?_, ?_⟩
      · rw [q1, q2]; exact opn_cell hW ho
      · rw [q1, q2, hcx.2.2.2.2, hpo]
  have uniq : ∀ e, iso W H op e = true → p e = p c → e = p c / 2 ∨ e = oth W H (p c) := fun e he hpe => by
    obtain ⟨t1, t2, t3, t4⟩ := hp e he
    rw [hpe] at t2
    rcases t2 with t2 | t2
    · exact Or.inl t2.symm
    · exact Or.inr t2.symm
  have io : iso W H op (oth W H (p c)) = true := isoW (by omega) b5 b6
  have ih : iso W H op (p c / 2) = true := isoW (by omega) (by omega) b2
  by_cases ev : p c % 2 = 0
  · have e0 : 2 * (p c / 2) = p c := by omega
    have hs := s1
    rw [← e0] at hs
    obtain ⟨q1, q2, q3, q4⟩ := st_e hW hs
    rw [e0] at q2
    have hcx := cx_r hW (c := p c / 2) (by omega) (by omega)
    have hn : (p c / 2 + 1) % W = p c / 2 % W + 1 ∧ (p c / 2 + 1) / W = p c / 2 / W := by
      have := xy_c hW (x := p c / 2 % W + 1) (y := p c / 2 / W) (by omega) q1 hcx.2.2.1 hcx.2.2.2.1
      rw [show p c / 2 / W * W + (p c / 2 % W + 1) = p c / 2 + 1 by omega] at this
      exact ⟨this.2.2.1, this.2.2.2⟩
    rcases s2 with s2 | s2
    · refine ⟨1, 0, Or.inl ⟨rfl, rfl⟩, fun x' y' hne => ?_⟩
      rw [main _ io s4 (by omega) (fun e he hpe => by rcases uniq e he hpe with q | q; exact Or.inl (q.trans s2); exact Or.inr q) x' y' hne, q2, hn.1, hn.2, s2, h1, h2, Int.add_zero]
    · refine ⟨-1, 0, Or.inr (Or.inl ⟨rfl, rfl⟩), fun x' y' hne => ?_⟩
      rw [main _ ih s3 (by omega) (fun e he hpe => by rcases uniq e he hpe with q | q; exact Or.inr q; exact Or.inl (q.trans s2)) x' y' hne]
      rw [q2] at s2
      rw [s2, h1, h2] at hn
      omega
  · have e0 : 2 * (p c / 2) + 1 = p c := by omega
    have hs := s1
    rw [← e0] at hs
    obtain ⟨q2, q3⟩ := st_s hW hs
    have q1 := stn_so hW hs
    rw [e0] at q2
    have hcx := cx_r hW (c := p c / 2) (by omega) (by omega)
    have hn : (p c / 2 + W) % W = p c / 2 % W ∧ (p c / 2 + W) / W = p c / 2 / W + 1 := by
      have := xy_c hW (x := p c / 2 % W) (y := p c / 2 / W + 1) hcx.1 hcx.2.1 (by omega) q1
      rw [Int.add_mul, show p c / 2 / W * W + 1 * W + p c / 2 % W = p c / 2 + W by omega] at this
      exact ⟨this.2.2.1, this.2.2.2⟩
    rcases s2 with s2 | s2
    · refine ⟨0, 1, Or.inr (Or.inr (Or.inl ⟨rfl, rfl⟩)), fun x' y' hne => ?_⟩
      rw [main _ io s4 (by omega) (fun e he hpe => by rcases uniq e he hpe with q | q; exact Or.inl (q.trans s2); exact Or.inr q) x' y' hne, q2, hn.1, hn.2, s2, h1, h2, Int.add_zero]
    · refine ⟨0, -1, Or.inr (Or.inr (Or.inr ⟨rfl, rfl⟩)), fun x' y' hne => ?_⟩
      rw [main _ ih s3 (by omega) (fun e he hpe => by rcases uniq e he hpe with q | q; exact Or.inr q; exact Or.inl (q.trans s2)) x' y' hne]
      rw [q2] at s2
      rw [s2, h1, h2] at hn
      omega
theorem sam_c {W H : Int} {op : Int → Bool} {p : Int → Int} {x y x' y' : Int} : sam W H op p x y x' y' ↔ sam W H op p x' y' x y := ⟨fun h => ⟨h.2.1, h.1, h.2.2.symm⟩, fun h => ⟨h.2.1, h.1, h.2.2.symm⟩⟩
theorem crl_0 {W H : Int} {op : Int → Bool} {p : Int → Int} (hW : WHr W H) (hp : Pav W H op p) {x y : Int} (h : opn W H op x y = true) : crl (w0E W H op p) (w0S W H op p) x y = 0 := by
  obtain ⟨dx, dy, hd, hs⟩ := bar4 hW hp h
  have n1 := hs x (y - 1) (by omega)
  have n2 := hs (x + 1) y (by omega)
  have n3 := hs x (y + 1) (by omega)
  have n4 := hs (x - 1) y (by omega)
  have e1 : w0E W H op p x y = if (x = x + dx ∧ y - 1 = y + dy) then -3 * sgE x y else sgE x y := by
    unfold w0E
    rw [bp_congr (sam_c.trans n1)]
    by_cases z : x = x + dx ∧ y - 1 = y + dy
    · rw [if_pos (bp_t.mpr z), if_pos z]
    · rw [if_neg (fun q => z (bp_t.mp q)), if_neg z]
  have e2 : w0S W H op p (x + 1) y = if (x + 1 = x + dx ∧ y = y + dy) then -3 * sgS (x + 1) y else sgS (x + 1) y := by
    unfold w0S
    rw [show x + 1 - 1 = x by omega, bp_congr n2]
    by_cases z : x + 1 = x + dx ∧ y = y + dy
    · rw [if_pos (bp_t.mpr z), if_pos z]
    · rw [if_neg (fun q => z (bp_t.mp q)), if_neg z]
  have e3 : w0E W H op p x (y + 1) = if (x = x + dx ∧ y + 1 = y + dy) then -3 * sgE x (y + 1) else sgE x (y + 1) := by
    unfold w0E
    rw [show y + 1 - 1 = y by omega, bp_congr n3]
    by_cases z : x = x + dx ∧ y + 1 = y + dy
    · rw [if_pos (bp_t.mpr z), if_pos z]
    · rw [if_neg (fun q => z (bp_t.mp q)), if_neg z]
  have e4 : w0S W H op p x y = if (x - 1 = x + dx ∧ y = y + dy) then -3 * sgS x y else sgS x y := by
    unfold w0S
    rw [bp_congr (sam_c.trans n4)]
    by_cases z : x - 1 = x + dx ∧ y = y + dy
    · rw [if_pos (bp_t.mpr z), if_pos z]
    · rw [if_neg (fun q => z (bp_t.mp q)), if_neg z]
  have g1 : sgE x y = -sgS x y := by unfold sgE sgS; split <;> rfl
  have g2 : sgS (x + 1) y = -sgS x y := by
    unfold sgS
    by_cases z : (x + y) % 2 = 0
    · rw [if_pos z, if_neg (by omega)]
    · rw [if_neg z, if_pos (by omega)]; rfl
  have g3 : sgE x (y + 1) = sgS x y := by
    unfold sgE sgS
    by_cases z : (x + y) % 2 = 0
    · rw [if_pos z, if_neg (by omega)]
    · rw [if_neg z, if_pos (by omega)]
  unfold crl
  rw [e1, e2, e3, e4, g1, g2, g3]
  generalize sgS x y = s
  clear e1 e2 e3 e4 g1 g2 g3 n1 n2 n3 n4 hs
  rcases hd with ⟨q1, q2⟩ | ⟨q1, q2⟩ | ⟨q1, q2⟩ | ⟨q1, q2⟩
  · rw [if_neg (c := x = x + dx ∧ y - 1 = y + dy) (by omega), if_pos (c := x + 1 = x + dx ∧ y = y + dy) (by omega), if_neg (c := x = x + dx ∧ y + 1 = y + dy) (by omega), if_neg (c := x - 1 = x + dx ∧ y = y + dy) (by omega)]; omega
  · rw [if_neg (c := x = x + dx ∧ y - 1 = y + dy) (by omega), if_neg (c := x + 1 = x + dx ∧ y = y + dy) (by omega), if_neg (c := x = x + dx ∧ y + 1 = y + dy) (by omega), if_pos (c := x - 1 = x + dx ∧ y = y + dy) (by omega)]; omega
  · rw [if_neg (c := x = x + dx ∧ y - 1 = y + dy) (by omega), if_neg (c := x + 1 = x + dx ∧ y = y + dy) (by omega), if_pos (c := x = x + dx ∧ y + 1 = y + dy) (by omega), if_neg (c := x - 1 = x + dx ∧ y = y + dy) (by omega)]; omega
  · rw [if_pos (c := x = x + dx ∧ y - 1 = y + dy) (by omega), if_neg (c := x + 1 = x + dx ∧ y = y + dy) (by omega), if_neg (c := x = x + dx ∧ y + 1 = y + dy) (by omega), if_neg (c := x - 1 = x + dx ∧ y = y + dy) (by omega)]; omega
/-- a form with the steps of the open sides, and no curl -/
def FmO (W H : Int) (op : Int → Bool) (p : Int → Int) (E S : Int → Int → Int) : Prop := (∀ x y, (opn W H op x (y - 1) = true ∨ opn W H op x y = true) → E x y = w0E W H op p x y) ∧ (∀ x y, (opn W H op (x - 1) y = true ∨ opn W H op x y = true) → S x y = w0S W H op p x y)
def up2 (E : Int → Int → Int) (x y v : Int) : Int → Int → Int := fun a b => if a = x ∧ b = y then v else E a b
/-- one closed cell is mended at the side to its neighbour -/
theorem mend {W H : Int} {op : Int → Bool} {p : Int → Int} {E S : Int → Int → Int} (h : FmO W H op p E S) {x y x' y' : Int} (hc : opn W H op x y = false) (hc' : opn W H op x' y' = false) (hn : (x' = x ∧ (y' = y - 1 ∨ y' = y + 1)) ∨ (y' = y ∧ (x' = x - 1 ∨ x' = x + 1))) : ∃ E' S', FmO W H op p E' S' ∧ crl E' S' x y = 0 ∧ ∀ a b, (a ≠ x ∨ b ≠ y) → (a ≠ x' ∨ b ≠ y') → crl E' S' a b = crl E S a b := by
  have nt : ∀ b : Bool, b = false → ¬ b = true := fun b h => by rw [h]; simp
  rcases hn with ⟨rfl, rfl | rfl⟩ | ⟨rfl, rfl | rfl⟩
  · refine ⟨up2 E x' y (E x' y - crl E S x' y), S, ⟨fun a b hab => ?_, h.2⟩, ?_, fun a b h1 h2 => ?_⟩
    · unfold up2
      rw [if_neg]
      · exact h.1 a b hab
      · rintro ⟨rfl, rfl⟩
        rcases hab with q | q
        · exact nt _ hc' q
        · exact nt _ hc q
    · unfold crl up2
      rw [if_pos ⟨rfl, rfl⟩, if_neg (by omega)]; omega
    · unfold crl up2
      rw [if_neg (by omega), if_neg (by omega)]
  · refine ⟨up2 E x' (y + 1) (E x' (y + 1) + crl E S x' y), S, ⟨fun a b hab => ?_, h.2⟩, ?_, fun a b h1 h2 => ?_⟩
    · unfold up2
      rw [if_neg]
      · exact h.1 a b hab
      · rintro ⟨rfl, rfl⟩
        rw [show y + 1 - 1 = y by omega] at hab
        rcases hab with q | q
        · exact nt _ hc q
        · exact nt _ hc' q
    · unfold crl up2
      rw [if_neg (by omega), if_pos ⟨rfl, rfl⟩]; omega
    · unfold crl up2
      rw [if_neg (by omega), if_neg (by omega)]
  · refine ⟨E, up2 S x y' (S x y' + crl E S x y'), ⟨h.1, fun a b hab => ?_⟩, ?_, fun a b h1 h2 => ?_⟩
    · unfold up2
      rw [if_neg]
      · exact h.2 a b hab
      · rintro ⟨rfl, rfl⟩
        rcases hab with q | q
        · exact nt _ hc' q
        · exact nt _ hc q
    · unfold crl up2
      rw [if_neg (by omega), if_pos ⟨rfl, rfl⟩]; omega
    · unfold crl up2
      rw [if_neg (by omega), if_neg (by omega)]
  · refine ⟨E, up2 S (x + 1) y' (S (x + 1) y' - crl E S x y'), ⟨h.1, fun a b hab => ?_⟩, ?_, fun a b h1 h2 => ?_⟩
    · unfold up2
      rw [if_neg]
      · exact h.2 a b hab
      · rintro ⟨rfl, rfl⟩
        rw [show x + 1 - 1 = x by omega] at hab
        rcases hab with q | q
        · exact nt _ hc q
        · exact nt _ hc' q
    · unfold crl up2
      rw [if_pos ⟨rfl, rfl⟩, if_neg (by omega)]; omega
    · unfold crl up2
      rw [if_neg (by omega), if_neg (by omega)]
/-- the closed cells, in an order that goes side by side -/
theorem L4_c {W H : Int} {op : Int → Bool} (hW : WHr W H) {n : Int} {L : Int → Int} (h : WV (nbM W H op false false) 9 0 n L) : (∀ j, 0 ≤ j → j < n → opn W H op (L j % 10 - 1) (L j / 10 - 1) = false) ∧ (∀ j, 0 < j → j < n → ∃ a, 0 ≤ a ∧ a < j ∧ ((L a % 10 = L j % 10 ∧ (L a / 10 = L j / 10 - 1 ∨ L a / 10 = L j / 10 + 1)) ∨ (L a / 10 = L j / 10 ∧ (L a % 10 = L j % 10 - 1 ∨ L a % 10 = L j % 10 + 1)))) := by
  obtain ⟨h1, h2, h3, h4, h5, h6, h7⟩ := h
  have key : ∀ j, 0 < j → j < n → ∃ a, 0 ≤ a ∧ a < j ∧ opn W H op (L j % 10 - 1) (L j / 10 - 1) = false ∧ ((L a % 10 = L j % 10 ∧ (L a / 10 = L j / 10 - 1 ∨ L a / 10 = L j / 10 + 1)) ∨ (L a / 10 = L j / 10 ∧ (L a % 10 = L j % 10 - 1 ∨ L a % 10 = L j % 10 + 1))) := fun j j0 j1 => by
    obtain ⟨a, a0, a1, m, m0, m1, e⟩ := h4 j j0 j1
    have hj := h3 j (by omega) j1
    have ha := h3 a a0 (by omega)
    unfold nbM at e
    by_cases c : (0 ≤ L a % 10 + (m % 3 - 1) ∧ L a % 10 + (m % 3 - 1) ≤ W + 1 ∧ 0 ≤ L a / 10 + (m / 3 - 1) ∧ L a / 10 + (m / 3 - 1) ≤ H + 1) ∧ (false = true ∨ m % 3 - 1 = 0 ∨ m / 3 - 1 = 0) ∧ opn W H op (L a % 10 + (m % 3 - 1) - 1) (L a / 10 + (m / 3 - 1) - 1) = false
    · rw [if_pos c] at e
      obtain ⟨c1, c2, c3⟩ := c
      have c2' : m % 3 - 1 = 0 ∨ m / 3 - 1 = 0 := by
        rcases c2 with q | q
        · exact absurd q (by decide)
        · exact q
      have hne := h5 a j a0 a1 j1
      have e1 : L j % 10 = L a % 10 + (m % 3 - 1) ∧ L j / 10 = L a / 10 + (m / 3 - 1) := by
        have hw := hW.2.1
        omega
      refine ⟨a, a0, a1, ?_, ?_⟩
      · rw [e1.1, e1.2]; exact c3
      · omega
    · rw [if_neg c] at e
      omega
  refine ⟨fun j j0 j1 => ?_, fun j j0 j1 => ?_⟩
  · by_cases z : j = 0
    · rw [z, h2]
      have : ¬ opn W H op (0 % 10 - 1) (0 / 10 - 1) = true := fun q => by
        have := (opn_t.mp q).1.1
        omega
      exact Bool.eq_false_iff.mpr this
    · obtain ⟨a, _, _, q, _⟩ := key j (by omega) j1
      exact q
  · obtain ⟨a, a0, a1, _, q⟩ := key j j0 j1
    exact ⟨a, a0, a1, q⟩
/-- all closed cells, mended from the last of the list -/
theorem mend_all {W H : Int} {op : Int → Bool} {p : Int → Int} (hW : WHr W H) {n : Int} {L : Int → Int} (h : WV (nbM W H op false false) 9 0 n L) : ∀ k : Nat, (k : Int) < n → ∃ E S, FmO W H op p E S ∧ ∀ j, n - k ≤ j → j < n → crl E S (L j % 10 - 1) (L j / 10 - 1) = 0 := by
  have hc := L4_c hW h
  have hn := h.1
  have h3 := h.2.2.1
  have h5 := h.2.2.2.2.1
  intro k
  induction k with
  | zero =>
    intro _
    exact ⟨w0E W H op p, w0S W H op p, ⟨fun _ _ _ => rfl, fun _ _ _ => rfl⟩, fun j j0 j1 => by omega⟩
  | succ k ih =>
    intro hk
    obtain ⟨E, S, hF, hz⟩ := ih (by omega)
    obtain ⟨j, hj⟩ : ∃ j, j = n - ((k + 1 : Nat) : Int) := ⟨_, rfl⟩
    obtain ⟨a, a0, a1, hn'⟩ := hc.2 j (by omega) (by omega)
    obtain ⟨E', S', hF', hz', hk'⟩ := mend hF (hc.1 j (by omega) (by omega)) (hc.1 a a0 (by omega)) (x' := L a % 10 - 1) (y' := L a / 10 - 1) (by omega)
    refine ⟨E', S', hF', fun i i0 i1 => ?_⟩
    by_cases z : i = j
    · rw [z]; exact hz'
    · have d1 := h5 j i (by omega) (by omega) i1
      have d2 := h5 a i a0 (by omega) i1
      have r1 := h3 i (by omega) i1
      have r2 := h3 j (by omega) (by omega)
      have r3 := h3 a a0 (by omega)
      rw [hk' _ _ (by omega) (by omega)]
      exact hz i (by omega) i1
theorem cn_100 : ∀ W : Nat, W < 9 → ∀ H : Nat, H < 9 → cn 100 (fun q => decide (0 ≤ q % 10 ∧ q % 10 ≤ W + 1 ∧ 0 ≤ q / 10 ∧ q / 10 ≤ H + 1)) = (W + 2) * (H + 2) := by decide +kernel
theorem cn_sm (P : Int → Bool) : ∀ n : Nat, (cn n P : Int) = sm n (fun c => bI (P c)) := by
  intro n
  induction n with
  | zero => rfl
  | succ n ih =>
    rw [cn_s, sm_s, ← ih]
    cases P n <;> simp [bI]
theorem cn_all : ∀ m : Nat, cn m (fun _ => true) = m := by
  intro m
  induction m with
  | zero => rfl
  | succ m ih => rw [cn_s, ih, if_pos rfl]
/-- a list without doubles that is long enough holds all -/
theorem all_in {n : Int} {L : Int → Int} {N : Nat} {Q : Int → Bool} (h1 : ∀ j, 0 ≤ j → j < n → 0 ≤ L j ∧ L j < N ∧ Q (L j) = true) (h2 : dst n L) (hc : (cn N Q : Int) ≤ n) {x : Int} (x0 : 0 ≤ x) (x1 : x < N) (hx : Q x = true) : inL n L x := by
  obtain ⟨j, j0, j1, -, e⟩ := (cn_inj (P := fun _ => true) (Q := Q) (g := L) (k := n.toNat) (n := N) (fun j j0 j1 _ => h1 j j0 (by omega)) (fun a b a0 a1 b0 b1 _ _ e => by
    rcases Int.lt_trichotomy a b with q | q | q
    · exact absurd e (h2 a b a0 q (by omega))
    · exact q
    · exact absurd e.symm (h2 b a b0 q (by omega)))).2 (by rw [cn_all]; omega) x x0 x1 hx
  exact ⟨j, j0, by omega, e⟩
