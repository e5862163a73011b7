/-! heights: the closed cells hang together by sides; a potential -/
theorem nOp_cn {W H : Int} {op : Int → Bool} : nOp W H op = (cn (W * H).toNat op : Int) := by
  rw [cn_sm]
  rfl
theorem nbM_at {W H : Int} {op : Int → Bool} {q dx dy : Int} (hx : dx = -1 ∨ dx = 0 ∨ dx = 1) (hy : dy = -1 ∨ dy = 0 ∨ dy = 1) (hd : dx = 0 ∨ dy = 0) (hc : clsd W H op (q % 10 + dx) (q / 10 + dy) = true) : nbM W H op false false q ((dx + 1) + 3 * (dy + 1)) = 10 * (q / 10 + dy) + (q % 10 + dx) := by
  unfold clsd at hc
  rw [Bool.and_eq_true, decide_eq_true_iff, Bool.not_eq_true'] at hc
  unfold nbM
  have e1 : (dx + 1 + 3 * (dy + 1)) % 3 - 1 = dx := by omega
  have e2 : (dx + 1 + 3 * (dy + 1)) / 3 - 1 = dy := by omega
  rw [e1, e2, if_pos ⟨hc.1, Or.inr hd, hc.2⟩]
theorem nbC_at {W H : Int} {op : Int → Bool} {q m : Int} (h0 : 0 ≤ nbC W H op q m) : nbC W H op q m = 10 * (q / 10 + (m / 3 - 1)) + (q % 10 + (m % 3 - 1)) ∧ clsd W H op (q % 10 + (m % 3 - 1)) (q / 10 + (m / 3 - 1)) = true := by
  unfold nbC at h0 ⊢
  by_cases c : clsd W H op (q % 10 + m % 3 - 1) (q / 10 + m / 3 - 1) = true
  · rw [if_pos c]
    refine ⟨by omega, ?_⟩
    rw [show q % 10 + (m % 3 - 1) = q % 10 + m % 3 - 1 by omega, show q / 10 + (m / 3 - 1) = q / 10 + m / 3 - 1 by omega]; exact c
  · rw [if_neg c] at h0; omega
theorem clsd_r {W H : Int} {op : Int → Bool} {x y : Int} (h : clsd W H op x y = true) : (0 ≤ x ∧ x ≤ W + 1 ∧ 0 ≤ y ∧ y ≤ H + 1) ∧ opn W H op (x - 1) (y - 1) = false := by
  unfold clsd at h
  rw [Bool.and_eq_true, decide_eq_true_iff, Bool.not_eq_true'] at h
  exact h
theorem clsd_or {W H : Int} {op : Int → Bool} {x y : Int} (h : 0 ≤ x ∧ x ≤ W + 1 ∧ 0 ≤ y ∧ y ≤ H + 1) : clsd W H op x y = true ∨ opn W H op (x - 1) (y - 1) = true := by
  unfold clsd
  rw [decide_eq_true h]
  cases opn W H op (x - 1) (y - 1)
  · exact Or.inl rfl
  · exact Or.inr rfl
/-- from a closed cell to one that touches it, by sides -/
theorem by_sides {W H : Int} {op : Int → Bool} (hW : WHr W H) (ht : ¬ tCb W H op) {n : Int} {L : Int → Int} (h : WV (nbM W H op false false) 9 0 n L) {q m : Int} (hq : inL n L q) (q0 : 0 ≤ q) (q1 : q < 100) (m0 : 0 ≤ m) (m1 : m < 9) (hcq : clsd W H op (q % 10) (q / 10) = true) (h0 : 0 ≤ nbC W H op q m) : inL n L (nbC W H op q m) := by
  obtain ⟨e, hc⟩ := nbC_at h0
  rw [e]
  generalize hdx : m % 3 - 1 = dx at *
  generalize hdy : m / 3 - 1 = dy at *
  have bx' : dx = -1 ∨ dx = 0 ∨ dx = 1 := by omega
  have by' : dy = -1 ∨ dy = 0 ∨ dy = 1 := by omega
  have hw := hW.2.1
  have hh := hW.2.2.2
  have go : ∀ r ex ey, inL n L r → 0 ≤ r → r < 100 → (ex = -1 ∨ ex = 0 ∨ ex = 1) → (ey = -1 ∨ ey = 0 ∨ ey = 1) → (ex = 0 ∨ ey = 0) → clsd W H op (r % 10 + ex) (r / 10 + ey) = true → inL n L (10 * (r / 10 + ey) + (r % 10 + ex)) := by
    intro r ex ey ⟨j, j0, j1, ej⟩ r0 r1 b1 b2 b3 b4
    have hcr := (clsd_r b4).1
    have := h.2.2.2.2.2.1 j j0 j1 j1 ((ex + 1) + 3 * (ey + 1)) (by omega) (by omega)
    rw [ej, nbM_at b1 b2 b3 b4] at this
    exact this (by omega) (by omega)
  by_cases hd : dx = 0 ∨ dy = 0
  · exact go q dx dy hq q0 q1 bx' by' hd hc
  · have hcr := (clsd_r hc).1
    have hqr := (clsd_r hcq).1
    rcases clsd_or (op := op) (W := W) (H := H) (x := q % 10 + dx) (y := q / 10) (by omega) with c1 | c1
    · have i1 := go q dx 0 hq q0 q1 bx' (Or.inr (Or.inl rfl)) (Or.inr rfl) (by rw [Int.add_zero]; exact c1)
      have i2 := go _ 0 dy i1 (by omega) (by omega) (Or.inr (Or.inl rfl)) by' (Or.inl rfl) (by
        rw [show (10 * (q / 10 + 0) + (q % 10 + dx)) % 10 + 0 = q % 10 + dx by omega, show (10 * (q / 10 + 0) + (q % 10 + dx)) / 10 + dy = q / 10 + dy by omega]; exact hc)
      rw [show (10 * (q / 10 + 0) + (q % 10 + dx)) % 10 + 0 = q % 10 + dx by omega, show (10 * (q / 10 + 0) + (q % 10 + dx)) / 10 + dy = q / 10 + dy by omega] at i2
      exact i2
    · rcases clsd_or (op := op) (W := W) (H := H) (x := q % 10) (y := q / 10 + dy) (by omega) with c2 | c2
      · have i1 := go q 0 dy hq q0 q1 (Or.inr (Or.inl rfl)) by' (Or.inl rfl) (by rw [Int.add_zero]; exact c2)
        have i2 := go _ dx 0 i1 (by omega) (by omega) bx' (Or.inr (Or.inl rfl)) (Or.inr rfl) (by
          rw [show (10 * (q / 10 + dy) + (q % 10 + 0)) % 10 + dx = q % 10 + dx by omega, show (10 * (q / 10 + dy) + (q % 10 + 0)) / 10 + 0 = q / 10 + dy by omega]; exact hc)
        rw [show (10 * (q / 10 + dy) + (q % 10 + 0)) % 10 + dx = q % 10 + dx by omega, show (10 * (q / 10 + dy) + (q % 10 + 0)) / 10 + 0 = q / 10 + dy by omega] at i2
        exact i2
      · exfalso
        have o1 := (opn_t.mp c1).1
        have o2 := (opn_t.mp c2).1
        have k1 := (clsd_r hc).2
        have k2 := (clsd_r hcq).2
        apply ht
        have d1 : dx = -1 ∨ dx = 1 := by omega
        have d2 : dy = -1 ∨ dy = 1 := by omega
        rcases d1 with rfl | rfl <;> rcases d2 with rfl | rfl
        · refine ⟨q % 10 - 1, q / 10 - 1, by omega, by omega, by omega, by omega, ?_⟩
          unfold ckb
          rw [show q % 10 - 1 - 1 = q % 10 + -1 - 1 by omega, show q / 10 - 1 - 1 = q / 10 + -1 - 1 by omega, k1, k2, c1, c2]
          exact ⟨rfl, rfl, by decide⟩
        · refine ⟨q % 10 - 1, q / 10, by omega, by omega, by omega, by omega, ?_⟩
          unfold ckb
          rw [show q / 10 + 1 - 1 = q / 10 by omega] at k1 c2
          rw [show q % 10 - 1 - 1 = q % 10 + -1 - 1 by omega, k1, k2, c1, c2]
          exact ⟨rfl, rfl, by decide⟩
        · refine ⟨q % 10, q / 10 - 1, by omega, by omega, by omega, by omega, ?_⟩
          unfold ckb
          rw [show q % 10 + 1 - 1 = q % 10 by omega] at k1 c1
          rw [show q / 10 - 1 - 1 = q / 10 + -1 - 1 by omega, k1, k2, c1, c2]
          exact ⟨rfl, rfl, by decide⟩
        · refine ⟨q % 10, q / 10, by omega, by omega, by omega, by omega, ?_⟩
          unfold ckb
          rw [show q % 10 + 1 - 1 = q % 10 by omega] at k1 c1
          rw [show q / 10 + 1 - 1 = q / 10 by omega] at k1 c2
          rw [k1, k2, c1, c2]
          exact ⟨rfl, rfl, by decide⟩
theorem L8_all {W H : Int} {op : Int → Bool} (hW : WHr W H) {n : Int} {L : Int → Int} (h : WV (nbC W H op) 9 0 n L) (hn : n = (W + 2) * (H + 2) - nOp W H op) : (∀ j, 0 ≤ j → j < n → clsd W H op (L j % 10) (L j / 10) = true) ∧ ∀ q, 0 ≤ q → q < 100 → clsd W H op (q % 10) (q / 10) = true → inL n L q := by
  have h8 := WH_le hW
  obtain ⟨a1, a2, a3, a4⟩ := hW
  have hW : WHr W H := ⟨a1, a2, a3, a4⟩
  have hcl : ∀ j, 0 ≤ j → j < n → clsd W H op (L j % 10) (L j / 10) = true := fun j j0 j1 => by
    by_cases z : j = 0
    · rw [z, h.2.1]
      rcases clsd_or (op := op) (W := W) (H := H) (x := 0 % 10) (y := 0 / 10) (by omega) with c | c
      · exact c
      · have := (opn_t.mp c).1; omega
    · obtain ⟨a, _, _, m, m0, m1, e⟩ := h.2.2.2.1 j (by omega) j1
      have hj := h.2.2.1 j j0 j1
      obtain ⟨e1, e2⟩ := nbC_at (W := W) (H := H) (op := op) (q := L a) (m := m) (by omega)
      rw [e] at e1
      have hr := (clsd_r e2).1
      rw [e1, show (10 * (L a / 10 + (m / 3 - 1)) + (L a % 10 + (m % 3 - 1))) % 10 = L a % 10 + (m % 3 - 1) by omega, show (10 * (L a / 10 + (m / 3 - 1)) + (L a % 10 + (m % 3 - 1))) / 10 = L a / 10 + (m / 3 - 1) by omega]
      exact e2
  refine ⟨hcl, fun q q0 q1 hq => ?_⟩
  refine all_in (Q := fun q => clsd W H op (q % 10) (q / 10)) (N := 100) (fun j j0 j1 => ⟨(h.2.2.1 j j0 j1).1, (h.2.2.1 j j0 j1).2, hcl j j0 j1⟩) h.2.2.2.2.1 ?_ q0 q1 hq
  have c1 := cn_100 W.toNat (by omega) H.toNat (by omega)
  rw [Int.toNat_of_nonneg (show 0 ≤ W by omega), Int.toNat_of_nonneg (show 0 ≤ H by omega)] at c1
  have c2 := cn_sp (fun q => decide (0 ≤ q % 10 ∧ q % 10 ≤ W + 1 ∧ 0 ≤ q / 10 ∧ q / 10 ≤ H + 1)) (fun q => opn W H op (q % 10 - 1) (q / 10 - 1)) 100
  have c3 : cn (W * H).toNat op ≤ cn 100 (fun q => decide (0 ≤ q % 10 ∧ q % 10 ≤ W + 1 ∧ 0 ≤ q / 10 ∧ q / 10 ≤ H + 1) && opn W H op (q % 10 - 1) (q / 10 - 1)) := (cn_inj (g := phi W) (fun c c0 c1 hc => by
    have hp := phi_s hW c0 (by omega)
    have hcx := cx_r hW c0 (show c < W * H by omega)
    refine ⟨hp.1, by omega, ?_⟩
    rw [Bool.and_eq_true, decide_eq_true_iff, hp.2.2.1, hp.2.2.2, show c % W + 1 - 1 = c % W by omega, show c / W + 1 - 1 = c / W by omega]
    exact ⟨by omega, opn_cell hW (isoW c0 (by omega) hc)⟩) (fun c d c0 c1 d0 d1 _ _ e => phi_inj hW c0 (by omega) d0 (by omega) e)).1
  have c4 : cn 100 (fun q => clsd W H op (q % 10) (q / 10)) = cn 100 (fun q => decide (0 ≤ q % 10 ∧ q % 10 ≤ W + 1 ∧ 0 ≤ q / 10 ∧ q / 10 ≤ H + 1) && !opn W H op (q % 10 - 1) (q / 10 - 1)) := rfl
  have c5 : (((W.toNat + 2) * (H.toNat + 2) : Nat) : Int) = (W + 2) * (H + 2) := by
    rw [Int.natCast_mul, Int.natCast_add, Int.natCast_add, Int.toNat_of_nonneg (show 0 ≤ W by omega), Int.toNat_of_nonneg (show 0 ≤ H by omega)]
    rfl
  rw [hn, nOp_cn, ← c5, ← c1, c2, c4]
  omega
theorem L4_all {W H : Int} {op : Int → Bool} (hW : WHr W H) (hw : Who W H op) {n : Int} {L : Int → Int} (h : WV (nbM W H op false false) 9 0 n L) {q : Int} (q0 : 0 ≤ q) (q1 : q < 100) (hq : clsd W H op (q % 10) (q / 10) = true) : inL n L q := by
  obtain ⟨-, -, ⟨n8, L8, h8, e8⟩, ht⟩ := hw
  obtain ⟨hc, ha⟩ := L8_all hW h8 e8
  have key : ∀ m : Nat, ∀ j : Int, 0 ≤ j → j ≤ m → j < n8 → inL n L (L8 j) := by
    intro m
    induction m with
    | zero =>
      intro j j0 j1 _
      rw [show j = 0 by omega, h8.2.1]
      exact ⟨0, by omega, by have := h.1; omega, h.2.1⟩
    | succ m ih =>
      intro j j0 j1 jn
      by_cases z : j = 0
      · rw [z, h8.2.1]
        exact ⟨0, by omega, by have := h.1; omega, h.2.1⟩
      · obtain ⟨a, a0, aj, k, k0, k1, e⟩ := h8.2.2.2.1 j (by omega) jn
        have hj := h8.2.2.1 j j0 jn
        have har := h8.2.2.1 a a0 (by omega)
        rw [← e]
        exact by_sides hW ht h (ih a a0 (by omega) (by omega)) har.1 har.2 k0 k1 (hc a a0 (by omega)) (by omega)
  obtain ⟨j, j0, j1, ej⟩ := ha q q0 q1 hq
  rw [← ej]
  exact key j.toNat j j0 (by omega) j1
/-- a height for each corner: steps of the open sides add up -/
theorem pot_ex {M : Mem} {W H : Int} {op : Int → Bool} {p : Int → Int} (hy : YR M W H op) (hw : Who W H op) (hp : Pav W H op p) : ∃ ph : Int → Int → Int, (∀ x y, 0 ≤ x → x < W → 0 ≤ y → y ≤ H → (opn W H op x (y - 1) = true ∨ opn W H op x y = true) → ¬ sam W H op p x (y - 1) x y → ph (x + 1) y = ph x y + sgE x y) ∧ (∀ x y, 0 ≤ x → x ≤ W → 0 ≤ y → y < H → (opn W H op (x - 1) y = true ∨ opn W H op x y = true) → ¬ sam W H op p (x - 1) y x y → ph x (y + 1) = ph x y + sgS x y) := by
  have hW := hy.2.2.1
  obtain ⟨n, L, M2, h4, -, -⟩ := meets_s hy (s := 0) (by omega) (by omega) false
  have ho : opn W H op (0 % 10 - 1) (0 / 10 - 1) = false := Bool.eq_false_iff.mpr (fun q => by have := (opn_t.mp q).1; omega)
  rw [ho] at h4
  have hn := h4.1
  obtain ⟨E, S, hF, hz⟩ := mend_all (p := p) hW h4 (n - 1).toNat (by omega)
  have h0 : ∀ x y, 0 ≤ x → x < W → 0 ≤ y → y < H → crl E S x y = 0 := fun x y x0 x1 y0 y1 => by
    by_cases c : opn W H op x y = true
    · have e1 : crl E S x y = crl (w0E W H op p) (w0S W H op p) x y := by
        unfold crl
        rw [hF.1 x y (Or.inr c), hF.2 (x + 1) y (Or.inl (by rw [show x + 1 - 1 = x by omega]; exact c)), hF.1 x (y + 1) (Or.inl (by rw [show y + 1 - 1 = y by omega]; exact c)), hF.2 x y (Or.inr c)]
      rw [e1]; exact crl_0 hW hp c
    · have hw' := hW.2.1
      have hh' := hW.2.2.2
      have hq : clsd W H op ((10 * (y + 1) + (x + 1)) % 10) ((10 * (y + 1) + (x + 1)) / 10) = true := by
        rw [show (10 * (y + 1) + (x + 1)) % 10 = x + 1 by omega, show (10 * (y + 1) + (x + 1)) / 10 = y + 1 by omega]
        rcases clsd_or (op := op) (W := W) (H := H) (x := x + 1) (y := y + 1) (by omega) with q | q
        · exact q
        · rw [show x + 1 - 1 = x by omega, show y + 1 - 1 = y by omega] at q
          exact absurd q c
      obtain ⟨j, j0, j1, ej⟩ := L4_all hW hw h4 (q := 10 * (y + 1) + (x + 1)) (by omega) (by omega) hq
      have jn : j ≠ 0 := fun q => by
        rw [q, h4.2.1] at ej
        omega
      have := hz j (by omega) j1
      rw [ej, show (10 * (y + 1) + (x + 1)) % 10 - 1 = x by omega, show (10 * (y + 1) + (x + 1)) / 10 - 1 = y by omega] at this
      exact this
  have eS : ∀ x y, 0 ≤ y → (sI' x (fun i => E i 0) + sI' (y + 1) (fun j => S x j)) = (sI' x (fun i => E i 0) + sI' y (fun j => S x j)) + S x y := fun x y y0 => by
    rw [sI'_s y0]; omega
  have eE : ∀ y : Nat, ∀ x, 0 ≤ x → x < W → (y : Int) ≤ H → (sI' (x + 1) (fun i => E i 0) + sI' (y : Int) (fun j => S (x + 1) j)) = (sI' x (fun i => E i 0) + sI' (y : Int) (fun j => S x j)) + E x y := by
    intro y
    induction y with
    | zero =>
      intro x x0 x1 _
      rw [sI'_s x0]
      show sI' x (fun i => E i 0) + E x 0 + 0 = sI' x (fun i => E i 0) + 0 + E x 0
      omega
    | succ y ih =>
      intro x x0 x1 hyy
      have h1 := ih x x0 x1 (by omega)
      have h2 := h0 x y x0 x1 (by omega) (by omega)
      unfold crl at h2
      rw [show ((y + 1 : Nat) : Int) = (y : Int) + 1 by omega, sI'_s (i := (y : Int)) (by omega), sI'_s (i := (y : Int)) (by omega)]
      omega
  refine ⟨fun x y => sI' x (fun i => E i 0) + sI' y (fun j => S x j), fun x y x0 x1 y0 y1 ho hs => ?_, fun x y x0 x1 y0 y1 ho hs => ?_⟩
  · have := eE y.toNat x x0 x1 (by omega)
    rw [Int.toNat_of_nonneg y0] at this
    dsimp only
    rw [this, hF.1 x y ho]
    unfold w0E
    rw [if_neg (fun q => hs (bp_t.mp q))]
  · dsimp only
    rw [eS x y y0, hF.2 x y ho]
    unfold w0S
    rw [if_neg (fun q => hs (bp_t.mp q))]
