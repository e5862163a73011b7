/-! searches from a bare cell -/
def BI (W H : Int) (op : Int → Bool) (col : Bool) (mu : Int → Int) (O : Int → Prop) (nbf : Int → Int → Int) (s n : Int) (L F : Int → Int) (i k : Int) : Prop :=
  (1 ≤ n ∧ L 0 = s) ∧
  (∀ j, 0 ≤ j → j < n → iso W H op (L j) = true ∧ drk W (L j) = col ∧ ¬ O (L j)) ∧
  (∀ a b, 0 ≤ a → a < b → b < n → L a ≠ L b) ∧
  (∀ j, 0 < j → j < n → ∃ a l, 0 ≤ a ∧ a < j ∧ adj W H op (L a) l ∧ F l = L a ∧ mu l = L j) ∧
  (∀ l, iso W H op l = true → drk W l = !col → F l = -1 ∨ (0 ≤ F l ∧ F l < 64 ∧ (O (mu l) ∨ ∃ a, 0 ≤ a ∧ a < n ∧ F l = L a ∧ adj W H op (L a) l ∧ inL n L (mu l)))) ∧
  (∀ a, 0 ≤ a → a < n → a < i → ∀ m, 0 ≤ m → m < 4 → 0 ≤ nbf (L a) m → 0 ≤ F (nbf (L a) m)) ∧
  (i < n → ∀ m, 0 ≤ m → m < k → 0 ≤ nbf (L i) m → 0 ≤ F (nbf (L i) m))
theorem BI_n {W H : Int} {op : Int → Bool} (hW : WHr W H) {col : Bool} {mu : Int → Int} {O : Int → Prop} {nbf : Int → Int → Int} {s n : Int} {L F : Int → Int} {i k : Int} (h : BI W H op col mu O nbf s n L F i k) : n ≤ 64 := by
  have := (cn_inj (P := fun _ => true) (Q := fun _ => true) (g := L) (k := n.toNat) (n := 64) (fun x x0 x1 _ => by
    have := iso_r hW (h.2.1 x x0 (by omega)).1
    exact ⟨this.1, by omega, rfl⟩) (fun x y x0 x1 y0 y1 _ _ e => by
    rcases Int.lt_trichotomy x y with q | q | q
    · exact absurd e (h.2.2.1 x y x0 q (by omega))
    · exact q
    · exact absurd e.symm (h.2.2.1 y x y0 q (by omega)))).1
  have ct : ∀ m : Nat, cn m (fun _ => true) = m := by
    intro m
    induction m with
    | zero => rfl
    | succ m ih => rw [cn_s, ih, if_pos rfl]
  rw [ct, ct] at this
  omega
/-- a neighbour that is none, or was seen -/
theorem BI_skip {W H : Int} {op : Int → Bool} {col : Bool} {mu : Int → Int} {O : Int → Prop} {nbf : Int → Int → Int} {s n : Int} {L F : Int → Int} {i k : Int} (h : BI W H op col mu O nbf s n L F i k) (hl : 0 ≤ nbf (L i) k → 0 ≤ F (nbf (L i) k)) : BI W H op col mu O nbf s n L F i (k + 1) := by
  obtain ⟨h1, h2, h3, h4, h5, h6, h7⟩ := h
  refine ⟨h1, h2, h3, h4, h5, h6, fun hi m m0 m1 => ?_⟩
  by_cases z : m = k
  · rw [z]; exact hl
  · exact h7 hi m m0 (by omega)
theorem BI_next {W H : Int} {op : Int → Bool} {col : Bool} {mu : Int → Int} {O : Int → Prop} {nbf : Int → Int → Int} {s n : Int} {L F : Int → Int} {i : Int} (h : BI W H op col mu O nbf s n L F i 4) : BI W H op col mu O nbf s n L F (i + 1) 0 := by
  obtain ⟨h1, h2, h3, h4, h5, h6, h7⟩ := h
  refine ⟨h1, h2, h3, h4, h5, fun a a0 a1 a2 m m0 m1 => ?_, fun hi m m0 m1 => by omega⟩
  by_cases z : a = i
  · rw [z]; exact h7 (by omega) m m0 m1
  · exact h6 a a0 a1 (by omega) m m0 m1
/-- a light cell that is not bare -/
theorem BI_go {W H : Int} {op : Int → Bool} (hW : WHr W H) {col : Bool} {mu : Int → Int} (hm : MT W H op mu) {O : Int → Prop} {nbf : Int → Int → Int} (hN : NBF W H op nbf) {s n : Int} {L F : Int → Int} {i k : Int} (h : BI W H op col mu O nbf s n L F i k) (i0 : 0 ≤ i) (i1 : i < n) (k0 : 0 ≤ k) (k1 : k < 4) {l : Int} (hl : nbf (L i) k = l) (l0 : 0 ≤ l) (hF : F l < 0) (hmu : 0 ≤ mu l) : adj W H op (L i) l ∧ iso W H op (mu l) = true ∧ drk W (mu l) = col ∧ (¬ O (mu l) → ¬ inL n L (mu l) → BI W H op col mu O nbf s (n + 1) (up1 L n (mu l)) (up1 F l (L i)) i (k + 1)) ∧ ((O (mu l) ∨ inL n L (mu l)) → BI W H op col mu O nbf s n L (up1 F l (L i)) i (k + 1)) := by
  have hB := h
  obtain ⟨h1, h2, h3, h4, h5, h6, h7⟩ := h
  have hi := h2 i i0 i1
  have ha : adj W H op (L i) l := by
    rcases (hN (L i) hi.1).1 k k0 k1 with q | q
    · omega
    · rw [hl] at q; exact q
  have hml : adj W H op l (mu l) ∧ mu (mu l) = l := by
    rcases hm l ha.2.1 with q | q
    · omega
    · exact q
  have dl' : drk W l = !col := by rw [adj_d ha, hi.2.1]
  have dm : drk W (mu l) = col := by rw [adj_d hml.1, dl', Bool.not_not]
  have hLi := iso_r hW hi.1
  have u1 : ∀ q, up1 F l (L i) q = if q = l then L i else F q := fun q => rfl
  have uF : ∀ q, 0 ≤ F q → 0 ≤ up1 F l (L i) q := fun q hq => by
    rw [u1]
    by_cases z : q = l
    · rw [if_pos z]; exact hLi.1
    · rw [if_neg z]; exact hq
  have uk : ∀ q, 0 ≤ F q → up1 F l (L i) q = F q := fun q hq => by
    rw [u1, if_neg (fun z => by rw [z] at hq; omega)]
  refine ⟨ha, hml.1.2.1, dm, fun hO hI => ?_, fun hI => ?_⟩
  · have v1 : ∀ j, j < n → up1 L n (mu l) j = L j := fun j hj => by
      show (if j = n then mu l else L j) = L j
      rw [if_neg (by omega)]
    have v2 : up1 L n (mu l) n = mu l := by
      show (if n = n then mu l else L n) = mu l
      rw [if_pos rfl]
    have n0 : 0 ≤ n := by omega
    refine ⟨⟨by omega, by rw [v1 0 (by omega)]; exact h1.2⟩, fun j j0 j1 => ?_, fun a b a0 ab b1 => ?_, fun j j0 j1 => ?_, fun l' e1 e2 => ?_, fun a a0 a1 a2 m m0 m1 => ?_, fun _ m m0 m1 => ?_⟩
    · by_cases z : j = n
      · rw [z, v2]; exact ⟨hml.1.2.1, dm, hO⟩
      · rw [v1 j (by omega)]; exact h2 j j0 (by omega)
    · by_cases z : b = n
      · rw [z, v2, v1 a (by omega)]
        exact fun q => hI ⟨a, a0, by omega, q⟩
      · rw [v1 a (by omega), v1 b (by omega)]; exact h3 a b a0 ab (by omega)
    · by_cases z : j = n
      · refine ⟨i, l, i0, by omega, ?_, ?_, ?_⟩
        · rw [v1 i i1]; exact ha
        · rw [v1 i i1, u1, if_pos rfl]
        · rw [z, v2]
      · obtain ⟨a, l', q1, q2, q3, q4, q5⟩ := h4 j j0 (by omega)
        refine ⟨a, l', q1, q2, ?_, ?_, ?_⟩
        · rw [v1 a (by omega)]; exact q3
        · rw [v1 a (by omega), uk l' (by rw [q4]; exact (iso_r hW (h2 a q1 (by omega)).1).1)]; exact q4
        · rw [v1 j (by omega)]; exact q5
    · by_cases z : l' = l
      · right
        rw [z, u1, if_pos rfl]
        exact ⟨hLi.1, hLi.2, Or.inr ⟨i, i0, by omega, by rw [v1 i i1], by rw [v1 i i1]; exact ha, (inL_up n0).mpr (Or.inr rfl)⟩⟩
      · rw [u1, if_neg z]
        rcases h5 l' e1 e2 with q | ⟨q1, q2, q3⟩
        · exact Or.inl q
        · refine Or.inr ⟨q1, q2, ?_⟩
          rcases q3 with q3 | ⟨a, a0, a1, a2, a3, a4⟩
          · exact Or.inl q3
          · exact Or.inr ⟨a, a0, by omega, by rw [v1 a a1]; exact a2, by rw [v1 a a1]; exact a3, (inL_up n0).mpr (Or.inl a4)⟩
    · rw [v1 a (by omega)]
      exact fun q => uF _ (h6 a a0 (by omega) a2 m m0 m1 q)
    · rw [v1 i i1]
      intro q
      by_cases z : m = k
      · rw [z, hl, u1, if_pos rfl]; exact hLi.1
      · exact uF _ (h7 i1 m m0 (by omega) q)
  · refine ⟨h1, h2, h3, fun j j0 j1 => ?_, fun l' e1 e2 => ?_, fun a a0 a1 a2 m m0 m1 q => uF _ (h6 a a0 a1 a2 m m0 m1 q), fun _ m m0 m1 => ?_⟩
    · obtain ⟨a, l', q1, q2, q3, q4, q5⟩ := h4 j j0 j1
      exact ⟨a, l', q1, q2, q3, by rw [uk l' (by rw [q4]; exact (iso_r hW (h2 a q1 (by omega)).1).1)]; exact q4, q5⟩
    · by_cases z : l' = l
      · right
        rw [z, u1, if_pos rfl]
        refine ⟨hLi.1, hLi.2, ?_⟩
        rcases hI with q | q
        · exact Or.inl q
        · exact Or.inr ⟨i, i0, i1, rfl, ha, q⟩
      · rw [u1, if_neg z]; exact h5 l' e1 e2
    · intro q
      by_cases z : m = k
      · rw [z, hl, u1, if_pos rfl]; exact hLi.1
      · exact uF _ (h7 i1 m m0 (by omega) q)
/-- at the end: all neighbours are matched into the list -/
theorem BI_end {W H : Int} {op : Int → Bool} {col : Bool} {mu : Int → Int} {O : Int → Prop} {nbf : Int → Int → Int} (hN : NBF W H op nbf) {s n : Int} {L F : Int → Int} {i : Int} (h : BI W H op col mu O nbf s n L F i 0) (hi : n ≤ i) {d l : Int} (hd : inL n L d) (ha : adj W H op d l) : 0 ≤ F l ∧ (O (mu l) ∨ inL n L (mu l)) := by
  obtain ⟨h1, h2, h3, h4, h5, h6, h7⟩ := h
  obtain ⟨j, j0, j1, e⟩ := hd
  have hj := h2 j j0 j1
  rw [← e] at ha
  obtain ⟨k, k0, k1, ek⟩ := (hN (L j) hj.1).2 l ha
  have l0 : 0 ≤ l := (iso_t.mp ha.2.1).1.1
  have hF := h6 j j0 j1 (by omega) k k0 k1 (by omega)
  rw [ek] at hF
  rcases h5 l ha.2.1 (by rw [adj_d ha, hj.2.1]) with q | ⟨q1, q2, q3⟩
  · omega
  · refine ⟨hF, ?_⟩
    rcases q3 with q3 | ⟨a, a0, a1, a2, a3, a4⟩
    · exact Or.inl q3
    · exact Or.inr a4
theorem BI_1 {W H : Int} {op : Int → Bool} {col : Bool} {mu : Int → Int} {O : Int → Prop} {nbf : Int → Int → Int} {s : Int} {L F : Int → Int} (hs : iso W H op s = true) (hc : drk W s = col) (hO : ¬ O s) (hL : L 0 = s) (h5 : ∀ l, iso W H op l = true → drk W l = !col → F l = -1 ∨ (0 ≤ F l ∧ F l < 64 ∧ O (mu l))) : BI W H op col mu O nbf s 1 L F 0 0 := by
  refine ⟨⟨by omega, hL⟩, fun j j0 j1 => ?_, fun a b _ _ _ => by omega, fun j j0 j1 => by omega, fun l e1 e2 => ?_, fun a a0 a1 a2 => by omega, fun _ m m0 m1 => by omega⟩
  · rw [show j = 0 by omega, hL]; exact ⟨hs, hc, hO⟩
  · rcases h5 l e1 e2 with q | ⟨q1, q2, q3⟩
    · exact Or.inl q
    · exact Or.inr ⟨q1, q2, Or.inl q3⟩
/-- the path, swapped step by step from its end -/
def SW (W H : Int) (op : Int → Bool) (col : Bool) (mu : Int → Int) (U : Int → Prop) (L F : Int → Int) (a lt : Int) (mc : Int → Int) : Prop :=
  (0 ≤ a ∧ F lt = L a ∧ adj W H op (L a) lt) ∧
  MT W H op (up1 mc lt (-1)) ∧
  (∀ b, 0 ≤ b → b ≤ a → mc (L b) = mu (L b)) ∧
  (¬ NU W H op U lt) ∧
  (∀ d l, U d → adj W H op d l → mc l = mu l) ∧
  (∀ x, iso W H op x = true → drk W x = col → (mc x = -1 ↔ mu x = -1))
/-- what a list's own order tells -/
def BH (W H : Int) (op : Int → Bool) (col : Bool) (mu : Int → Int) (s n : Int) (L F : Int → Int) : Prop :=
  (1 ≤ n ∧ L 0 = s) ∧
  (∀ j, 0 ≤ j → j < n → iso W H op (L j) = true ∧ drk W (L j) = col ∧ True) ∧
  (∀ a b, 0 ≤ a → a < b → b < n → L a ≠ L b) ∧
  (∀ j, 0 < j → j < n → ∃ a l, 0 ≤ a ∧ a < j ∧ adj W H op (L a) l ∧ F l = L a ∧ mu l = L j)
theorem BI_BH {W H : Int} {op : Int → Bool} (hW : WHr W H) {col : Bool} {mu : Int → Int} {O : Int → Prop} {nbf : Int → Int → Int} {s n : Int} {L F : Int → Int} {i k : Int} (h : BI W H op col mu O nbf s n L F i k) {l v : Int} (hl : F l < 0) : BH W H op col mu s n L (up1 F l v) := by
  obtain ⟨h1, h2, h3, h4, -⟩ := h
  refine ⟨h1, fun j j0 j1 => ⟨(h2 j j0 j1).1, (h2 j j0 j1).2.1, trivial⟩, h3, fun j j0 j1 => ?_⟩
  obtain ⟨a, l', q1, q2, q3, q4, q5⟩ := h4 j j0 j1
  refine ⟨a, l', q1, q2, q3, ?_, q5⟩
  show (if l' = l then v else F l') = L a
  rw [if_neg (fun z => by
    have := (iso_r hW (h2 a q1 (by omega)).1).1
    rw [z] at q4
    omega)]
  exact q4
theorem SW_step {W H : Int} {op : Int → Bool} (hW : WHr W H) {col : Bool} {mu : Int → Int} (hm : MT W H op mu) {s n : Int} {L F : Int → Int} (hB : BH W H op col mu s n L F) (hs : mu s = -1) {U : Int → Prop} (hU : ∀ d, U d → iso W H op d = true ∧ drk W d = col) (hUc : ∀ d l, U d → adj W H op d l → U (mu l)) {a lt : Int} {mc : Int → Int} (h : SW W H op col mu U L F a lt mc) (ha : a < n) : (a = 0 ∧ mc (L a) = -1 ∧ MT W H op (up1 (up1 mc (L a) lt) lt (L a)) ∧ (∀ d l, U d → adj W H op d l → up1 (up1 mc (L a) lt) lt (L a) l = mu l) ∧ (∀ x, iso W H op x = true → drk W x = col → (up1 (up1 mc (L a) lt) lt (L a) x = -1 ↔ (mu x = -1 ∧ x ≠ s)))) ∨ (0 ≤ mc (L a) ∧ ∃ a', a' < a ∧ SW W H op col mu U L F a' (mc (L a)) (up1 (up1 mc (L a) lt) lt (L a))) := by
  obtain ⟨h1, h2, h3, h4⟩ := hB
  obtain ⟨⟨w0, w1, w2⟩, w3, w4, w5, w6, w7⟩ := h
  have hd := h2 a w0 ha
  have hlt := iso_r hW w2.2.1
  have hdr := iso_r hW w2.1
  have dlt : drk W lt = !col := by rw [adj_d w2, hd.2.1]
  have ndl : L a ≠ lt := fun q => by
    have := hd.2.1
    rw [q, dlt] at this
    cases col <;> simp at this
  have e0 : ∀ x, up1 (up1 mc (L a) lt) lt (L a) x = if x = lt then L a else if x = L a then lt else mc x := fun x => rfl
  have e1 : ∀ x, up1 mc lt (-1) x = if x = lt then -1 else mc x := fun x => rfl
  have hbf := w4 a w0 (Int.le_refl _)
  -- cells of the other colour keep their mates
  by_cases za : a = 0
  · left
    have hs0 : L a = s := by rw [za]; exact h1.2
    have hb : mc (L a) = -1 := by rw [hbf, hs0]; exact hs
    refine ⟨za, hb, fun x hx => ?_, fun d l q1 q2 => ?_, fun x x1 x2 => ?_⟩
    · rw [e0]
      by_cases z1 : x = lt
      · rw [if_pos z1]
        refine Or.inr ⟨by rw [z1]; exact adj_c w2, ?_⟩
        rw [e0, if_neg ndl, if_pos rfl, z1]
      · rw [if_neg z1]
        by_cases z2 : x = L a
        · rw [if_pos z2]
          refine Or.inr ⟨by rw [z2]; exact w2, ?_⟩
          rw [e0, if_pos rfl, z2]
        · rw [if_neg z2]
          rcases w3 x hx with q | q
          · rw [e1, if_neg z1] at q; exact Or.inl q
          · rw [e1 x, if_neg z1] at q
            right
            have y1 : mc x ≠ lt := fun p => by
              have := q.2
              rw [p, e1, if_pos rfl] at this
              have := iso_r hW hx
              omega
            have y2 : mc x ≠ L a := fun p => by
              have := q.2
              rw [p, e1, if_neg ndl, hb] at this
              have := iso_r hW hx
              omega
            refine ⟨q.1, ?_⟩
            rw [e0, if_neg y1, if_neg y2]
            have := q.2
            rw [e1, if_neg y1] at this; exact this
    · have y1 : l ≠ lt := fun q => w5 ⟨d, q1, q ▸ q2⟩
      have y2 : l ≠ L a := fun q => by
        have h8 := adj_d q2
        rw [(hU d q1).2, q, hd.2.1] at h8
        cases col <;> simp at h8
      rw [e0, if_neg y1, if_neg y2]
      exact w6 d l q1 q2
    · rw [e0, if_neg (fun q => by rw [q, dlt] at x2; cases col <;> simp at x2)]
      by_cases z2 : x = L a
      · rw [if_pos z2]
        constructor
        · intro q; omega
        · rintro ⟨-, q⟩; exact absurd (z2.trans hs0) q
      · rw [if_neg z2, w7 x x1 x2]
        exact ⟨fun q => ⟨q, fun p => z2 (p.trans hs0.symm)⟩, fun q => q.1⟩
  · right
    obtain ⟨a', l1, a0, a1, q3, q4, q5⟩ := h4 a (by omega) ha
    have hl1 : mu (L a) = l1 := by
      rcases hm l1 q3.2.1 with p | p
      · rw [q5] at p; omega
      · rw [← q5]; exact p.2
    have l1r := iso_r hW q3.2.1
    have hmc : mc (L a) = l1 := by rw [hbf, hl1]
    have al1 : adj W H op (L a) l1 := by
      rcases hm (L a) hd.1 with p | p
      · rw [hl1] at p; omega
      · rw [hl1] at p; exact p.1
    have dl1 : drk W l1 = !col := by rw [adj_d al1, hd.2.1]
    have nll : lt ≠ l1 := fun q => by
      rw [q, q4] at w1
      exact h3 a' a a0 a1 ha w1
    have nd1 : L a ≠ l1 := fun q => by
      have := hd.2.1
      rw [q, dl1] at this
      cases col <;> simp at this
    have hm1 : mc l1 = L a := by
      rcases w3 (L a) hd.1 with p | p
      · rw [e1, if_neg ndl, hmc] at p; omega
      · have := p.2
        rw [e1 (L a), if_neg ndl, hmc, e1, if_neg (fun q => nll q.symm)] at this
        exact this
    rw [hmc]
    refine ⟨l1r.1, a', a1, ⟨a0, q4, q3⟩, fun x hx => ?_, fun b b0 b1 => ?_, ?_, fun d l p1 p2 => ?_, fun x x1 x2 => ?_⟩
    · have e2 : ∀ x, up1 (up1 (up1 mc (L a) lt) lt (L a)) l1 (-1) x = if x = l1 then -1 else if x = lt then L a else if x = L a then lt else mc x := fun x => rfl
      rw [e2]
      by_cases z0 : x = l1
      · rw [if_pos z0]; exact Or.inl rfl
      · rw [if_neg z0]
        by_cases z1 : x = lt
        · rw [if_pos z1]
          refine Or.inr ⟨by rw [z1]; exact adj_c w2, ?_⟩
          rw [e2, if_neg nd1, if_neg ndl, if_pos rfl, z1]
        · rw [if_neg z1]
          by_cases z2 : x = L a
          · rw [if_pos z2]
            refine Or.inr ⟨by rw [z2]; exact w2, ?_⟩
            rw [e2, if_neg nll, if_pos rfl, z2]
          · rw [if_neg z2]
            rcases w3 x hx with q | q
            · rw [e1, if_neg z1] at q; exact Or.inl q
            · rw [e1 x, if_neg z1] at q
              right
              have y1 : mc x ≠ lt := fun p => by
                have := q.2
                rw [p, e1, if_pos rfl] at this
                have := iso_r hW hx
                omega
              have y2 : mc x ≠ L a := fun p => by
                have := q.2
                rw [p, e1, if_neg ndl, hmc] at this
                exact z0 this.symm
              have y3 : mc x ≠ l1 := fun p => by
                have := q.2
                rw [p, e1, if_neg (fun r => nll r.symm), hm1] at this
                exact z2 this.symm
              refine ⟨q.1, ?_⟩
              rw [e2, if_neg y3, if_neg y1, if_neg y2]
              have := q.2
              rw [e1, if_neg y1] at this; exact this
    · have hb := h2 b b0 (by omega)
      rw [e0, if_neg (fun q => by have := hb.2.1; rw [q, dlt] at this; cases col <;> simp at this), if_neg (fun q => h3 b a b0 (by omega) ha q)]
      exact w4 b b0 (by omega)
    · rintro ⟨d, p1, p2⟩
      have := hUc d l1 p1 p2
      rw [q5] at this
      exact w5 ⟨L a, this, w2⟩
    · have y1 : l ≠ lt := fun q => w5 ⟨d, p1, q ▸ p2⟩
      have y2 : l ≠ L a := fun q => by
        have h8 := adj_d p2
        rw [(hU d p1).2, q, hd.2.1] at h8
        cases col <;> simp at h8
      rw [e0, if_neg y1, if_neg y2]
      exact w6 d l p1 p2
    · rw [e0, if_neg (fun q => by rw [q, dlt] at x2; cases col <;> simp at x2)]
      by_cases z2 : x = L a
      · rw [if_pos z2, z2, hl1]
        constructor
        · intro q; omega
        · intro q; omega
      · rw [if_neg z2]; exact w7 x x1 x2
