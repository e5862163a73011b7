/-! waves: places reached from one another -/
def inL (n : Int) (L : Int → Int) (q : Int) : Prop := ∃ j, 0 ≤ j ∧ j < n ∧ L j = q
def nwp (n : Int) (L : Int → Int) (q : Int) : Prop := 0 ≤ q ∧ q < 100 ∧ ¬ inL n L q
noncomputable def adN (n : Int) (L : Int → Int) (q : Int) : Int := if bp (nwp n L q) = true then n + 1 else n
noncomputable def adL' (n : Int) (L : Int → Int) (q : Int) : Int → Int := if bp (nwp n L q) = true then up1 L n q else L
def PW (nb : Int → Int → Int) (K s n : Int) (L : Int → Int) (i k : Int) : Prop := 1 ≤ n ∧ L 0 = s ∧ (∀ j, 0 ≤ j → j < n → 0 ≤ L j ∧ L j < 100) ∧ (∀ j, 0 < j → j < n → ∃ a, 0 ≤ a ∧ a < j ∧ ∃ m, 0 ≤ m ∧ m < K ∧ nb (L a) m = L j) ∧ (∀ a b, 0 ≤ a → a < b → b < n → L a ≠ L b) ∧ (∀ a, 0 ≤ a → a < i → a < n → ∀ m, 0 ≤ m → m < K → 0 ≤ nb (L a) m → nb (L a) m < 100 → inL n L (nb (L a) m)) ∧ (i < n → ∀ m, 0 ≤ m → m < k → 0 ≤ nb (L i) m → nb (L i) m < 100 → inL n L (nb (L i) m))
theorem PW_100 {nb : Int → Int → Int} {K s n : Int} {L : Int → Int} {i k : Int} (h : PW nb K s n L i k) : n ≤ 100 := by
  obtain ⟨h1, h2, h3, h4, h5, -⟩ := h
  have := fb_holes 100 n.toNat (fun j => (L j).toNat) (fun j hj => by
    have := h3 (j : Int) (by omega) (by omega)
    omega) (fun a b hab hb e => by
    have ha' := h3 (a : Int) (by omega) (by omega)
    have hb' := h3 (b : Int) (by omega) (by omega)
    exact h5 (a : Int) (b : Int) (by omega) (by omega) (by omega) (by omega))
  omega
theorem PW_room {nb : Int → Int → Int} {K s n : Int} {L : Int → Int} {i k q : Int} (h : PW nb K s n L i k) (hq : nwp n L q) : n < 100 := by
  obtain ⟨h1, h2, h3, h4, h5, -⟩ := h
  have := fb_holes 100 (n.toNat + 1) (fun j => if j < n.toNat then (L j).toNat else q.toNat) (fun j hj => by
    split
    · have := h3 (j : Int) (by omega) (by omega)
      omega
    · have := hq.1; have := hq.2.1; omega) (fun a b hab hb e => by
    rw [if_pos (by omega)] at e
    have ha' := h3 (a : Int) (by omega) (by omega)
    by_cases z : b < n.toNat
    · rw [if_pos z] at e
      have hb' := h3 (b : Int) (by omega) (by omega)
      exact h5 (a : Int) (b : Int) (by omega) (by omega) (by omega) (by omega)
    · rw [if_neg z] at e
      have := hq.1
      exact hq.2.2 ⟨(a : Int), by omega, by omega, by omega⟩)
  omega
theorem inL_up {n : Int} {L : Int → Int} {q x : Int} (n0 : 0 ≤ n) : inL (n + 1) (up1 L n x) q ↔ (inL n L q ∨ q = x) := by
  constructor
  · rintro ⟨j, j0, j1, h⟩
    by_cases z : j = n
    · rw [z, up1_e] at h; exact Or.inr h.symm
    · rw [up1_n z] at h; exact Or.inl ⟨j, j0, by omega, h⟩
  · rintro (⟨j, j0, j1, h⟩ | h)
    · exact ⟨j, j0, by omega, by rw [up1_n (by omega)]; exact h⟩
    · exact ⟨n, n0, by omega, by rw [up1_e]; exact h.symm⟩
theorem PW_add {nb : Int → Int → Int} {K s n : Int} {L : Int → Int} {i k : Int} (h : PW nb K s n L i k) (i0 : 0 ≤ i) (hi : i < n) (k0 : 0 ≤ k) (hk : k < K) : PW nb K s (adN n L (nb (L i) k)) (adL' n L (nb (L i) k)) i (k + 1) ∧ n ≤ adN n L (nb (L i) k) ∧ (∀ j, j < n → adL' n L (nb (L i) k) j = L j) := by
  obtain ⟨h1, h2, h3, h4, h5, h6, h7⟩ := h
  unfold adN adL'
  by_cases z : nwp n L (nb (L i) k)
  · rw [if_pos (bp_t.mpr z), if_pos (bp_t.mpr z)]
    have hold : ∀ j, j < n → up1 L n (nb (L i) k) j = L j := fun j hj => up1_n (by omega)
    refine ⟨⟨by omega, by rw [hold 0 (by omega)]; exact h2, fun j j0 j1 => ?_, fun j j0 j1 => ?_, fun a b a0 ab b1 => ?_, fun a a0 a1 a2 m m0 m1 q0 q1 => ?_, fun _ m m0 m1 q0 q1 => ?_⟩, by omega, hold⟩
    · by_cases y : j = n
      · rw [y, up1_e]; exact ⟨z.1, z.2.1⟩
      · rw [hold j (by omega)]; exact h3 j j0 (by omega)
    · by_cases y : j = n
      · rw [y]
        exact ⟨i, i0, hi, k, k0, hk, by rw [hold i hi, up1_e]⟩
      · obtain ⟨a, a0, a1, m, m0, m1, e⟩ := h4 j j0 (by omega)
        exact ⟨a, a0, a1, m, m0, m1, by rw [hold a (by omega), hold j (by omega)]; exact e⟩
    · by_cases y : b = n
      · rw [y, up1_e, hold a (by omega)]
        exact fun e => z.2.2 ⟨a, a0, by omega, e⟩
      · rw [hold a (by omega), hold b (by omega)]; exact h5 a b a0 ab (by omega)
    · rw [hold a (by omega)] at q0 q1 ⊢
      exact (inL_up (by omega)).mpr (Or.inl (h6 a a0 a1 (by omega) m m0 m1 q0 q1))
    · rw [hold i hi] at q0 q1 ⊢
      rw [inL_up (by omega)]
      by_cases y : m = k
      · right; rw [y]
      · exact Or.inl (h7 hi m m0 (by omega) q0 q1)
  · rw [if_neg (fun y => z (bp_t.mp y)), if_neg (fun y => z (bp_t.mp y))]
    refine ⟨⟨h1, h2, h3, h4, h5, h6, fun _ m m0 m1 q0 q1 => ?_⟩, by omega, fun _ _ => rfl⟩
    by_cases y : m = k
    · rw [y] at q0 q1 ⊢
      exact Classical.byContradiction fun w => z ⟨q0, q1, w⟩
    · exact h7 hi m m0 (by omega) q0 q1
theorem PW_next {nb : Int → Int → Int} {K s n : Int} {L : Int → Int} {i : Int} (h : PW nb K s n L i K) (i0 : 0 ≤ i) : PW nb K s n L (i + 1) 0 := by
  obtain ⟨h1, h2, h3, h4, h5, h6, h7⟩ := h
  refine ⟨h1, h2, h3, h4, h5, fun a a0 a1 a2 m m0 m1 q0 q1 => ?_, fun _ m m0 m1 => by omega⟩
  by_cases y : a = i
  · rw [y] at q0 q1 a2 ⊢
    exact h7 a2 m m0 m1 q0 q1
  · exact h6 a a0 (by omega) a2 m m0 m1 q0 q1
theorem PW_1 (nb : Int → Int → Int) (K s : Int) (L : Int → Int) (hL : L 0 = s) (s0 : 0 ≤ s) (s1 : s < 100) : PW nb K s 1 L 0 0 := by
  refine ⟨by omega, hL, fun j j0 j1 => ?_, fun j j0 j1 => by omega, fun a b a0 ab b1 => by omega, fun a a0 a1 => by omega, fun _ m m0 m1 => by omega⟩
  rw [show j = 0 by omega, hL]; exact ⟨s0, s1⟩
/-- a wave that has come to its end -/
def WV (nb : Int → Int → Int) (K s n : Int) (L : Int → Int) : Prop := PW nb K s n L n 0
theorem WV_sub {nb nb2 : Int → Int → Int} {K K2 s n n2 : Int} {L L2 : Int → Int} (h : WV nb K s n L) (h2 : WV nb2 K2 s n2 L2) (hs : ∀ p m, 0 ≤ p → p < 100 → 0 ≤ m → m < K → 0 ≤ nb p m → nb p m < 100 → ∃ m2, 0 ≤ m2 ∧ m2 < K2 ∧ nb2 p m2 = nb p m) : ∀ j : Nat, (j : Int) < n → inL n2 L2 (L j) := by
  obtain ⟨a1, a2, a3, a4, a5, a6, a7⟩ := h
  obtain ⟨b1, b2, b3, b4, b5, b6, b7⟩ := h2
  intro j
  induction j using Nat.strongRecOn with
  | ind j ih =>
    intro hj
    by_cases z : j = 0
    · subst z
      exact ⟨0, by omega, by omega, by rw [b2]; exact a2.symm⟩
    · obtain ⟨a, a0, a1', m, m0, m1, e⟩ := a4 (j : Int) (by omega) hj
      have hLj := a3 (j : Int) (by omega) hj
      have hLa := a3 a a0 (by omega)
      obtain ⟨i, i0, i1, ei⟩ := ih a.toNat (by omega) (by omega)
      rw [Int.toNat_of_nonneg a0] at ei
      obtain ⟨m2, c0, c1, e2⟩ := hs (L a) m hLa.1 hLa.2 m0 m1 (by omega) (by omega)
      have := b6 i i0 i1 i1 m2 c0 c1 (by rw [ei, e2]; omega) (by rw [ei, e2]; omega)
      rw [ei, e2, e] at this
      exact this
theorem WV_le {n n2 : Int} {L L2 : Int → Int} (n0 : 0 ≤ n) (n20 : 0 ≤ n2) (hd : ∀ a b, 0 ≤ a → a < b → b < n → L a ≠ L b) (h : ∀ j : Nat, (j : Int) < n → inL n2 L2 (L j)) : n ≤ n2 := by
  have hf : ∀ j : Nat, ∃ i : Nat, (j : Int) < n → ((i : Int) < n2 ∧ L2 i = L j) := by
    intro j
    by_cases z : (j : Int) < n
    · obtain ⟨i, i0, i1, e⟩ := h j z
      exact ⟨i.toNat, fun _ => ⟨by omega, by rw [Int.toNat_of_nonneg i0]; exact e⟩⟩
    · exact ⟨0, fun y => absurd y z⟩
  have := fb_holes n2.toNat n.toNat (fun j => Classical.choose (hf j)) (fun j hj => by
    have := (Classical.choose_spec (hf j) (by omega)).1
    omega) (fun a b hab hb e => by
    have ea := (Classical.choose_spec (hf a) (by omega)).2
    have eb := (Classical.choose_spec (hf b) (by omega)).2
    have e' : Classical.choose (hf a) = Classical.choose (hf b) := e
    rw [e', eb] at ea
    exact hd (a : Int) (b : Int) (by omega) (by omega) (by omega) ea.symm)
  omega
/-- the class's wave in the memory -/
def WVm (M : Mem) (w : Nat) (n : Int) (L : Int → Int) : Prop := gI M w 2 = n ∧ (∀ j, 0 ≤ j → j < n → gI M (w + 2) j = L j) ∧ (∀ q, 0 ≤ q → q < 100 → gI M (w + 1) q = bI (bp (inL n L q)))
theorem clear_s (M : Mem) (w : Nat) (L : Int → Int) : ∃ M2, m_X9_clear M w = some M2 ∧ WVm M2 w 0 L := by
  unfold m_X9_clear
  rw [lt_q]
  obtain ⟨M2, e2, h2, h3⟩ := for_M (f := fun s => m_X9_clear_L7 s.2 w s.1) 0 100 (fun i M' => (∀ j, 0 ≤ j → j < i → gI M' (w + 1) j = 0) ∧ gI M' w 2 = 0) (fun i M' h1 h2 hI => by
    show ∃ M2, m_X9_clear_L7 M' w i = _ ∧ _
    unfold m_X9_clear_L7
    rw [show wr 100 = 100 by decide, wr_id (by omega) (by omega), if_neg (by omega), if_pos ⟨h1, h2⟩, lt_q]
    refine ⟨_, rfl, fun j q1 q2 => ?_, by rw [gI_sI, if_neg (by omega)]; exact hI.2⟩
    rw [gI_sI]
    by_cases e : j = i
    · rw [if_pos ⟨rfl, e⟩]
    · rw [if_neg (fun z => e z.2)]; exact hI.1 j q1 (by omega)) (fun M' hI => by
    show m_X9_clear_L7 M' w 100 = _
    unfold m_X9_clear_L7
    rw [if_pos (by decide)]) (by omega) (by omega) (M0 := sI M w 2 0) ⟨fun j q1 q2 => by omega, gI_sI_eq⟩
  rw [e2, bd2_q]
  refine ⟨M2, rfl, h3, fun j a b => by omega, fun q a b => ?_⟩
  rw [h2 q a b, bp_f.mpr (fun ⟨j, j0, j1, _⟩ => by omega)]
  rfl
theorem reach_s {M : Mem} {w : Nat} {n : Int} {L : Int → Int} (h : WVm M w n L) (n0 : 0 ≤ n) {q : Int} (hq : wr q = q) (hn : nwp n L q → n < 100) : ∃ M2, m_X9_reach M w q = some (bp (nwp n L q), M2) ∧ WVm M2 w (adN n L q) (adL' n L q) ∧ Fr [w + 1, w + 2, w] M M2 := by
  have key : ∃ M2, m_X9_reach M w q = some (bp (nwp n L q), M2) ∧ WVm M2 w (adN n L q) (adL' n L q) := by
    obtain ⟨h1, h2, h3⟩ := h
    unfold m_X9_reach adN adL'
    rw [hq, show wr 100 = 100 by decide]
    by_cases c1 : q < 0
    · rw [if_pos c1, bp_f.mpr (fun z => by have := z.1; omega), if_neg (by decide), if_neg (by decide)]
      exact ⟨M, rfl, h1, h2, h3⟩
    rw [if_neg c1]
    by_cases c2 : 100 ≤ q
    · rw [if_pos c2, bp_f.mpr (fun z => by have := z.2.1; omega), if_neg (by decide), if_neg (by decide)]
      exact ⟨M, rfl, h1, h2, h3⟩
    rw [if_neg c2, if_pos (by omega), h3 q (by omega) (by omega)]
    simp only [wrb]
    by_cases c3 : inL n L q
    · rw [bp_t.mpr c3, if_tf, bp_f.mpr (fun z => z.2.2 c3), if_neg (by decide), if_neg (by decide)]
      exact ⟨M, rfl, h1, h2, h3⟩
    · have hnw : nwp n L q := ⟨by omega, by omega, c3⟩
      have := hn hnw
      rw [bp_f.mpr c3, if_ff, lt_q, lt_q, gI_sI_ne (by omega), h1, wr_id (x := n) (by omega) (by omega), if_pos (by omega), lt_q, bp_t.mpr hnw, if_pos rfl, if_pos rfl]
      refine ⟨_, rfl, ?_, fun j j0 j1 => ?_, fun x x0 x1 => ?_⟩
      · rw [gI_sI, if_neg (by omega), gI_sI, if_pos ⟨rfl, rfl⟩]
      · rw [gI_sI]
        by_cases y : j = n
        · rw [if_pos ⟨rfl, y⟩, y, up1_e]
        · rw [if_neg (fun z => y z.2), up1_n y, gI_sI, if_neg (by omega), gI_sI, if_neg (by omega)]
          exact h2 j j0 (by omega)
      · rw [gI_sI, if_neg (by omega), gI_sI, if_neg (by omega), gI_sI]
        by_cases y : x = q
        · rw [if_pos ⟨rfl, y⟩, bp_t.mpr ((inL_up n0).mpr (Or.inr y))]; rfl
        · rw [if_neg (fun z => y z.2), h3 x x0 x1]
          congr 1
          apply bp_congr
          rw [inL_up n0]
          constructor
          · exact Or.inl
          · rintro (z | z)
            · exact z
            · exact absurd z y
  obtain ⟨M2, e, h'⟩ := key
  exact ⟨M2, e, h', fr_X9_reach e⟩
