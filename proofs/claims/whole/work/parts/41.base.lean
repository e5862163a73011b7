/-! loops over whole numbers; words for the models -/
theorem bd1_q {A B : Type} (a : A) (f : A → Option B) : bd1 (some a) f = f a := (Eq.refl (f a)).trans (Eq.refl _)
theorem bd2_q {A1 A2 B : Type} (a : A1) (b : A2) (f : A1 → A2 → Option B) : bd2 (some (a, b)) f = f a b := (Eq.refl (f a b)).trans (Eq.refl _)
theorem bd3_q {A1 A2 A3 B : Type} (a : A1) (b : A2) (c : A3) (f : A1 → A2 → A3 → Option B) : bd3 (some (a, b, c)) f = f a b c := (Eq.refl (f a b c)).trans (Eq.refl _)
theorem bd4_q {A1 A2 A3 A4 B : Type} (a : A1) (b : A2) (c : A3) (d : A4) (f : A1 → A2 → A3 → A4 → Option B) : bd4 (some (a, b, c, d)) f = f a b c d := (Eq.refl (f a b c d)).trans (Eq.refl _)
theorem lt_q {A B : Type} (a : A) (f : A → B) : lt a f = f a := (Eq.refl (f a)).trans (Eq.refl _)
theorem for_g {σ ρ : Type} {f : σ → Option (σ ⊕ ρ)} (lo hi : Int) (I : Int → σ → Prop) (Q : ρ → Prop) (hs : ∀ i s, lo ≤ i → i < hi → I i s → (∃ s2, f s = some (.inl s2) ∧ I (i + 1) s2) ∨ (∃ r, f s = some (.inr r) ∧ Q r)) (he : ∀ s, I hi s → ∃ r, f s = some (.inr r) ∧ Q r) (hle : lo ≤ hi) (hb : hi - lo < 100000) {s0 : σ} (h0 : I lo s0) : ∃ r, itr f FU s0 = some r ∧ Q r := by
  refine itr_ind (fun k s => ∃ i, lo ≤ i ∧ i ≤ hi ∧ k = (hi - i).toNat ∧ I i s) Q ?_ FU (hi - lo).toNat s0 (FU_gt (by omega)) ⟨lo, by omega, hle, rfl, h0⟩
  rintro k s ⟨i, h1, h2, h3, h4⟩
  by_cases h5 : i < hi
  · rcases hs i s h1 h5 h4 with ⟨s2, e, h6⟩ | ⟨r, e, h6⟩
    · exact Or.inl ⟨s2, e, (hi - (i + 1)).toNat, by omega, i + 1, by omega, by omega, rfl, h6⟩
    · exact Or.inr ⟨r, e, h6⟩
  · have : i = hi := by omega
    subst this
    exact Or.inr (he s h4)
theorem for_M {f : Int × Mem → Option ((Int × Mem) ⊕ (Int × Mem))} (lo hi : Int) (I : Int → Mem → Prop) (hs : ∀ i M, lo ≤ i → i < hi → I i M → ∃ M2, f (i, M) = some (.inl (i + 1, M2)) ∧ I (i + 1) M2) (he : ∀ M, I hi M → f (hi, M) = some (.inr (hi, M))) (hle : lo ≤ hi) (hb : hi - lo < 100000) {M0 : Mem} (h0 : I lo M0) : ∃ M2, itr f FU (lo, M0) = some (hi, M2) ∧ I hi M2 := by
  have := for_g (f := f) lo hi (fun i s => s.1 = i ∧ I i s.2) (fun r => r.1 = hi ∧ I hi r.2) ?_ ?_ hle hb (s0 := (lo, M0)) ⟨rfl, h0⟩
  · obtain ⟨⟨a, M2⟩, e, h1, h2⟩ := this
    have h1' : a = hi := h1
    subst h1'
    exact ⟨M2, e, h2⟩
  · rintro i ⟨a, M⟩ h1 h2 ⟨h3, h4⟩
    have h3' : a = i := h3
    subst h3'
    obtain ⟨M2, e, h5⟩ := hs a M h1 h2 h4
    exact Or.inl ⟨(a + 1, M2), e, rfl, h5⟩
  · rintro ⟨a, M⟩ ⟨h3, h4⟩
    have h3' : a = hi := h3
    subst h3'
    exact ⟨(a, M), he M h4, rfl, h4⟩
/-- a sum told over 0 .. n-1 -/
def sm (n : Nat) (g : Int → Int) : Int := match n with
  | 0 => 0
  | n + 1 => sm n g + g (n : Int)
theorem sm_z (g : Int → Int) : sm 0 g = 0 := rfl
theorem sm_s (n : Nat) (g : Int → Int) : sm (n + 1) g = sm n g + g (n : Int) := rfl
theorem sm_congr {n : Nat} {g h : Int → Int} (e : ∀ i : Int, 0 ≤ i → i < n → g i = h i) : sm n g = sm n h := by
  induction n with
  | zero => rfl
  | succ n ih => rw [sm_s, sm_s, ih (fun i h1 h2 => e i h1 (by omega)), e n (by omega) (by omega)]
def sI' (i : Int) (g : Int → Int) : Int := sm i.toNat g
theorem sI'_z (g : Int → Int) : sI' 0 g = 0 := rfl
theorem sI'_s {i : Int} (h : 0 ≤ i) (g : Int → Int) : sI' (i + 1) g = sI' i g + g i := by
  unfold sI'
  rw [show (i + 1).toNat = i.toNat + 1 by omega, sm_s, Int.toNat_of_nonneg h]
theorem sI'_congr {n : Int} {g h : Int → Int} (e : ∀ i : Int, 0 ≤ i → i < n → g i = h i) : sI' n g = sI' n h := sm_congr (fun i h1 h2 => e i h1 (by omega))
/-- a loop that sums up, over a memory that stands -/
theorem for_S {f : Int × Int → Option ((Int × Int) ⊕ (Int × Int))} (n : Int) (g : Int → Int) (hs : ∀ i a, 0 ≤ i → i < n → f (a, i) = some (.inl (a + g i, i + 1))) (he : ∀ a, f (a, n) = some (.inr (a, n))) (hn : 0 ≤ n) (hb : n < 100000) : itr f FU (0, 0) = some (sI' n g, n) := by
  have := for_g (f := f) 0 n (fun i s => s = (sI' i g, i)) (fun r => r = (sI' n g, n)) ?_ ?_ hn (by omega) (s0 := (0, 0)) rfl
  · obtain ⟨r, e, rfl⟩ := this
    exact e
  · rintro i s h1 h2 rfl
    refine Or.inl ⟨_, hs i _ h1 h2, ?_⟩
    rw [sI'_s h1]
  · rintro s rfl
    exact ⟨_, he _, rfl⟩
theorem bit_e (b : Bool) : m_X11_bit (bI b) = bI b := by cases b <;> rfl
theorem bI_pos (b : Bool) : (0 < bI b) = (b = true) := by cases b <;> simp [bI]
theorem bI_eq0 (b : Bool) : (bI b = 0) = (b = false) := by cases b <;> simp [bI]
theorem bI_eq1 (b : Bool) : (bI b = 1) = (b = true) := by cases b <;> simp [bI]
theorem bI_lo (b : Bool) : 0 ≤ bI b := by cases b <;> simp [bI]
theorem bI_hi (b : Bool) : bI b ≤ 1 := by cases b <;> simp [bI]
theorem idv_p {x y : Int} (h0 : 0 ≤ x) (h1 : x ≤ 2147483647) (h2 : 0 < y) (h3 : y ≤ 2147483647) : idv x y = x / y := by
  unfold idv
  rw [wr_id (by omega) h1, wr_id (by omega) h3, Int.tdiv_eq_ediv_of_nonneg h0]
theorem irm_p {x y : Int} (h0 : 0 ≤ x) (h1 : x ≤ 2147483647) (h2 : 0 < y) (h3 : y ≤ 2147483647) : irm x y = x % y := by
  unfold irm
  rw [wr_id (by omega) h1, wr_id (by omega) h3, Int.tmod_eq_emod_of_nonneg h0]
theorem i2l_lt {a b : Int} (ha : -2147483648 ≤ a) (ha2 : a ≤ 2147483647) (hb : -2147483648 ≤ b) (hb2 : b ≤ 2147483647) : i2l a < i2l b ↔ a < b := by
  unfold i2l
  rw [Int64.lt_iff_toInt_lt, Int32.toInt_toInt64, Int32.toInt_toInt64, wr_toInt, wr_toInt, wr_id ha ha2, wr_id hb hb2]
theorem in_s {a b c : Int} (ha : -2147483648 ≤ a) (ha2 : a ≤ 2147483647) (hb : -2147483648 ≤ b) (hb2 : b ≤ 2147483647) (hc : -2147483648 ≤ c) (hc2 : c ≤ 2147483647) : m_X12_in (i2l a) (i2l b) (i2l c) = some (decide (b ≤ a ∧ a ≤ c)) := by
  unfold m_X12_in lt
  simp only [i2l_lt ha ha2 hb hb2, i2l_lt hc hc2 ha ha2]
  by_cases h1 : a < b
  · simp [h1]; omega
  · by_cases h2 : c < a
    · simp [h1, h2]
    · simp [h1, h2]; omega
theorem l_0 : (0 : Int64) = i2l 0 := by decide
theorem l_1 : (1 : Int64) = i2l 1 := by decide
theorem l_2 : (2 : Int64) = i2l 2 := by decide
theorem l_3 : (3 : Int64) = i2l 3 := by decide
theorem l_8 : (8 : Int64) = i2l 8 := by decide
theorem fI {ks : List Nat} {M M2 : Mem} (h : Fr ks M M2) {k : Nat} (hk : k ∉ ks) (j : Int) : gI M2 k j = gI M k j := (h k hk).1 j
theorem fL {ks : List Nat} {M M2 : Mem} (h : Fr ks M M2) {k : Nat} (hk : k ∉ ks) (j : Int) : gL M2 k j = gL M k j := (h k hk).2.1 j
theorem fR {ks : List Nat} {M M2 : Mem} (h : Fr ks M M2) {k : Nat} (hk : k ∉ ks) (j : Nat) : dR M2 k j = dR M k j := (h k hk).2.2 j
/-- the yard's numbers -/
def WHr (W H : Int) : Prop := 1 ≤ W ∧ W ≤ 8 ∧ 1 ≤ H ∧ H ≤ 8
theorem W8 {W : Int} (h1 : 1 ≤ W) (h2 : W ≤ 8) : W = 1 ∨ W = 2 ∨ W = 3 ∨ W = 4 ∨ W = 5 ∨ W = 6 ∨ W = 7 ∨ W = 8 := by omega
theorem WH_le {W H : Int} (h : WHr W H) : 1 ≤ W * H ∧ W * H ≤ 64 := by
  obtain ⟨h1, h2, h3, h4⟩ := h
  rcases W8 h1 h2 with rfl | rfl | rfl | rfl | rfl | rfl | rfl | rfl <;> omega
theorem dm_e {W : Int} (c : Int) : c / W * W + c % W = c := by
  rw [Int.mul_comm]; exact Int.mul_ediv_add_emod c W
theorem cx_r {W H c : Int} (h : WHr W H) (h1 : 0 ≤ c) (h2 : c < W * H) : 0 ≤ c % W ∧ c % W < W ∧ 0 ≤ c / W ∧ c / W < H ∧ c / W * W + c % W = c := by
  obtain ⟨a1, a2, a3, a4⟩ := h
  rcases W8 a1 a2 with rfl | rfl | rfl | rfl | rfl | rfl | rfl | rfl <;> omega
theorem xy_c {W H x y : Int} (h : WHr W H) (h1 : 0 ≤ x) (h2 : x < W) (h3 : 0 ≤ y) (h4 : y < H) : 0 ≤ y * W + x ∧ y * W + x < W * H ∧ (y * W + x) % W = x ∧ (y * W + x) / W = y := by
  obtain ⟨a1, a2, a3, a4⟩ := h
  rcases W8 a1 a2 with rfl | rfl | rfl | rfl | rfl | rfl | rfl | rfl <;> omega
def opn (W H : Int) (op : Int → Bool) (x y : Int) : Bool := decide (0 ≤ x ∧ x < W ∧ 0 ≤ y ∧ y < H) && op (y * W + x)
def oAt (W H : Int) (op : Int → Bool) (x y : Int) : Int := if opn W H op x y = true then y * W + x else -1
def sec (W H : Int) (op : Int → Bool) (b : Int) : Int := if b % 2 = 0 then oAt W H op (b / 2 % W + 1) (b / 2 / W) else oAt W H op (b / 2 % W) (b / 2 / W + 1)
def oth (W H : Int) (b : Int) : Int := if b % 2 = 0 then (if b / 2 % W + 1 < W then b / 2 + 1 else -1) else (if b / 2 / W + 1 < H then b / 2 + W else -1)
def stn (W H : Int) (op : Int → Bool) (b : Int) : Bool := decide (0 ≤ b ∧ b < 2 * (W * H)) && op (b / 2) && decide (0 ≤ sec W H op b)
theorem opn_t {W H : Int} {op : Int → Bool} {x y : Int} : opn W H op x y = true ↔ (0 ≤ x ∧ x < W ∧ 0 ≤ y ∧ y < H) ∧ op (y * W + x) = true := by
  unfold opn
  simp
theorem oAt_r {W H : Int} {op : Int → Bool} (h : WHr W H) (x y : Int) : (oAt W H op x y = -1 ∧ opn W H op x y = false) ∨ (0 ≤ oAt W H op x y ∧ oAt W H op x y < W * H ∧ oAt W H op x y = y * W + x ∧ opn W H op x y = true ∧ op (oAt W H op x y) = true ∧ 0 ≤ x ∧ x < W ∧ 0 ≤ y ∧ y < H) := by
  unfold oAt
  by_cases e : opn W H op x y = true
  · right
    obtain ⟨⟨h1, h2, h3, h4⟩, h5⟩ := opn_t.mp e
    have := xy_c h h1 h2 h3 h4
    rw [if_pos e]
    exact ⟨this.1, this.2.1, rfl, e, h5, h1, h2, h3, h4⟩
  · left
    rw [if_neg e]
    exact ⟨rfl, by simpa using e⟩
theorem oAt_ge {W H : Int} {op : Int → Bool} (h : WHr W H) (x y : Int) : (0 ≤ oAt W H op x y) = (opn W H op x y = true) := by
  rcases oAt_r (op := op) h x y with ⟨a, b⟩ | ⟨a, b, c, d, _⟩
  · rw [a, b]; simp
  · rw [d]; simp [a]
theorem oAt_lt {W H : Int} {op : Int → Bool} (h : WHr W H) (x y : Int) : (oAt W H op x y < 0) = (opn W H op x y = false) := by
  rcases oAt_r (op := op) h x y with ⟨a, b⟩ | ⟨a, b, c, d, _⟩
  · rw [a, b]; simp
  · rw [d]; simp; omega
theorem oAt_wr {W H : Int} {op : Int → Bool} (h : WHr W H) (x y : Int) : wr (oAt W H op x y) = oAt W H op x y := by
  have := WH_le h
  rcases oAt_r (op := op) h x y with ⟨a, b⟩ | ⟨a, b, c, d, _⟩
  · rw [a]; decide
  · exact wr_id (by omega) (by omega)
/-- the class's yard, and the reference's -/
def YC (M : Mem) (W H : Int) (op : Int → Bool) : Prop := gI M 1 0 = W ∧ gI M 1 1 = H ∧ WHr W H ∧ ∀ j : Int, 0 ≤ j → j < 64 → gI M 2 j = bI (op j)
def YR (M : Mem) (W H : Int) (op : Int → Bool) : Prop := gI M 55 0 = W ∧ gI M 55 1 = H ∧ WHr W H ∧ ∀ j : Int, 0 ≤ j → j < 64 → gI M 56 j = bI (op j)
theorem YC.fr {ks : List Nat} {M M2 : Mem} {W H : Int} {op : Int → Bool} (h : YC M W H op) (hF : Fr ks M M2) (h1 : 1 ∉ ks) (h2 : 2 ∉ ks) : YC M2 W H op := ⟨(fI hF h1 0).trans h.1, (fI hF h1 1).trans h.2.1, h.2.2.1, fun j a b => (fI hF h2 j).trans (h.2.2.2 j a b)⟩
theorem YR.fr {ks : List Nat} {M M2 : Mem} {W H : Int} {op : Int → Bool} (h : YR M W H op) (hF : Fr ks M M2) (h1 : 55 ∉ ks) (h2 : 56 ∉ ks) : YR M2 W H op := ⟨(fI hF h1 0).trans h.1, (fI hF h1 1).trans h.2.1, h.2.2.1, fun j a b => (fI hF h2 j).trans (h.2.2.2 j a b)⟩
theorem openAt_s {M : Mem} {W H : Int} {op : Int → Bool} (hy : YC M W H op) {x y : Int} (hx1 : wr x = x) (hy1 : wr y = y) : m_X10_openAt M x y = some (oAt W H op x y) := by
  obtain ⟨h1, h2, h3, h4⟩ := hy
  have h5 := WH_le h3
  obtain ⟨a1, a2, a3, a4⟩ := h3
  unfold m_X10_openAt oAt opn
  rw [h1, h2, hx1, hy1, wr_id (x := W) (by omega) (by omega), wr_id (x := H) (by omega) (by omega)]
  by_cases c1 : 0 ≤ x ∧ x < W ∧ 0 ≤ y ∧ y < H
  · have h6 := xy_c ⟨a1, a2, a3, a4⟩ c1.1 c1.2.1 c1.2.2.1 c1.2.2.2
    rw [if_neg (by omega), if_neg (by omega), if_neg (by omega), if_pos (by omega), wr_id (by omega) (by omega), if_pos (by omega), h4 _ h6.1 (by omega), wr_bI, lt_q]
    cases op (y * W + x) <;> simp [c1, bI]
  · rw [show decide (0 ≤ x ∧ x < W ∧ 0 ≤ y ∧ y < H) = false from decide_eq_false c1]
    simp only [Bool.false_and]
    by_cases e1 : x < 0
    · rw [if_pos e1]; rfl
    rw [if_neg e1]
    by_cases e2 : W ≤ x
    · rw [if_pos e2]; rfl
    rw [if_neg e2]
    by_cases e3 : y < 0
    · rw [if_pos e3]; rfl
    rw [if_neg e3, if_neg (by omega)]
    rfl
