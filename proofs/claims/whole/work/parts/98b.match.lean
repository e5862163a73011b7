/-! matchings of dark and light cells -/
def adj (W H : Int) (op : Int → Bool) (c e : Int) : Prop := iso W H op c = true ∧ iso W H op e = true ∧ ((e % W = c % W ∧ (e / W = c / W + 1 ∨ c / W = e / W + 1)) ∨ (e / W = c / W ∧ (e % W = c % W + 1 ∨ c % W = e % W + 1)))
theorem adj_c {W H : Int} {op : Int → Bool} {c e : Int} (h : adj W H op c e) : adj W H op e c := ⟨h.2.1, h.1, by have := h.2.2; omega⟩
theorem adj_d {W H : Int} {op : Int → Bool} {c e : Int} (h : adj W H op c e) : drk W e = !drk W c := by
  have := h.2.2
  unfold drk
  by_cases z : (c % W + c / W) % 2 = 0
  · rw [decide_eq_true z, decide_eq_false (by omega)]; rfl
  · rw [decide_eq_false z, decide_eq_true (by omega)]; rfl
theorem adj_r {W H : Int} {op : Int → Bool} (hW : WHr W H) {c e : Int} (h : adj W H op c e) : 0 ≤ c ∧ c < 64 ∧ 0 ≤ e ∧ e < 64 := by
  have h8 := WH_le hW
  have h1 := (iso_t.mp h.1).1
  have h2 := (iso_t.mp h.2.1).1
  omega
theorem iso_r {W H : Int} {op : Int → Bool} (hW : WHr W H) {c : Int} (h : iso W H op c = true) : 0 ≤ c ∧ c < 64 := by
  have h8 := WH_le hW
  have h1 := (iso_t.mp h).1
  omega
theorem oAt_adj {W H : Int} {op : Int → Bool} (hW : WHr W H) {x y : Int} : oAt W H op x y = -1 ∨ (iso W H op (oAt W H op x y) = true ∧ oAt W H op x y % W = x ∧ oAt W H op x y / W = y) := by
  unfold oAt
  by_cases z : opn W H op x y = true
  · rw [if_pos z]
    obtain ⟨⟨a, b, c, d⟩, o⟩ := opn_t.mp z
    have h := xy_c hW a b c d
    exact Or.inr ⟨iso_t.mpr ⟨⟨h.1, h.2.1⟩, o⟩, h.2.2.1, h.2.2.2⟩
  · rw [if_neg z]; exact Or.inl rfl
theorem oAt_of {W H : Int} {op : Int → Bool} (hW : WHr W H) {e : Int} (h : iso W H op e = true) : oAt W H op (e % W) (e / W) = e := by
  obtain ⟨h1, h2⟩ := iso_t.mp h
  have hc := cx_r hW h1.1 h1.2
  unfold oAt
  rw [if_pos (opn_t.mpr ⟨⟨hc.1, hc.2.1, hc.2.2.1, hc.2.2.2.1⟩, by rw [hc.2.2.2.2]; exact h2⟩), hc.2.2.2.2]
/-- a way to list the neighbours -/
def NBF (W H : Int) (op : Int → Bool) (nbf : Int → Int → Int) : Prop := ∀ c, iso W H op c = true → (∀ k, 0 ≤ k → k < 4 → nbf c k = -1 ∨ adj W H op c (nbf c k)) ∧ (∀ e, adj W H op c e → ∃ k, 0 ≤ k ∧ k < 4 ∧ nbf c k = e)
theorem bes_N {W H : Int} {op : Int → Bool} (hW : WHr W H) : NBF W H op (bes W H op) := by
  intro c hc
  refine ⟨fun k k0 k1 => ?_, fun e he => ?_⟩
  · unfold bes
    have : k = 0 ∨ k = 1 ∨ k = 2 ∨ k = 3 := by omega
    rcases this with rfl | rfl | rfl | rfl
    · rw [if_pos rfl]
      rcases oAt_adj (op := op) hW (x := c % W) (y := c / W - 1) with q | ⟨q1, q2, q3⟩
      · exact Or.inl q
      · exact Or.inr ⟨hc, q1, by omega⟩
    · rw [if_neg (by omega), if_pos rfl]
      rcases oAt_adj (op := op) hW (x := c % W - 1) (y := c / W) with q | ⟨q1, q2, q3⟩
      · exact Or.inl q
      · exact Or.inr ⟨hc, q1, by omega⟩
    · rw [if_neg (by omega), if_neg (by omega), if_pos rfl]
      rcases oAt_adj (op := op) hW (x := c % W + 1) (y := c / W) with q | ⟨q1, q2, q3⟩
      · exact Or.inl q
      · exact Or.inr ⟨hc, q1, by omega⟩
    · rw [if_neg (by omega), if_neg (by omega), if_neg (by omega)]
      rcases oAt_adj (op := op) hW (x := c % W) (y := c / W + 1) with q | ⟨q1, q2, q3⟩
      · exact Or.inl q
      · exact Or.inr ⟨hc, q1, by omega⟩
  · obtain ⟨-, h1, h2⟩ := he
    have ho := oAt_of hW h1
    rcases h2 with ⟨a, b | b⟩ | ⟨a, b | b⟩
    · refine ⟨3, by omega, by omega, ?_⟩
      unfold bes
      rw [if_neg (by omega), if_neg (by omega), if_neg (by omega), ← a, ← b]; exact ho
    · refine ⟨0, by omega, by omega, ?_⟩
      unfold bes
      rw [if_pos rfl, ← a, show c / W - 1 = e / W by omega]; exact ho
    · refine ⟨2, by omega, by omega, ?_⟩
      unfold bes
      rw [if_neg (by omega), if_neg (by omega), if_pos rfl, ← a, ← b]; exact ho
    · refine ⟨1, by omega, by omega, ?_⟩
      unfold bes
      rw [if_neg (by omega), if_pos rfl, ← a, show c % W - 1 = e % W by omega]; exact ho
theorem besR_N {W H : Int} {op : Int → Bool} (hW : WHr W H) : NBF W H op (besR W H op) := by
  have hp : ∀ c k, 0 ≤ k → k < 4 → ∃ k', 0 ≤ k' ∧ k' < 4 ∧ besR W H op c k = bes W H op c k' := fun c k k0 k1 => by
    have : k = 0 ∨ k = 1 ∨ k = 2 ∨ k = 3 := by omega
    rcases this with rfl | rfl | rfl | rfl
    · exact ⟨2, by omega, by omega, rfl⟩
    · exact ⟨3, by omega, by omega, rfl⟩
    · exact ⟨1, by omega, by omega, rfl⟩
    · exact ⟨0, by omega, by omega, rfl⟩
  have hq : ∀ c k, 0 ≤ k → k < 4 → ∃ k', 0 ≤ k' ∧ k' < 4 ∧ besR W H op c k' = bes W H op c k := fun c k k0 k1 => by
    have : k = 0 ∨ k = 1 ∨ k = 2 ∨ k = 3 := by omega
    rcases this with rfl | rfl | rfl | rfl
    · exact ⟨3, by omega, by omega, rfl⟩
    · exact ⟨2, by omega, by omega, rfl⟩
    · exact ⟨0, by omega, by omega, rfl⟩
    · exact ⟨1, by omega, by omega, rfl⟩
  intro c hc
  have hb := bes_N (op := op) hW c hc
  refine ⟨fun k k0 k1 => ?_, fun e he => ?_⟩
  · obtain ⟨k', a, b, e⟩ := hp c k k0 k1
    rw [e]; exact hb.1 k' a b
  · obtain ⟨k, a, b, e1⟩ := hb.2 e he
    obtain ⟨k', a', b', e2⟩ := hq c k a b
    exact ⟨k', a', b', by rw [e2, e1]⟩
def MT (W H : Int) (op : Int → Bool) (mu : Int → Int) : Prop := ∀ c, iso W H op c = true → mu c = -1 ∨ (adj W H op c (mu c) ∧ mu (mu c) = c)
/-- closed sets of one colour -/
def CL (W H : Int) (op : Int → Bool) (col : Bool) (mu : Int → Int) (U : Int → Prop) : Prop := (∀ d, U d → iso W H op d = true ∧ drk W d = col) ∧ (∀ d, iso W H op d = true → drk W d = col → mu d = -1 → U d) ∧ (∀ d l, U d → adj W H op d l → U (mu l))
noncomputable def bare (W H : Int) (op : Int → Bool) (col : Bool) (mu : Int → Int) : Nat := cn 64 (fun c => bp (iso W H op c = true ∧ drk W c = col ∧ mu c = -1))
def NU (W H : Int) (op : Int → Bool) (U : Int → Prop) (l : Int) : Prop := ∃ d, U d ∧ adj W H op d l
theorem MT_inj {W H : Int} {op : Int → Bool} (hW : WHr W H) {mu : Int → Int} (hm : MT W H op mu) {x y : Int} (hx : iso W H op x = true) (hy : iso W H op y = true) (h : 0 ≤ mu x) (e : mu x = mu y) : x = y := by
  rcases hm x hx with q | q
  · omega
  · rcases hm y hy with p | p
    · omega
    · rw [← q.2, ← p.2, e]
theorem CL_12 {W H : Int} {op : Int → Bool} (hW : WHr W H) {col : Bool} {mu mu' : Int → Int} {U : Int → Prop} (hm : MT W H op mu) (hm' : MT W H op mu') (hU : CL W H op col mu U) : bare W H op col mu ≤ bare W H op col mu' ∧ (bare W H op col mu' ≤ bare W H op col mu → CL W H op col mu' U) := by
  obtain ⟨u1, u2, u3⟩ := hU
  have sp : ∀ nu : Int → Int, cn 64 (fun c => bp (U c)) = cn 64 (fun c => bp (U c) && bp (nu c = -1)) + cn 64 (fun c => bp (U c) && !bp (nu c = -1)) := fun nu => cn_sp _ _ 64
  have b1 : cn 64 (fun c => bp (U c) && bp (mu c = -1)) = bare W H op col mu := cn_congr 64 (fun x _ _ => by
    rw [Bool.and_eq_true, bp_t, bp_t, bp_t]
    exact ⟨fun q => ⟨(u1 x q.1).1, (u1 x q.1).2, q.2⟩, fun q => ⟨u2 x q.1 q.2.1 q.2.2, q.2.2⟩⟩)
  have b2 : cn 64 (fun c => bp (U c) && bp (mu' c = -1)) ≤ bare W H op col mu' := cn_le 64 (fun x _ _ => by
    rw [Bool.and_eq_true, bp_t, bp_t, bp_t]
    exact fun q => ⟨(u1 x q.1).1, (u1 x q.1).2, q.2⟩)
  -- neighbours go into U
  have i1 : cn 64 (fun l => bp (NU W H op U l)) ≤ cn 64 (fun c => bp (U c) && !bp (mu c = -1)) := (cn_inj (g := mu) (fun x x0 x1 hx => by
    obtain ⟨d, q1, q2⟩ := bp_t.mp hx
    have h1 := u3 d x q1 q2
    have h2 := (u1 _ h1).1
    have h3 := iso_r hW h2
    refine ⟨h3.1, by omega, ?_⟩
    rw [Bool.and_eq_true, bp_t, Bool.not_eq_true', bp_f]
    refine ⟨h1, fun q => ?_⟩
    rcases hm x q2.2.1 with p | p
    · omega
    · rw [p.2] at q
      have := iso_r hW q2.2.1
      omega) (fun x y x0 x1 y0 y1 hx hy e => by
    obtain ⟨d, q1, q2⟩ := bp_t.mp hx
    obtain ⟨d', q1', q2'⟩ := bp_t.mp hy
    have h3 := iso_r hW (u1 _ (u3 d x q1 q2)).1
    exact MT_inj hW hm q2.2.1 q2'.2.1 h3.1 e)).1
  have i2 := cn_inj (P := fun c => bp (U c) && !bp (mu' c = -1)) (Q := fun l => bp (NU W H op U l)) (g := mu') (k := 64) (n := 64) (fun x x0 x1 hx => by
    rw [Bool.and_eq_true, bp_t, Bool.not_eq_true', bp_f] at hx
    rcases hm' x (u1 x hx.1).1 with p | p
    · exact absurd p hx.2
    · have := adj_r hW p.1
      exact ⟨this.2.2.1, by omega, bp_t.mpr ⟨x, hx.1, p.1⟩⟩) (fun x y x0 x1 y0 y1 hx hy e => by
    rw [Bool.and_eq_true, bp_t, Bool.not_eq_true', bp_f] at hx hy
    rcases hm' x (u1 x hx.1).1 with p | p
    · exact absurd p hx.2
    · have := adj_r hW p.1
      exact MT_inj hW hm' (u1 x hx.1).1 (u1 y hy.1).1 this.2.2.1 e)
  have s1 := sp mu
  have s2 := sp mu'
  refine ⟨by omega, fun hle => ⟨u1, fun d d1 d2 d3 => ?_, fun d l d1 d2 => ?_⟩⟩
  · have hr := iso_r hW d1
    have := cn_eq (P := fun c => bp (U c) && bp (mu' c = -1)) (Q := fun c => bp (iso W H op c = true ∧ drk W c = col ∧ mu' c = -1)) 64 (fun x _ _ => by
      rw [Bool.and_eq_true, bp_t, bp_t, bp_t]
      exact fun q => ⟨(u1 x q.1).1, (u1 x q.1).2, q.2⟩) (by
      show bare W H op col mu' ≤ _
      omega) d hr.1 (by omega) (bp_t.mpr ⟨d1, d2, d3⟩)
    rw [Bool.and_eq_true, bp_t] at this
    exact this.1
  · have hr := adj_r hW d2
    obtain ⟨x, x0, x1, hx, e⟩ := i2.2 (by omega) l hr.2.2.1 (by omega) (bp_t.mpr ⟨d, d1, d2⟩)
    rw [Bool.and_eq_true, bp_t, Bool.not_eq_true', bp_f] at hx
    rcases hm' x (u1 x hx.1).1 with p | p
    · exact absurd p hx.2
    · rw [← e, p.2]; exact hx.1
/-- the light side -/
theorem CL_light {W H : Int} {op : Int → Bool} (hW : WHr W H) {mu : Int → Int} {U : Int → Prop} (hm : MT W H op mu) (hU : CL W H op true mu U) : CL W H op false mu (fun l => iso W H op l = true ∧ drk W l = false ∧ ¬ NU W H op U l) := by
  obtain ⟨u1, u2, u3⟩ := hU
  refine ⟨fun d h => ⟨h.1, h.2.1⟩, fun l l1 l2 l3 => ⟨l1, l2, ?_⟩, fun l d h hd => ?_⟩
  · rintro ⟨d, q1, q2⟩
    have h1 := u3 d l q1 q2
    rw [l3] at h1
    have := iso_r hW (u1 _ h1).1
    omega
  · have hdd : drk W d = true := by rw [adj_d hd, h.2.1]; rfl
    have hnU : ¬ U d := fun q => h.2.2 ⟨d, q, adj_c hd⟩
    rcases hm d hd.2.1 with p | p
    · exact absurd (u2 d hd.2.1 hdd p) hnU
    · refine ⟨p.1.2.1, by rw [adj_d p.1, hdd]; rfl, ?_⟩
      rintro ⟨d', q1, q2⟩
      have := u3 d' _ q1 q2
      rw [p.2] at this
      exact hnU this
def LeC (W H : Int) (op : Int → Bool) (col : Bool) (mu : Int → Int) (R : Int → Prop) : Prop := (∀ d, iso W H op d = true → drk W d = col → mu d = -1 → R d) ∧ (∀ d l, R d → adj W H op d l → R (mu l)) ∧ (∀ U, CL W H op col mu U → ∀ d, R d → U d)
theorem LeC_CL {W H : Int} {op : Int → Bool} {col : Bool} {mu : Int → Int} {U R : Int → Prop} (hU : CL W H op col mu U) (hR : LeC W H op col mu R) : CL W H op col mu R :=
  ⟨fun d hd => hU.1 d (hR.2.2 U hU d hd), hR.1, hR.2.1⟩
theorem LeC_eq {W H : Int} {op : Int → Bool} (hW : WHr W H) {col : Bool} {mu mu' : Int → Int} {U U' R R' : Int → Prop} (hm : MT W H op mu) (hm' : MT W H op mu') (hU : CL W H op col mu U) (hU' : CL W H op col mu' U') (hR : LeC W H op col mu R) (hR' : LeC W H op col mu' R') (d : Int) : R d ↔ R' d := by
  have h1 := CL_12 hW hm hm' (LeC_CL hU hR)
  have h2 := CL_12 hW hm' hm (LeC_CL hU' hR')
  exact ⟨fun q => hR.2.2 R' (h2.2 h1.1) d q, fun q => hR'.2.2 R (h1.2 h2.1) d q⟩
