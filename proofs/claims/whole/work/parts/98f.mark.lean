/-! the class's marks of the bar -/
def LsP (W H : Int) (op : Int → Bool) (col : Bool) (mu : Int → Int) (x : Int) : Prop := ∀ U, CL W H op col mu U → U x
def dst (n : Int) (L : Int → Int) : Prop := ∀ a b, 0 ≤ a → a < b → b < n → L a ≠ L b
theorem dst_64 {n : Int} {L : Int → Int} (h : dst n L) (hr : ∀ j, 0 ≤ j → j < n → 0 ≤ L j ∧ L j < 64) : n ≤ 64 := by
  have := (cn_inj (P := fun _ => true) (Q := fun _ => true) (g := L) (k := n.toNat) (n := 64) (fun x x0 x1 _ => by
    have := hr x x0 (by omega)
    exact ⟨this.1, by omega, rfl⟩) (fun x y x0 x1 y0 y1 _ _ e => by
    rcases Int.lt_trichotomy x y with q | q | q
    · exact absurd e (h x y x0 q (by omega))
    · exact q
    · exact absurd e.symm (h y x y0 q (by omega)))).1
  have ct : ∀ m : Nat, cn m (fun _ => true) = m := by
    intro m
    induction m with
    | zero => rfl
    | succ m ih => rw [cn_s, ih, if_pos rfl]
  rw [ct, ct] at this
  omega
theorem up1_lt {n : Int} {L : Int → Int} {v j : Int} (h : j < n) : up1 L n v j = L j := by
  show (if j = n then v else L j) = L j
  rw [if_neg (by omega)]
theorem up1_at {n : Int} {L : Int → Int} {v : Int} : up1 L n v n = v := by
  show (if n = n then v else L n) = v
  rw [if_pos rfl]
/-- lists of cells that any closed set holds -/
def LW (W H : Int) (op : Int → Bool) (col : Bool) (mu : Int → Int) (n : Int) (L : Int → Int) : Prop := 0 ≤ n ∧ (∀ j, 0 ≤ j → j < n → LsP W H op col mu (L j)) ∧ dst n L
theorem LW_add {W H : Int} {op : Int → Bool} {col : Bool} {mu : Int → Int} {n : Int} {L : Int → Int} (h : LW W H op col mu n L) {q : Int} (hq : LsP W H op col mu q) (hn : ¬ inL n L q) : LW W H op col mu (n + 1) (up1 L n q) := by
  obtain ⟨h0, h1, h2⟩ := h
  refine ⟨by omega, fun j j0 j1 => ?_, fun a b a0 ab b1 => ?_⟩
  · by_cases z : j = n
    · rw [z, up1_at]; exact hq
    · rw [up1_lt (by omega)]; exact h1 j j0 (by omega)
  · rw [up1_lt (j := a) (by omega)]
    by_cases z : b = n
    · rw [z, up1_at]; exact fun e => hn ⟨a, a0, by omega, e⟩
    · rw [up1_lt (by omega)]; exact h2 a b a0 ab (by omega)
theorem LW_r {W H : Int} {op : Int → Bool} (hW : WHr W H) {col : Bool} {mu : Int → Int} {U : Int → Prop} (hU : CL W H op col mu U) {n : Int} {L : Int → Int} (h : LW W H op col mu n L) : n ≤ 64 ∧ ∀ j, 0 ≤ j → j < n → iso W H op (L j) = true ∧ drk W (L j) = col ∧ 0 ≤ L j ∧ L j < 64 := by
  have key : ∀ j, 0 ≤ j → j < n → iso W H op (L j) = true ∧ drk W (L j) = col ∧ 0 ≤ L j ∧ L j < 64 := fun j j0 j1 => by
    have h1 := hU.1 _ (h.2.1 j j0 j1 U hU)
    have h2 := iso_r hW h1.1
    exact ⟨h1.1, h1.2, h2.1, h2.2⟩
  exact ⟨dst_64 h.2.2 (fun j a b => ⟨(key j a b).2.2.1, (key j a b).2.2.2⟩), key⟩
/-- reaching a cell that any closed set holds -/
theorem LW_reach {W H : Int} {op : Int → Bool} (hW : WHr W H) {col : Bool} {mu : Int → Int} {U : Int → Prop} (hU : CL W H op col mu U) {n : Int} {L : Int → Int} (h : LW W H op col mu n L) {M : Mem} (hM : WVm M 21 n L) {q : Int} (hq : LsP W H op col mu q) : ∃ b M2 n' L', m_X9_reach M 21 q = some (b, M2) ∧ WVm M2 21 n' L' ∧ LW W H op col mu n' L' ∧ n ≤ n' ∧ (∀ j, j < n → L' j = L j) ∧ inL n' L' q ∧ (∀ x, inL n' L' x → inL n L x ∨ x = q) ∧ Fr [22, 23, 21] M M2 := by
  have hr := LW_r hW hU h
  have h1 := hU.1 _ (hq U hU)
  have h2 := iso_r hW h1.1
  obtain ⟨M2, e2, w1, w2⟩ := reach_s hM h.1 (q := q) (wr_id (by omega) (by omega)) (fun _ => by omega)
  unfold adN adL' at w1
  by_cases t : nwp n L q
  · rw [if_pos (bp_t.mpr t), if_pos (bp_t.mpr t)] at w1
    exact ⟨_, M2, n + 1, up1 L n q, e2, w1, LW_add h hq t.2.2, by omega, fun j hj => up1_lt hj, (inL_up h.1).mpr (Or.inr rfl), fun x hx => (inL_up h.1).mp hx, w2⟩
  · rw [if_neg (fun q => t (bp_t.mp q)), if_neg (fun q => t (bp_t.mp q))] at w1
    have : inL n L q := Classical.byContradiction (fun p => t ⟨h2.1, by omega, p⟩)
    exact ⟨_, M2, n, L, e2, w1, h, Int.le_refl _, fun _ _ => rfl, this, fun x hx => Or.inl hx, w2⟩
def PLx (W H : Int) (op : Int → Bool) (L : Int → Int) (i k x : Int) : Prop := (∃ a, 0 ≤ a ∧ a < i ∧ ∃ m, 0 ≤ m ∧ m < 4 ∧ bes W H op (L a) m = x) ∨ (∃ m, 0 ≤ m ∧ m < k ∧ bes W H op (L i) m = x)
noncomputable def mkV (W H : Int) (op : Int → Bool) (L : Int → Int) (i2 i k x : Int) : Int := if bp (inL i2 L x) = true then 2 else if bp (PLx W H op L i k x) = true then 1 else 0
theorem mkV_L {W H : Int} {op : Int → Bool} {L L' : Int → Int} {i2 i k x : Int} (h2 : i2 ≤ i + 1) (h : ∀ j, j ≤ i → L' j = L j) : mkV W H op L' i2 i k x = mkV W H op L i2 i k x := by
  unfold mkV
  have e1 : inL i2 L' x ↔ inL i2 L x := by
    constructor
    · rintro ⟨j, a, b, c⟩; exact ⟨j, a, b, by rw [← h j (by omega)]; exact c⟩
    · rintro ⟨j, a, b, c⟩; exact ⟨j, a, b, by rw [h j (by omega)]; exact c⟩
  have e2 : PLx W H op L' i k x ↔ PLx W H op L i k x := by
    constructor
    · rintro (⟨j, a, b, c⟩ | c)
      · exact Or.inl ⟨j, a, b, by rw [← h j (by omega)]; exact c⟩
      · exact Or.inr (by rw [← h i (by omega)]; exact c)
    · rintro (⟨j, a, b, c⟩ | c)
      · exact Or.inl ⟨j, a, b, by rw [h j (by omega)]; exact c⟩
      · exact Or.inr (by rw [h i (by omega)]; exact c)
  rw [bp_congr e1, bp_congr e2]
/-- what the second pass keeps -/
def MB (W H : Int) (op : Int → Bool) (col : Bool) (mu : Int → Int) (M0 : Mem) (i2 i k : Int) (n : Int) (L : Int → Int) (M : Mem) : Prop := LW W H op col mu n L ∧ WVm M 21 n L ∧ (∀ d, iso W H op d = true → drk W d = col → mu d = -1 → inL n L d) ∧ (∀ a, 0 ≤ a → a < i → a < n → ∀ m, 0 ≤ m → m < 4 → 0 ≤ bes W H op (L a) m → inL n L (mu (bes W H op (L a) m))) ∧ (i < n → ∀ m, 0 ≤ m → m < k → 0 ≤ bes W H op (L i) m → inL n L (mu (bes W H op (L i) m))) ∧ (∀ x, 0 ≤ x → x < 64 → gI M 20 x = mkV W H op L i2 i k x) ∧ Fr [20, 21, 22, 23] M0 M
theorem bar108_s {M0 : Mem} {W H : Int} {op : Int → Bool} (hy : YC M0 W H op) {col : Bool} {mu : Int → Int} (h18 : gX M0 18 mu) {U : Int → Prop} (hU : CL W H op col mu U) {i n : Int} {L : Int → Int} {M : Mem} (i0 : 0 ≤ i) (i1 : i < n) (h : MB W H op col mu M0 (i + 1) i 0 n L M) : ∃ y n' L' M2, itr (fun t => m_X2_markBar_L114 t.2 i (L i) t.1) FU (0, M) = some (y, M2) ∧ i < n' ∧ MB W H op col mu M0 (i + 1) i 4 n' L' M2 := by
  have hW := hy.2.2.1
  obtain ⟨⟨y, M2⟩, e, n', L', hn', -, hQ⟩ := for_g (f := fun t => m_X2_markBar_L114 t.2 i (L i) t.1) 0 4 (fun k t => t.1 = k ∧ ∃ n' L', i < n' ∧ L' i = L i ∧ MB W H op col mu M0 (i + 1) i k n' L' t.2) (fun r => ∃ n' L', i < n' ∧ L' i = L i ∧ MB W H op col mu M0 (i + 1) i 4 n' L' r.2) (by
    rintro k ⟨k', M'⟩ k0 k1 ⟨g0, n', L', g1, g2, g3⟩
    dsimp only at g0 g3
    subst g0
    left
    show ∃ s2, m_X2_markBar_L114 M' i (L i) k' = _ ∧ _
    obtain ⟨b1, b2, b3, b4, b5, b6, b7⟩ := g3
    have hyM := hy.fr b7 (by decide) (by decide)
    have hLr := LW_r hW hU b1
    have hi := hLr.2 i i0 g1
    rw [g2] at hi
    unfold m_X2_markBar_L114
    rw [show wr 4 = 4 by decide, wr_id (x := k') (by omega) (by omega), if_neg (by omega), beside_s hyM hi.2.2.1 hi.2.2.2 k0 k1, bd1_q]
    generalize hl : bes W H op (L i) k' = l
    have hl' : bes W H op (L' i) k' = l := by rw [g2]; exact hl
    rcases (bes_N (op := op) hW (L i) hi.1).1 k' k0 k1 with q | q
    · rw [hl] at q
      rw [q, if_neg (by decide), bd1_q]
      refine ⟨_, rfl, rfl, n', L', g1, g2, b1, b2, b3, b4, fun _ m m0 m1 m2 => ?_, fun x x0 x1 => ?_, b7⟩
      · by_cases z : m = k'
        · rw [z, hl', q] at m2; omega
        · exact b5 g1 m m0 (by omega) m2
      · rw [b6 x x0 x1]
        unfold mkV
        have : PLx W H op L' i k' x ↔ PLx W H op L' i (k' + 1) x := by
          constructor
          · rintro (c | ⟨m, m0, m1, m2⟩)
            · exact Or.inl c
            · exact Or.inr ⟨m, m0, by omega, m2⟩
          · rintro (c | ⟨m, m0, m1, m2⟩)
            · exact Or.inl c
            · by_cases z : m = k'
              · rw [z, hl', q] at m2; omega
              · exact Or.inr ⟨m, m0, by omega, m2⟩
        rw [bp_congr this]
    · rw [hl] at q
      have hr := adj_r hW q
      have hdl : drk W l = !col := by rw [adj_d q, hi.2.1]
      rw [wr_id (x := l) (by omega) (by omega), if_pos hr.2.2.1, if_pos ⟨hr.2.2.1, hr.2.2.2⟩, lt_q, gI_sI, if_neg (by simp), fI b7 (by decide), h18 l hr.2.2.1 hr.2.2.2]
      have hP : LsP W H op col mu (mu l) := fun V hV => hV.2.2 (L i) l (by rw [← g2]; exact b1.2.1 i i0 g1 V hV) q
      have hb2 : WVm (sI M' 20 l 1) 21 n' L' := by
        obtain ⟨v1, v2, v3⟩ := b2
        refine ⟨?_, fun j j0 j1 => ?_, fun x x0 x1 => ?_⟩
        · rw [gI_sI, if_neg (by simp)]; exact v1
        · rw [gI_sI, if_neg (by simp)]; exact v2 j j0 j1
        · rw [gI_sI, if_neg (by simp)]; exact v3 x x0 x1
      obtain ⟨b, M2, n2, L2, e2, c1, c2, c3, c4, c5, c6, c7⟩ := LW_reach hW hU b1 hb2 hP
      rw [e2, bd2_q, bd1_q]
      have mono : ∀ x, inL n' L' x → inL n2 L2 x := fun x ⟨j, j0, j1, ej⟩ => ⟨j, j0, by omega, by rw [c4 j j1]; exact ej⟩
      refine ⟨_, rfl, rfl, n2, L2, by omega, by rw [c4 i g1]; exact g2, c2, c1, fun d d1 d2 d3 => mono d (b3 d d1 d2 d3), fun a a0 a1 a2 m m0 m1 m2 => ?_, fun _ m m0 m1 m2 => ?_, fun x x0 x1 => ?_, (b7.sI (by decide) rfl).trans c7 (by decide)⟩
      · rw [c4 a (by omega)] at m2 ⊢
        exact mono _ (b4 a a0 a1 (by omega) m m0 m1 m2)
      · rw [c4 i g1] at m2 ⊢
        by_cases z : m = k'
        · rw [z, hl']; exact c5
        · exact mono _ (b5 g1 m m0 (by omega) m2)
      · show gI M2 20 x = mkV W H op L2 (i + 1) i (k' + 1) x
        rw [mkV_L (L := L') (by omega) (fun j hj => c4 j (by omega)), fI c7 (by decide), gI_sI]
        by_cases z : x = l
        · rw [if_pos ⟨rfl, z⟩]
          unfold mkV
          have t1 : ¬ bp (inL (i + 1) L' x) = true := fun p => by
            obtain ⟨j, j0, j1, ej⟩ := bp_t.mp p
            have := (hLr.2 j j0 (by omega)).2.1
            rw [ej, z, hdl] at this
            cases col <;> simp at this
          have t2 : bp (PLx W H op L' i (k' + 1) x) = true := bp_t.mpr (Or.inr ⟨k', k0, by omega, by rw [hl', z]⟩)
          rw [if_neg t1, if_pos t2]
        · rw [if_neg (fun p => z p.2), b6 x x0 x1]
          unfold mkV
          have : PLx W H op L' i k' x ↔ PLx W H op L' i (k' + 1) x := by
            constructor
            · rintro (c | ⟨m, m0, m1, m2⟩)
              · exact Or.inl c
              · exact Or.inr ⟨m, m0, by omega, m2⟩
            · rintro (c | ⟨m, m0, m1, m2⟩)
              · exact Or.inl c
              · by_cases y : m = k'
                · rw [y, hl'] at m2; exact absurd m2.symm z
                · exact Or.inr ⟨m, m0, by omega, m2⟩
          rw [bp_congr this]) (by
    rintro ⟨k', M'⟩ ⟨g0, n', L', g1, g2, g3⟩
    dsimp only at g0 g3
    refine ⟨(k', M'), ?_, n', L', g1, g2, g3⟩
    show m_X2_markBar_L114 M' i (L i) k' = _
    unfold m_X2_markBar_L114
    rw [g0, if_pos (by decide)]) (by omega) (by omega) (s0 := (0, M)) ⟨rfl, n, L, i1, rfl, h⟩
  exact ⟨y, n', L', M2, e, hn', hQ⟩
/-- what the marks tell -/
noncomputable def mkR (W H : Int) (op : Int → Bool) (R : Int → Prop) (x : Int) : Int := if bp (R x) = true then 2 else if bp (NU W H op R x) = true then 1 else 0
theorem bI_c (b c : Bool) : (wr (bI b) = wr (bI c)) = (b = c) := by cases b <;> cases c <;> decide
theorem markBar_s {M : Mem} {W H : Int} {op : Int → Bool} (hy : YC M W H op) (col : Bool) : ∃ (mu : Int → Int) (U R : Int → Prop) (M2 : Mem), m_X2_markBar M (bI col) = some M2 ∧ MT W H op mu ∧ CL W H op col mu U ∧ LeC W H op col mu R ∧ ∀ x, 0 ≤ x → x < 64 → gI M2 20 x = mkR W H op R x := by
  have hW := hy.2.2.1
  have h8 := WH_le hW
  obtain ⟨mu, U1, M3, e3, h3, hm, hU1⟩ := find_s hy
  have f3 := fr_X2_find e3
  have hy3 := hy.fr f3 (by decide) (by decide)
  obtain ⟨U, hU⟩ : ∃ U, CL W H op col mu U := by
    cases col
    · exact ⟨_, CL_light hW hm hU1⟩
    · exact ⟨_, hU1⟩
  obtain ⟨M5, e5, h5⟩ := fill_s M3 20 0 64 (by decide) (by omega)
  have f5 := fr_J7_fill_53178 e5
  obtain ⟨M7, e7, h7⟩ := clear_s M5 21 (fun _ => 0)
  have f7 := fr_X9_clear e7
  have f57 : Fr [20, 21, 22, 23] M3 M7 := (f5.mono (by decide)).trans f7 (by decide)
  unfold m_X2_markBar
  rw [e3, bd2_q, e5, bd1_q, e7, bd1_q]
  obtain ⟨M8, e8, n, L, k1, k2, k3, k4⟩ := for_M (f := fun t => m_X2_markBar_L23 t.2 (bI col) t.1) 0 (W * H) (fun c M' => ∃ n L, LW W H op col mu n L ∧ WVm M' 21 n L ∧ (∀ d, iso W H op d = true → drk W d = col → mu d = -1 → d < c → inL n L d) ∧ Fr [21, 22, 23] M7 M') (fun c M' c0 c1 hI => by
    show ∃ M2, m_X2_markBar_L23 M' (bI col) c = _ ∧ _
    obtain ⟨n, L, k1, k2, k3, k4⟩ := hI
    have f0 : Fr [20, 21, 22, 23] M3 M' := f57.trans k4 (by decide)
    have hyM := hy3.fr f0 (by decide) (by decide)
    have ec : m_X10_cells M' = W * H := by unfold m_X10_cells; rw [hyM.1, hyM.2.1]
    have keep : ¬ (iso W H op c = true ∧ drk W c = col ∧ mu c = -1) → ∀ d, iso W H op d = true → drk W d = col → mu d = -1 → d < c + 1 → inL n L d := fun hno d d1 d2 d3 d4 => by
      have : d ≠ c := fun q => hno (q ▸ ⟨d1, d2, d3⟩)
      exact k3 d d1 d2 d3 (by omega)
    unfold m_X2_markBar_L23
    rw [ec, wr_id (x := W * H) (by omega) (by omega), wr_id (x := c) (by omega) (by omega), if_neg (by omega), if_pos (by omega), hyM.2.2.2 c c0 (by omega)]
    simp only [wrb]
    cases ho : op c
    · rw [if_ff, bd1_q]
      exact ⟨M', rfl, n, L, k1, k2, keep (fun q => by have := (iso_t.mp q.1).2; rw [ho] at this; exact absurd this (by simp)), k4⟩
    · have hi : iso W H op c = true := isoW c0 c1 ho
      rw [if_tf, isDark_s hyM c0 (by omega), bd1_q]
      simp only [bI_c]
      by_cases hd : drk W c = col
      rotate_left
      · rw [if_neg hd, bd1_q]
        exact ⟨M', rfl, n, L, k1, k2, keep (fun q => hd q.2.1), k4⟩
      · have hmr : mu c = -1 ∨ (0 ≤ mu c ∧ mu c < 64) := by
          rcases hm c hi with p | p
          · exact Or.inl p
          · have := adj_r hW p.1; exact Or.inr ⟨this.2.2.1, this.2.2.2⟩
        rw [if_pos hd, fI f0 (by decide), h3 c c0 (by omega), wr_id (x := mu c) (by omega) (by omega)]
        rcases hmr with p | p
        · rw [if_neg (by omega)]
          have hP : LsP W H op col mu c := fun V hV => hV.2.1 c hi hd p
          obtain ⟨b, M2, n2, L2, e2, c1', c2, c3, c4, c5, c6, c7⟩ := LW_reach hW hU k1 k2 hP
          rw [e2, bd2_q, bd1_q]
          refine ⟨M2, rfl, n2, L2, c2, c1', fun d d1 d2 d3 d4 => ?_, k4.trans c7 (by decide)⟩
          by_cases z : d = c
          · rw [z]; exact c5
          · obtain ⟨j, j0, j1, ej⟩ := k3 d d1 d2 d3 (by omega)
            exact ⟨j, j0, by omega, by rw [c4 j j1]; exact ej⟩
        · rw [if_pos p.1, bd1_q]
          exact ⟨M', rfl, n, L, k1, k2, keep (fun q => by omega), k4⟩) (fun M' hI => by
    show m_X2_markBar_L23 M' (bI col) (W * H) = _
    obtain ⟨n, L, k1, k2, k3, k4⟩ := hI
    have hyM := hy3.fr (f57.trans k4 (by decide)) (by decide) (by decide)
    have ec : m_X10_cells M' = W * H := by unfold m_X10_cells; rw [hyM.1, hyM.2.1]
    unfold m_X2_markBar_L23
    rw [ec, if_pos (Int.le_refl _)]) (by omega) (by omega) (M0 := M7) ⟨0, fun _ => 0, ⟨by omega, fun j j0 j1 => by omega, fun a b _ _ _ => by omega⟩, h7, fun d d1 _ _ d4 => by have := (iso_t.mp d1).1; omega, Fr.rf⟩
  rw [e8, bd2_q]
  have f8 : Fr [20, 21, 22, 23] M3 M8 := f57.trans k4 (by decide)
  have hMB : MB W H op col mu M3 0 0 0 n L M8 := by
    refine ⟨k1, k2, fun d d1 d2 d3 => k3 d d1 d2 d3 (iso_t.mp d1).1.2, fun a a0 a1 => by omega, fun _ m m0 m1 => by omega, fun x x0 x1 => ?_, f8⟩
    rw [fI k4 (by decide), fI f7 (by decide), h5 x x0 x1]
    unfold mkV
    have t1 : ¬ bp (inL 0 L x) = true := fun p => by
      obtain ⟨j, j0, j1, -⟩ := bp_t.mp p; omega
    have t2 : ¬ bp (PLx W H op L 0 0 x) = true := fun p => by
      rcases bp_t.mp p with ⟨a, a0, a1, -⟩ | ⟨m, m0, m1, -⟩ <;> omega
    rw [if_neg t1, if_neg t2]
  obtain ⟨⟨y, M9⟩, e9, n9, L9, b1, b2, b3, b4, b5, b6, b7⟩ := for_g (f := fun t => m_X2_markBar_L75 t.2 t.1) 0 64 (fun i t => t.1 = i ∧ ∃ n L, i ≤ n ∧ MB W H op col mu M3 i i 0 n L t.2) (fun r => ∃ n L, MB W H op col mu M3 n n 0 n L r.2) (by
    rintro i ⟨i', M'⟩ i0 i1 ⟨g0, n, L, gi, g1⟩
    dsimp only at g0 g1
    subst g0
    show (∃ s2, m_X2_markBar_L75 M' i' = _ ∧ _) ∨ (∃ r, m_X2_markBar_L75 M' i' = _ ∧ _)
    have g1' := g1
    obtain ⟨b1, b2, b3, b4, b5, b6, b7⟩ := g1'
    have hLr := LW_r hW hU b1
    unfold m_X2_markBar_L75
    rw [show wr 100 = 100 by decide, wr_id (x := i') (by omega) (by omega), if_neg (c := (100 : Int) ≤ i') (by omega), b2.1, wr_id (x := n) (by omega) (by omega)]
    by_cases z : n ≤ i'
    · right
      rw [if_pos z]
      have : i' = n := by omega
      subst this
      exact ⟨_, rfl, i', L, g1⟩
    · left
      have hi := hLr.2 i' i0 (by omega)
      rw [if_neg z, if_pos (by omega), b2.2.1 i' i0 (by omega), wr_id (x := L i') (by omega) (by omega), if_pos ⟨hi.2.2.1, hi.2.2.2⟩, lt_q]
      have hM1 : MB W H op col mu M3 (i' + 1) i' 0 n L (sI M' 20 (L i') 2) := by
        refine ⟨b1, ?_, b3, b4, b5, fun x x0 x1 => ?_, b7.sI (by decide) rfl⟩
        · obtain ⟨v1, v2, v3⟩ := b2
          refine ⟨?_, fun j j0 j1 => ?_, fun x x0 x1 => ?_⟩
          · rw [gI_sI, if_neg (by simp)]; exact v1
          · rw [gI_sI, if_neg (by simp)]; exact v2 j j0 j1
          · rw [gI_sI, if_neg (by simp)]; exact v3 x x0 x1
        · rw [gI_sI]
          by_cases z2 : x = L i'
          · rw [if_pos ⟨rfl, z2⟩]
            unfold mkV
            have t1 : bp (inL (i' + 1) L x) = true := bp_t.mpr ⟨i', i0, by omega, z2.symm⟩
            rw [if_pos t1]
          · rw [if_neg (fun p => z2 p.2), b6 x x0 x1]
            unfold mkV
            have : inL i' L x ↔ inL (i' + 1) L x := by
              constructor
              · rintro ⟨j, j0, j1, ej⟩; exact ⟨j, j0, by omega, ej⟩
              · rintro ⟨j, j0, j1, ej⟩
                exact ⟨j, j0, by have : j ≠ i' := fun q => z2 (by rw [← ej, q]); omega, ej⟩
            rw [bp_congr this]
      obtain ⟨y, n', L', M2, e2, hn', h2⟩ := bar108_s hy3 h3 hU i0 (by omega) hM1
      rw [e2, bd2_q]
      obtain ⟨p1, p2, p3, p4, p5, p6, p7⟩ := h2
      refine ⟨_, rfl, rfl, n', L', by omega, p1, p2, p3, fun a a0 a1 a2 m m0 m1 m2 => ?_, fun _ m m0 m1 => by omega, fun x x0 x1 => ?_, p7⟩
      · by_cases z2 : a = i'
        · rw [z2] at m2 ⊢; exact p5 hn' m m0 m1 m2
        · exact p4 a a0 (by omega) a2 m m0 m1 m2
      · rw [p6 x x0 x1]
        unfold mkV
        have : PLx W H op L' i' 4 x ↔ PLx W H op L' (i' + 1) 0 x := by
          constructor
          · rintro (⟨a, a0, a1, c⟩ | c)
            · exact Or.inl ⟨a, a0, by omega, c⟩
            · exact Or.inl ⟨i', i0, by omega, c⟩
          · rintro (⟨a, a0, a1, c⟩ | ⟨m, m0, m1, c⟩)
            · by_cases z2 : a = i'
              · rw [z2] at c; exact Or.inr c
              · exact Or.inl ⟨a, a0, by omega, c⟩
            · omega
        rw [bp_congr this]) (by
    rintro ⟨i', M'⟩ ⟨g0, n, L, gi, g1⟩
    dsimp only at g0 g1
    have hLr := LW_r hW hU g1.1
    have : n = 64 := by omega
    subst this
    refine ⟨(i', M'), ?_, 64, L, g1⟩
    show m_X2_markBar_L75 M' i' = _
    unfold m_X2_markBar_L75
    rw [g0, if_neg (c := wr 100 ≤ wr 64) (by decide), g1.2.1.1, if_pos (Int.le_refl _)]) (by omega) (by omega) (s0 := (0, M8)) ⟨rfl, n, L, k1.1, hMB⟩
  rw [e9, bd2_q]
  dsimp only at b2 b6 b7
  have hLr := LW_r hW hU b1
  refine ⟨mu, U, inL n9 L9, M9, rfl, hm, hU, ⟨b3, ?_, ?_⟩, fun x x0 x1 => ?_⟩
  · rintro d l ⟨j, j0, j1, ej⟩ ha
    rw [← ej] at ha
    obtain ⟨m, m0, m1, em⟩ := (bes_N (op := op) hW (L9 j) (hLr.2 j j0 j1).1).2 l ha
    have := b4 j j0 j1 j1 m m0 m1 (by rw [em]; exact (adj_r hW ha).2.2.1)
    rw [em] at this; exact this
  · rintro V hV d ⟨j, j0, j1, ej⟩
    rw [← ej]; exact b1.2.1 j j0 j1 V hV
  · rw [b6 x x0 x1]
    unfold mkV mkR
    have : PLx W H op L9 n9 0 x ↔ NU W H op (inL n9 L9) x := by
      constructor
      · rintro (⟨a, a0, a1, m, m0, m1, c⟩ | ⟨m, m0, m1, c⟩)
        · rcases (bes_N (op := op) hW (L9 a) (hLr.2 a a0 a1).1).1 m m0 m1 with q | q
          · omega
          · rw [c] at q; exact ⟨L9 a, ⟨a, a0, a1, rfl⟩, q⟩
        · omega
      · rintro ⟨d, ⟨a, a0, a1, ea⟩, q⟩
        rw [← ea] at q
        exact Or.inl ⟨a, a0, a1, (bes_N (op := op) hW (L9 a) (hLr.2 a a0 a1).1).2 x q⟩
    rw [bp_congr this]
