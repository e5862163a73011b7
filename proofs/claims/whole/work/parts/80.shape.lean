/-! whether a yard is whole: the class -/
def fstO (W H : Int) (op : Int → Bool) (f : Int) : Prop := iso W H op f = true ∧ ∀ c, 0 ≤ c → c < f → op c = false
theorem nOp_0 {W H : Int} {op : Int → Bool} (hW : WHr W H) : nOp W H op = 0 ↔ ∀ c, 0 ≤ c → c < W * H → op c = false := by
  have h8 := WH_le hW
  have key := sm_eq (f := fun _ => 0) (g := fun c => bI (op c)) (W * H).toNat (fun i _ _ => bI_lo _)
  have z0 : ∀ k : Nat, sm k (fun _ => 0) = 0 := by
    intro k
    induction k with
    | zero => rfl
    | succ k ih => rw [sm_s, ih]; rfl
  rw [z0] at key
  unfold nOp sI'
  constructor
  · intro h c c0 c1
    have := key.2 h.symm c c0 (by omega)
    exact (bI_inj (a := false)).mp this |>.symm
  · intro h
    rw [← z0 (W * H).toNat]
    apply sm_congr
    intro i i0 i1
    rw [h i i0 (by omega)]
    rfl
theorem nOp_r (W H : Int) (op : Int → Bool) (hW : WHr W H) : 0 ≤ nOp W H op ∧ nOp W H op ≤ 64 := by
  have h8 := WH_le hW
  have key : ∀ k : Nat, 0 ≤ sm k (fun c => bI (op c)) ∧ sm k (fun c => bI (op c)) ≤ k := by
    intro k
    induction k with
    | zero => exact ⟨by rw [sm_z]; omega, by rw [sm_z]; omega⟩
    | succ k ih =>
      have := bI_lo (op (k : Int))
      have := bI_hi (op (k : Int))
      rw [sm_s]
      omega
  have := key (W * H).toNat
  unfold nOp sI'
  omega
theorem bes_r {W H : Int} {op : Int → Bool} (hW : WHr W H) (c k : Int) : bes W H op c k = -1 ∨ (0 ≤ bes W H op c k ∧ bes W H op c k < 64 ∧ iso W H op (bes W H op c k) = true) := by
  have h8 := WH_le hW
  have key : ∀ x y, oAt W H op x y = -1 ∨ (0 ≤ oAt W H op x y ∧ oAt W H op x y < 64 ∧ iso W H op (oAt W H op x y) = true) := by
    intro x y
    rcases oAt_r (op := op) hW x y with ⟨a, b⟩ | ⟨a, b, c, d, e, -⟩
    · exact Or.inl a
    · exact Or.inr ⟨a, by omega, iso_t.mpr ⟨⟨a, b⟩, e⟩⟩
  unfold bes
  repeat' split
  all_goals exact key _ _
theorem PW_iso {W H : Int} {op : Int → Bool} (hW : WHr W H) {f n i k : Int} {L : Int → Int} (hf : iso W H op f = true) (h : PW (bes W H op) 4 f n L i k) : ∀ j, 0 ≤ j → j < n → iso W H op (L j) = true := by
  intro j j0 j1
  by_cases z : j = 0
  · rw [z, h.2.1]; exact hf
  · obtain ⟨a, a0, a1, m, m0, m1, e⟩ := h.2.2.2.1 j (by omega) j1
    have hr := h.2.2.1 j j0 j1
    rw [← e] at hr ⊢
    rcases bes_r (op := op) hW (L a) m with y | y
    · omega
    · exact y.2.2
theorem openWave_s {M : Mem} {W H : Int} {op : Int → Bool} (hy : YC M W H op) {f : Int} {L0 : Int → Int} (hf : iso W H op f = true) (h : WVm M 25 1 L0) (hL : L0 0 = f) : ∃ y n L M2, itr (fun s => m_X5_openIsOne_L53 s.2 s.1) FU (0, M) = some (y, M2) ∧ WV (bes W H op) 4 f n L ∧ WVm M2 25 n L ∧ Fr [25, 26, 27] M M2 := by
  have hW := hy.2.2.1
  have h8 := WH_le hW
  have hfr := (iso_t.mp hf).1
  obtain ⟨⟨y, M2⟩, e, n, L, g1, g2, g3⟩ := for_g (f := fun s => m_X5_openIsOne_L53 s.2 s.1) 0 100 (fun i s => s.1 = i ∧ ∃ n L, PW (bes W H op) 4 f n L i 0 ∧ WVm s.2 25 n L ∧ Fr [25, 26, 27] M s.2 ∧ i ≤ n) (fun r => ∃ n L, WV (bes W H op) 4 f n L ∧ WVm r.2 25 n L ∧ Fr [25, 26, 27] M r.2) (by
    rintro i ⟨x, M'⟩ i0 i1 ⟨g0, n, L, g1, g2, g3, g4⟩
    dsimp only at g0 g2 g3
    subst g0
    have hn := PW_100 g1
    show (∃ s2, m_X5_openIsOne_L53 M' x = _ ∧ _) ∨ (∃ s2, m_X5_openIsOne_L53 M' x = _ ∧ _)
    unfold m_X5_openIsOne_L53
    rw [show wr 100 = 100 by decide, wr_id (x := x) (by omega) (by omega), if_neg (c := (100 : Int) ≤ x) (by omega), g2.1, wr_id (x := n) (by have := g1.1; omega) (by omega)]
    by_cases z : n ≤ x
    · rw [if_pos z]
      have : x = n := by omega
      subst this
      exact Or.inr ⟨_, rfl, x, L, g1, g2, g3⟩
    · rw [if_neg z]
      left
      obtain ⟨⟨k', M3⟩, e3, n3, L3, q1, q2, q3, q4, q5⟩ := for_g (f := fun s => m_X5_openIsOne_L72 s.2 x s.1) 0 4 (fun k s => s.1 = k ∧ ∃ n' L', PW (bes W H op) 4 f n' L' x k ∧ WVm s.2 25 n' L' ∧ Fr [25, 26, 27] M s.2 ∧ n ≤ n' ∧ x < n') (fun r => ∃ n' L', PW (bes W H op) 4 f n' L' x 4 ∧ WVm r.2 25 n' L' ∧ Fr [25, 26, 27] M r.2 ∧ n ≤ n' ∧ x < n') (by
        rintro k ⟨k', M3⟩ k0 k1 ⟨w0, n', L', w1, w2, w3, w4, w5⟩
        dsimp only at w0 w2 w3
        subst w0
        left
        have hn' := PW_100 w1
        have hLx := (iso_t.mp (PW_iso hW hf w1 x i0 w5)).1
        show ∃ s2, m_X5_openIsOne_L72 M3 x k' = _ ∧ _
        unfold m_X5_openIsOne_L72
        rw [show wr 4 = 4 by decide, wr_id (x := k') (by omega) (by omega), if_neg (by omega), wr_id (x := x) (by omega) (by omega), if_pos (by omega), w2.2.1 x i0 w5, beside_s (hy.fr w3 (by decide) (by decide)) hLx.1 (by omega) k0 k1, bd1_q]
        have hb := bes_r (op := op) hW (L' x) k'
        obtain ⟨M4, e4, r1, r2⟩ := reach_s w2 (by have := w1.1; omega) (q := bes W H op (L' x) k') (wr_id (by omega) (by omega)) (fun y => PW_room w1 y)
        obtain ⟨a1, a2, a3⟩ := PW_add w1 i0 w5 k0 k1
        rw [e4, bd2_q]
        exact ⟨_, rfl, rfl, _, _, a1, r1, w3.trans r2 (by decide), by omega, by omega⟩) (by
        rintro ⟨k', M3⟩ ⟨w0, n', L', w1, w2, w3, w4, w5⟩
        dsimp only at w0 w2 w3
        subst w0
        show ∃ s2, m_X5_openIsOne_L72 M3 x 4 = _ ∧ _
        unfold m_X5_openIsOne_L72
        rw [if_pos (by decide)]
        exact ⟨_, rfl, n', L', w1, w2, w3, w4, w5⟩) (by omega) (by omega) (s0 := (0, M')) ⟨rfl, n, L, g1, g2, g3, by omega, by omega⟩
      rw [e3, bd2_q]
      exact ⟨_, rfl, rfl, n3, L3, PW_next q1 i0, q2, q3, by omega⟩) (by
    rintro ⟨x, M'⟩ ⟨g0, n, L, g1, g2, g3, g4⟩
    dsimp only at g0 g2 g3
    subst g0
    have hn := PW_100 g1
    show ∃ s2, m_X5_openIsOne_L53 M' 100 = _ ∧ _
    unfold m_X5_openIsOne_L53
    rw [if_pos (Int.le_refl _)]
    have : n = 100 := by omega
    subst this
    exact ⟨_, rfl, 100, L, g1, g2, g3⟩) (by omega) (by omega) (s0 := (0, M)) ⟨rfl, 1, L0, PW_1 _ _ _ _ hL hfr.1 (by omega), h, Fr.rf, by omega⟩
  exact ⟨y, n, L, M2, e, g1, g2, g3⟩
theorem openIsOne_s {M : Mem} {W H : Int} {op : Int → Bool} (hy : YC M W H op) : ∃ M2, Fr [25, 26, 27] M M2 ∧ ((nOp W H op = 0 ∧ m_X5_openIsOne M = some (false, M2)) ∨ (∃ f n L, fstO W H op f ∧ WV (bes W H op) 4 f n L ∧ m_X5_openIsOne M = some (decide (n = nOp W H op), M2))) := by
  have hW := hy.2.2.1
  have h8 := WH_le hW
  have hnr := nOp_r W H op hW
  obtain ⟨M1, e1, h1⟩ := clear_s M 25 (fun _ => 0)
  have f1 := fr_X9_clear e1
  have f1' : Fr [25, 26, 27] M M1 := f1.mono (by decide)
  have ec : ∀ M', Fr [25, 26, 27] M M' → m_X10_cells M' = W * H := fun M' f => by
    unfold m_X10_cells
    rw [fI f (by decide), fI f (by decide), hy.1, hy.2.1]
  obtain ⟨⟨y, M2⟩, e2, hQ, f2⟩ := for_g (f := fun s => m_X5_openIsOne_L9 s.2 s.1) 0 (W * H) (fun c s => s.1 = c ∧ ((WVm s.2 25 0 (fun _ => 0) ∧ ∀ d, 0 ≤ d → d < c → op d = false) ∨ (∃ f L, WVm s.2 25 1 L ∧ L 0 = f ∧ fstO W H op f)) ∧ Fr [25, 26, 27] M s.2) (fun r => ((WVm r.2 25 0 (fun _ => 0) ∧ nOp W H op = 0) ∨ (∃ f L, WVm r.2 25 1 L ∧ L 0 = f ∧ fstO W H op f)) ∧ Fr [25, 26, 27] M r.2) (by
    rintro c ⟨x, M'⟩ c0 c1 ⟨g0, g1, g2⟩
    dsimp only at g0 g1 g2
    subst g0
    have hy' := hy.fr g2 (by decide) (by decide)
    show (∃ s2, m_X5_openIsOne_L9 M' x = _ ∧ _) ∨ (∃ s2, m_X5_openIsOne_L9 M' x = _ ∧ _)
    unfold m_X5_openIsOne_L9
    rw [ec M' g2, wr_id (x := W * H) (by omega) (by omega), wr_id (x := x) (by omega) (by omega), if_neg (by omega)]
    rcases g1 with ⟨w1, w2⟩ | ⟨f, L, w1, w2, w3⟩
    · rw [w1.1, if_pos (by decide), if_pos (c := 0 ≤ x ∧ x < 64) (by omega), hy'.2.2.2 x c0 (by omega)]
      simp only [wrb]
      left
      cases ho : op x
      · rw [if_ff, bd1_q]
        refine ⟨_, rfl, rfl, Or.inl ⟨w1, fun d d0 d1 => ?_⟩, g2⟩
        by_cases z : d = x
        · rw [z]; exact ho
        · exact w2 d d0 (by omega)
      · have hnw : nwp 0 (fun _ => 0) x := ⟨c0, by omega, fun ⟨j, j0, j1, _⟩ => by omega⟩
        obtain ⟨M3, e3, r1, r2⟩ := reach_s w1 (by omega) (q := x) (wr_id (by omega) (by omega)) (fun _ => by omega)
        unfold adN adL' at r1
        rw [bp_t.mpr hnw, if_pos rfl, if_pos rfl] at r1
        rw [if_tf, e3, bd2_q, bd1_q]
        exact ⟨_, rfl, rfl, Or.inr ⟨x, up1 (fun _ => 0) 0 x, r1, up1_e, iso_t.mpr ⟨⟨c0, c1⟩, ho⟩, w2⟩, g2.trans r2 (by decide)⟩
    · rw [w1.1, if_neg (by decide)]
      exact Or.inr ⟨_, rfl, Or.inr ⟨f, L, w1, w2, w3⟩, g2⟩) (by
    rintro ⟨x, M'⟩ ⟨g0, g1, g2⟩
    dsimp only at g0 g1 g2
    refine ⟨(x, M'), ?_, ?_, g2⟩
    · show m_X5_openIsOne_L9 M' x = _
      unfold m_X5_openIsOne_L9
      rw [ec M' g2, g0, if_pos (by omega)]
    · rcases g1 with ⟨w1, w2⟩ | w
      · exact Or.inl ⟨w1, (nOp_0 hW).mpr w2⟩
      · exact Or.inr w) (by omega) (by omega) (s0 := (0, M1)) ⟨rfl, Or.inl ⟨h1, fun d d0 d1 => by omega⟩, f1'⟩
  dsimp only at hQ f2
  have fin : ∀ (M3 : Mem) (v : Bool), (if bI v = 0 ∨ bI v = 1 then some (decide (bI v = 1), M3) else none) = some (v, M3) := by
    intro M3 v
    cases v <;> rfl
  unfold m_X5_openIsOne
  rw [e1, bd1_q, e2, bd2_q]
  rcases hQ with ⟨w1, w2⟩ | ⟨f, L, w1, w2, w3⟩
  · refine ⟨M2, f2, Or.inl ⟨w2, ?_⟩⟩
    have e3 : itr (fun s => m_X5_openIsOne_L53 s.2 s.1) FU (0, M2) = some (0, M2) := by
      obtain ⟨M9, e9, h9⟩ := for_M (f := fun s => m_X5_openIsOne_L53 s.2 s.1) 0 0 (fun _ M' => M' = M2) (fun i M' a b => by omega) (fun M' h => by
        show m_X5_openIsOne_L53 M' 0 = _
        unfold m_X5_openIsOne_L53
        rw [h, if_neg (c := wr 100 ≤ wr 0) (by decide), w1.1, if_pos (by decide)]) (by omega) (by omega) (M0 := M2) rfl
      rw [e9, h9]
    rw [e3, bd2_q, w1.1, if_pos (by decide), bd1_q]
    exact fin M2 false
  · obtain ⟨y3, n, L3, M3, e3, q1, q2, q3⟩ := openWave_s (hy.fr f2 (by decide) (by decide)) w3.1 w1 w2
    have f3 : Fr [25, 26, 27] M M3 := f2.trans q3 (by decide)
    have hn := PW_100 q1
    have hn1 := q1.1
    refine ⟨M3, f3, Or.inr ⟨f, n, L3, w3, q1, ?_⟩⟩
    rw [e3, bd2_q, q2.1, wr_id (x := n) (by omega) (by omega), if_neg (by omega), openCells_s (hy.fr f3 (by decide) (by decide)), bd1_q, wr_id (x := nOp W H op) (by omega) (by omega)]
    by_cases z : n = nOp W H op
    · rw [if_pos z, bd1_q, decide_eq_true z]; exact fin M3 true
    · rw [if_neg z, bd1_q, decide_eq_false z]; exact fin M3 false
