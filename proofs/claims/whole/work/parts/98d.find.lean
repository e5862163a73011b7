/-! the class's heap of most bricks -/
theorem be2l_l {A1 A2 B C : Type} (a : A1) (b : A2) (f : A1 → A2 → Option (C ⊕ (C ⊕ B))) : be2l (some (Sum.inl (a, b))) f = f a b := (Eq.refl (f a b)).trans (Eq.refl _)
theorem be2l_r {A1 A2 B C : Type} (r : B) (f : A1 → A2 → Option (C ⊕ (C ⊕ B))) : be2l (some (Sum.inr r)) f = some (.inr (.inr r)) := (Eq.refl (some (Sum.inr (Sum.inr r)))).trans (Eq.refl _)
def gX (M : Mem) (k : Nat) (f : Int → Int) : Prop := ∀ x, 0 ≤ x → x < 64 → gI M k x = f x
theorem gX_up {M : Mem} {k : Nat} {f : Int → Int} (h : gX M k f) (x v : Int) : gX (sI M k x v) k (up1 f x v) := fun y y0 y1 => by
  rw [gI_sI]
  show _ = if y = x then v else f y
  by_cases z : y = x
  · rw [if_pos ⟨rfl, z⟩, if_pos z]
  · rw [if_neg (fun q => z q.2), if_neg z]; exact h y y0 y1
theorem gX_ne {M : Mem} {k k2 : Nat} {f : Int → Int} (h : gX M k f) (x v : Int) (hk : k ≠ k2) : gX (sI M k2 x v) k f := fun y y0 y1 => by
  rw [gI_sI, if_neg (fun q => hk q.1)]; exact h y y0 y1
theorem gX_fr {M M2 : Mem} {ks : List Nat} {k : Nat} {f : Int → Int} (h : gX M k f) (hF : Fr ks M M2) (hk : k ∉ ks) : gX M2 k f := fun y y0 y1 => (fI hF hk y).trans (h y y0 y1)
/-- the heap after a path is swapped -/
def SU (W H : Int) (op : Int → Bool) (col : Bool) (mu : Int → Int) (U : Int → Prop) (s : Int) (mu' : Int → Int) : Prop := MT W H op mu' ∧ (∀ d l, U d → adj W H op d l → mu' l = mu l) ∧ (∀ x, iso W H op x = true → drk W x = col → (mu' x = -1 ↔ (mu x = -1 ∧ x ≠ s)))
theorem SW_0 {W H : Int} {op : Int → Bool} (hW : WHr W H) {col : Bool} {mu : Int → Int} (hm : MT W H op mu) {U : Int → Prop} (hU : ∀ d, U d → iso W H op d = true ∧ drk W d = col) (hUc : ∀ d l, U d → adj W H op d l → U (mu l)) {L F : Int → Int} {i lt : Int} (i0 : 0 ≤ i) (hF : F lt = L i) (ha : adj W H op (L i) lt) (hb : mu lt = -1) : SW W H op col mu U L F i lt mu := by
  refine ⟨⟨i0, hF, ha⟩, ?_, fun _ _ _ => rfl, ?_, fun _ _ _ _ => rfl, fun _ _ _ => Iff.rfl⟩
  · have : up1 mu lt (-1) = mu := by
      funext x
      show (if x = lt then -1 else mu x) = mu x
      by_cases z : x = lt
      · rw [if_pos z, z, hb]
      · rw [if_neg z]
    rw [this]; exact hm
  · rintro ⟨d, q1, q2⟩
    have := (hU _ (hUc d lt q1 q2)).1
    rw [hb] at this
    have := iso_r hW this
    omega
theorem swapPath_s {M : Mem} {W H : Int} {op : Int → Bool} (hW : WHr W H) {col : Bool} {mu : Int → Int} (hm : MT W H op mu) {s n : Int} {L F : Int → Int} (hB : BH W H op col mu s n L F) (hn : n ≤ 64) (hs : mu s = -1) {U : Int → Prop} (hU : ∀ d, U d → iso W H op d = true ∧ drk W d = col) (hUc : ∀ d l, U d → adj W H op d l → U (mu l)) (h18 : gX M 18 mu) (h19 : gX M 19 F) {i lt : Int} (hi : i < n) (hS : SW W H op col mu U L F i lt mu) : ∃ M2 mu', m_X2_swapPath M lt = some M2 ∧ gX M2 18 mu' ∧ SU W H op col mu U s mu' ∧ Fr [18] M M2 := by
  unfold m_X2_swapPath
  obtain ⟨r, e, u, z, M2, mu', er, g1, g2, g3⟩ := for_g (f := fun s => m_X2_swapPath_L4 s.2.2 s.1 s.2.1) 0 64 (fun x t => t.2.1 = x ∧ ∃ mc, gX t.2.2 18 mc ∧ Fr [18] M t.2.2 ∧ ((t.1 = -1 ∧ SU W H op col mu U s mc) ∨ (∃ a, SW W H op col mu U L F a t.1 mc ∧ a < n ∧ a + x ≤ 63))) (fun r => ∃ u z M2 mc, r = .inl (u, z, M2) ∧ gX M2 18 mc ∧ SU W H op col mu U s mc ∧ Fr [18] M M2) (by
    rintro x ⟨lt, x', M'⟩ x0 x1 ⟨g0, mc, g1, g2, g3⟩
    dsimp only at g0 g1 g2 g3
    subst g0
    show (∃ s2, m_X2_swapPath_L4 M' lt x' = _ ∧ _) ∨ (∃ r, m_X2_swapPath_L4 M' lt x' = _ ∧ _)
    unfold m_X2_swapPath_L4
    rw [show wr 64 = 64 by decide, wr_id (x := x') (by omega) (by omega), if_neg (by omega)]
    rcases g3 with ⟨q1, q2⟩ | ⟨a, q1, q2, q3⟩
    · right
      rw [q1, if_pos (by decide)]
      exact ⟨_, rfl, _, _, _, mc, rfl, g1, q2, g2⟩
    · left
      have q1' := q1
      obtain ⟨⟨w0, w1, w2⟩, -⟩ := q1'
      have hr := adj_r hW w2
      have h19' := gX_fr h19 g2 (by decide)
      rw [wr_id (x := lt) (by omega) (by omega), if_neg (by omega), if_pos (by omega), h19' lt (by omega) (by omega), w1, wr_id (x := L a) (by omega) (by omega), if_pos (by omega), if_pos (by omega), lt_q, lt_q, g1 (L a) (by omega) (by omega)]
      refine ⟨_, rfl, rfl, up1 (up1 mc (L a) lt) lt (L a), gX_up (gX_up g1 _ _) _ _, (g2.sI (by decide) rfl).sI (by decide) rfl, ?_⟩
      dsimp only
      rcases SW_step hW hm hB hs hU hUc q1 q2 with ⟨p1, p2, p3, p4, p5⟩ | ⟨p1, a', p2, p3⟩
      · exact Or.inl ⟨p2, p3, p4, p5⟩
      · exact Or.inr ⟨a', p3, by omega, by omega⟩) (by
    rintro ⟨lt, x', M'⟩ ⟨g0, mc, g1, g2, g3⟩
    dsimp only at g0 g1 g2 g3
    rcases g3 with ⟨q1, q2⟩ | ⟨a, q1, q2, q3⟩
    · refine ⟨.inl (lt, x', M'), ?_, lt, x', M', mc, rfl, g1, q2, g2⟩
      show m_X2_swapPath_L4 M' lt x' = _
      unfold m_X2_swapPath_L4
      rw [g0, if_pos (by decide)]
    · have := q1.1.1
      omega) (by omega) (by omega) (s0 := (lt, 0, M)) ⟨rfl, mu, h18, Fr.rf, Or.inr ⟨i, hS, hi, by omega⟩⟩
  rw [e, er, be3_l]
  exact ⟨M2, mu', rfl, g1, g2, g3⟩
/-- what the class's search keeps -/
def FS1 (W H : Int) (op : Int → Bool) (mu : Int → Int) (s : Int) (M0 : Mem) (i k : Int) (n : Int) (L F : Int → Int) (M : Mem) : Prop := BI W H op true mu (fun _ => False) (bes W H op) s n L F i k ∧ WVm M 21 n L ∧ gX M 19 F ∧ Fr [19, 21, 22, 23] M0 M
theorem fmf51_s {M0 : Mem} {W H : Int} {op : Int → Bool} (hy : YC M0 W H op) {mu : Int → Int} (hm : MT W H op mu) (h18 : gX M0 18 mu) {s : Int} (hs : mu s = -1) {U : Int → Prop} (hU : ∀ d, U d → iso W H op d = true ∧ drk W d = true) (hUc : ∀ d l, U d → adj W H op d l → U (mu l)) {i n : Int} {L F : Int → Int} {M : Mem} (i0 : 0 ≤ i) (i1 : i < n) (h : FS1 W H op mu s M0 i 0 n L F M) : (∃ y n' L' F' M2, itr (fun t => m_X2_findMateFor_L57 t.2 i (L i) t.1) FU (0, M) = some (.inl (y, M2)) ∧ FS1 W H op mu s M0 i 4 n' L' F' M2) ∨ (∃ M2 mu', itr (fun t => m_X2_findMateFor_L57 t.2 i (L i) t.1) FU (0, M) = some (.inr (true, M2)) ∧ gX M2 18 mu' ∧ SU W H op true mu U s mu' ∧ Fr [18, 19, 21, 22, 23] M0 M2) := by
  have hW := hy.2.2.1
  obtain ⟨r, e, hQ⟩ := for_g (f := fun t => m_X2_findMateFor_L57 t.2 i (L i) t.1) 0 4 (fun k t => t.1 = k ∧ ∃ n' L' F', i < n' ∧ L' i = L i ∧ FS1 W H op mu s M0 i k n' L' F' t.2) (fun r => (∃ y n' L' F' M2, r = .inl (y, M2) ∧ FS1 W H op mu s M0 i 4 n' L' F' M2) ∨ (∃ M2 mu', r = .inr (true, M2) ∧ gX M2 18 mu' ∧ SU W H op true mu U s mu' ∧ Fr [18, 19, 21, 22, 23] M0 M2)) (by
    rintro k ⟨k', M'⟩ k0 k1 ⟨g0, n', L', F', g1, g2, g3⟩
    dsimp only at g0 g3
    subst g0
    show (∃ s2, m_X2_findMateFor_L57 M' i (L i) k' = _ ∧ _) ∨ (∃ r, m_X2_findMateFor_L57 M' i (L i) k' = _ ∧ _)
    obtain ⟨b1, b2, b3, b4⟩ := g3
    have hyM := hy.fr b4 (by decide) (by decide)
    have hi := b1.2.1 i i0 g1
    have hir := iso_r hW hi.1
    rw [g2] at hi hir
    unfold m_X2_findMateFor_L57
    rw [show wr 4 = 4 by decide, wr_id (x := k') (by omega) (by omega), if_neg (by omega), beside_s hyM (by omega) (by omega) k0 k1, bd1_q]
    generalize hl : bes W H op (L i) k' = l
    have hl' : bes W H op (L' i) k' = l := by rw [g2]; exact hl
    have hlr : l = -1 ∨ (0 ≤ l ∧ l < 64) := by
      rcases (bes_N (op := op) hW (L i) hi.1).1 k' k0 k1 with q | q
      · rw [hl] at q; exact Or.inl q
      · rw [hl] at q; have := adj_r hW q; exact Or.inr ⟨this.2.2.1, this.2.2.2⟩
    rcases hlr with q | q
    · left
      rw [q, if_pos (by decide)]
      exact ⟨_, rfl, rfl, n', L', F', g1, g2, BI_skip b1 (by rw [hl']; omega), b2, b3, b4⟩
    · have hadj : adj W H op (L i) l := by
        rcases (bes_N (op := op) hW (L i) hi.1).1 k' k0 k1 with p | p
        · rw [hl] at p; omega
        · rw [hl] at p; exact p
      have hll : drk W l = !true := by rw [adj_d hadj, hi.2.1]
      have hFr : -1 ≤ F' l ∧ F' l < 64 := by
        rcases b1.2.2.2.2.1 l hadj.2.1 hll with p | p
        · omega
        · omega
      rw [wr_id (x := l) (by omega) (by omega), if_neg (by omega), if_pos (by omega), b3 l q.1 q.2, wr_id (x := F' l) (by omega) (by omega)]
      by_cases hF : F' l < 0
      rotate_left
      · left
        rw [if_neg hF]
        exact ⟨_, rfl, rfl, n', L', F', g1, g2, BI_skip b1 (by rw [hl']; omega), b2, b3, b4⟩
      · rw [if_pos hF, lt_q]
        have hmr : mu l = -1 ∨ (0 ≤ mu l ∧ mu l < 64) := by
          rcases hm l hadj.2.1 with p | p
          · exact Or.inl p
          · have := adj_r hW p.1; exact Or.inr ⟨this.2.2.1, this.2.2.2⟩
        have h18' : gX (sI M' 19 l (L i)) 18 mu := gX_ne (gX_fr h18 b4 (by decide)) _ _ (by decide)
        have h19' : gX (sI M' 19 l (L i)) 19 (up1 F' l (L i)) := gX_up b3 _ _
        have f4 : Fr [19, 21, 22, 23] M0 (sI M' 19 l (L i)) := b4.sI (by decide) rfl
        rw [h18' l q.1 q.2, wr_id (x := mu l) (by omega) (by omega)]
        rcases hmr with p | p
        · -- a bare light cell
          right
          rw [if_neg (by omega)]
          have hBH : BH W H op true mu s n' L' (up1 F' l (L i)) := BI_BH hW b1 hF
          have hn := BI_n hW b1
          have hSW : SW W H op true mu U L' (up1 F' l (L i)) i l mu := SW_0 hW hm hU hUc i0 (by
            show (if l = l then L i else F' l) = L' i
            rw [if_pos rfl, g2]) (by rw [g2]; exact hadj) p
          obtain ⟨M2, mu', e2, k1, k2, k3⟩ := swapPath_s hW hm hBH hn hs hU hUc h18' h19' g1 hSW
          rw [e2, bd1_q]
          exact ⟨_, rfl, Or.inr ⟨M2, mu', rfl, k1, k2, (f4.mono (by decide)).trans k3 (by decide)⟩⟩
        · left
          rw [if_pos p.1]
          have hb2 : WVm (sI M' 19 l (L i)) 21 n' L' := by
            obtain ⟨v1, v2, v3⟩ := b2
            refine ⟨?_, fun j j0 j1 => ?_, fun x x0 x1 => ?_⟩
            · rw [gI_sI, if_neg (by simp)]; exact v1
            · rw [gI_sI, if_neg (by simp)]; exact v2 j j0 j1
            · rw [gI_sI, if_neg (by simp)]; exact v3 x x0 x1
          have hn := BI_n hW b1
          obtain ⟨M2, e2, w1, w2⟩ := reach_s hb2 (by omega) (q := mu l) (wr_id (by omega) (by omega)) (fun _ => by omega)
          rw [e2, bd2_q]
          have hgo := BI_go hW hm (bes_N (op := op) hW) b1 i0 g1 k0 k1 hl' q.1 hF p.1
          have fA : Fr [19, 21, 22, 23] M0 M2 := f4.trans w2 (by decide)
          have gA : gX M2 19 (up1 F' l (L i)) := gX_fr h19' w2 (by decide)
          rw [g2] at hgo
          refine ⟨_, rfl, rfl, ?_⟩
          unfold adN adL' at w1
          by_cases t : nwp n' L' (mu l)
          · rw [if_pos (bp_t.mpr t), if_pos (bp_t.mpr t)] at w1
            refine ⟨n' + 1, up1 L' n' (mu l), up1 F' l (L i), by omega, ?_, hgo.2.2.2.1 (fun q => q) t.2.2, w1, gA, fA⟩
            show (if i = n' then mu l else L' i) = L i
            rw [if_neg (by omega)]; exact g2
          · rw [if_neg (fun q => t (bp_t.mp q)), if_neg (fun q => t (bp_t.mp q))] at w1
            have : inL n' L' (mu l) := Classical.byContradiction (fun q => t ⟨p.1, by omega, q⟩)
            exact ⟨n', L', up1 F' l (L i), g1, g2, hgo.2.2.2.2 (Or.inr this), w1, gA, fA⟩) (by
    rintro ⟨k', M'⟩ ⟨g0, n', L', F', g1, g2, g3⟩
    dsimp only at g0 g3
    refine ⟨.inl (k', M'), ?_, Or.inl ⟨k', n', L', F', M', rfl, g3⟩⟩
    show m_X2_findMateFor_L57 M' i (L i) k' = _
    unfold m_X2_findMateFor_L57
    rw [g0, if_pos (by decide)]) (by omega) (by omega) (s0 := (0, M)) ⟨rfl, n, L, F, i1, rfl, h⟩
  rcases hQ with ⟨y, n', L', F', M2, q1, q2⟩ | ⟨M2, mu', q1, q2⟩
  · exact Or.inl ⟨y, n', L', F', M2, by rw [e, q1], q2⟩
  · exact Or.inr ⟨M2, mu', by rw [e, q1], q2⟩
theorem findMateFor_s {M : Mem} {W H : Int} {op : Int → Bool} (hy : YC M W H op) {mu : Int → Int} (hm : MT W H op mu) (h18 : gX M 18 mu) {s : Int} (si : iso W H op s = true) (sd : drk W s = true) (hs : mu s = -1) {U : Int → Prop} (hU : ∀ d, U d → iso W H op d = true ∧ drk W d = true) (hUc : ∀ d l, U d → adj W H op d l → U (mu l)) : ∃ b M2, m_X2_findMateFor M s = some (b, M2) ∧ Fr [18, 19, 21, 22, 23] M M2 ∧ ((b = false ∧ gX M2 18 mu ∧ ∃ Z : Int → Prop, Z s ∧ (∀ d, Z d → iso W H op d = true ∧ drk W d = true) ∧ (∀ d l, Z d → adj W H op d l → Z (mu l))) ∨ (b = true ∧ ∃ mu', gX M2 18 mu' ∧ SU W H op true mu U s mu')) := by
  have hW := hy.2.2.1
  have sr := iso_r hW si
  obtain ⟨M1, e1, h1⟩ := fill_s M 19 (-1) 64 (by decide) (by omega)
  have f1 := fr_J7_fill_53178 e1
  obtain ⟨M2, e2, h2⟩ := clear_s M1 21 (fun _ => 0)
  have f2 := fr_X9_clear e2
  obtain ⟨M3, e3, h3, f3⟩ := reach_s h2 (by omega) (q := s) (wr_id (by omega) (by omega)) (fun _ => by omega)
  have hnw : nwp 0 (fun _ => 0) s := ⟨sr.1, by omega, by rintro ⟨j, a, b, -⟩; omega⟩
  unfold adN adL' at h3
  rw [if_pos (bp_t.mpr hnw), if_pos (bp_t.mpr hnw)] at h3
  have f12 : Fr [19, 21, 22, 23] M M2 := (f1.mono (by decide)).trans f2 (by decide)
  have f13 : Fr [19, 21, 22, 23] M M3 := f12.trans f3 (by decide)
  have b0 : FS1 W H op mu s M 0 0 (0 + 1) (up1 (fun _ => 0) 0 s) (fun _ => -1) M3 := ⟨BI_1 si sd (fun q => q) rfl (fun _ _ _ => Or.inl rfl), h3, fun x x0 x1 => by rw [fI f3 (by decide), fI f2 (by decide)]; exact h1 x x0 x1, f13⟩
  unfold m_X2_findMateFor
  rw [e1, bd1_q, e2, bd1_q, e3, bd2_q]
  obtain ⟨r, e, hQ⟩ := for_g (f := fun t => m_X2_findMateFor_L26 t.2 t.1) 0 64 (fun i t => t.1 = i ∧ ∃ n L F, FS1 W H op mu s M i 0 n L F t.2) (fun r => (∃ y i n L F M2, r = .inl (y, M2) ∧ n ≤ i ∧ FS1 W H op mu s M i 0 n L F M2) ∨ (∃ M2 mu', r = .inr (true, M2) ∧ gX M2 18 mu' ∧ SU W H op true mu U s mu' ∧ Fr [18, 19, 21, 22, 23] M M2)) (by
    rintro i ⟨i', M'⟩ i0 i1 ⟨g0, n, L, F, g1⟩
    dsimp only at g0 g1
    subst g0
    show (∃ s2, m_X2_findMateFor_L26 M' i' = _ ∧ _) ∨ (∃ r, m_X2_findMateFor_L26 M' i' = _ ∧ _)
    have hn := BI_n hW g1.1
    have hn1 := g1.1.1.1
    unfold m_X2_findMateFor_L26
    rw [show wr 100 = 100 by decide, wr_id (x := i') (by omega) (by omega), if_neg (c := (100 : Int) ≤ i') (by omega), g1.2.1.1, wr_id (x := n) (by omega) (by omega)]
    by_cases z : n ≤ i'
    · right
      rw [if_pos z]
      exact ⟨_, rfl, Or.inl ⟨i', i', n, L, F, M', rfl, z, g1⟩⟩
    · rw [if_neg z, if_pos (by omega), g1.2.1.2.1 i' i0 (by omega)]
      rcases fmf51_s hy hm h18 hs hU hUc i0 (by omega) g1 with ⟨y, n', L', F', M4, e4, k4⟩ | ⟨M4, mu', e4, k4⟩
      · left
        rw [e4, be2l_l]
        exact ⟨_, rfl, rfl, n', L', F', BI_next k4.1, k4.2⟩
      · right
        rw [e4, be2l_r]
        exact ⟨_, rfl, Or.inr ⟨M4, mu', rfl, k4⟩⟩) (by
    rintro ⟨i', M'⟩ ⟨g0, n, L, F, g1⟩
    dsimp only at g0 g1
    have hn := BI_n hW g1.1
    have hn1 := g1.1.1.1
    refine ⟨.inl (i', M'), ?_, Or.inl ⟨i', 64, n, L, F, M', rfl, hn, g1⟩⟩
    show m_X2_findMateFor_L26 M' i' = _
    unfold m_X2_findMateFor_L26
    rw [g0, if_neg (c := wr 100 ≤ wr 64) (by decide), g1.2.1.1, if_pos (by rw [wr_id (x := n) (by omega) (by omega)]; exact hn)]) (by omega) (by omega) (s0 := (0, M3)) ⟨rfl, _, _, _, b0⟩
  rcases hQ with ⟨y, i, n, L, F, M4, q1, q2, q3⟩ | ⟨M4, mu', q1, q2, q3, q4⟩
  · rw [e, q1, be2_l]
    refine ⟨false, M4, rfl, q3.2.2.2.mono (by decide), Or.inl ⟨rfl, gX_fr h18 q3.2.2.2 (by decide), inL n L, ?_, ?_, fun d l p1 p2 => ?_⟩⟩
    · exact ⟨0, by omega, by have := q3.1.1.1; omega, q3.1.1.2⟩
    · rintro d ⟨j, j0, j1, ej⟩
      rw [← ej]
      exact ⟨(q3.1.2.1 j j0 j1).1, (q3.1.2.1 j j0 j1).2.1⟩
    · rcases (BI_end (bes_N (op := op) hW) q3.1 q2 p1 p2).2 with t | t
      · exact absurd t (fun q => q)
      · exact t
  · rw [e, q1, be2_r]
    exact ⟨true, M4, rfl, q4, Or.inr ⟨rfl, mu', q2, q3⟩⟩
