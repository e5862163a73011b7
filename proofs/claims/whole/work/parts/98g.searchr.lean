/-! the reference's searches -/
theorem be3l_l {A1 A2 A3 B C : Type} (a : A1) (b : A2) (c : A3) (f : A1 → A2 → A3 → Option (C ⊕ (C ⊕ B))) : be3l (some (Sum.inl (a, b, c))) f = f a b c := (Eq.refl (f a b c)).trans (Eq.refl _)
theorem be3l_r {A1 A2 A3 B C : Type} (r : B) (f : A1 → A2 → A3 → Option (C ⊕ (C ⊕ B))) : be3l (some (Sum.inr r)) f = some (.inr (.inr r)) := (Eq.refl (some (Sum.inr (Sum.inr r)))).trans (Eq.refl _)
/-- what lies in the reference's rooms -/
def RF (W H : Int) (op : Int → Bool) (col : Bool) (O : Int → Prop) (n : Int) (L F : Int → Int) (M : Mem) : Prop := ∀ x, iso W H op x = true → (drk W x = !col → gI M 68 x = F x) ∧ (drk W x = col → -1 ≤ gI M 68 x ∧ gI M 68 x < 64 ∧ (0 ≤ gI M 68 x ↔ (inL n L x ∨ O x)))
def RS1 (W H : Int) (op : Int → Bool) (col : Bool) (mu : Int → Int) (O : Int → Prop) (s : Int) (M0 : Mem) (i k : Int) (n : Int) (L F : Int → Int) (M : Mem) : Prop := BI W H op col mu O (besR W H op) s n L F i k ∧ (∀ j, 0 ≤ j → j < n → gI M 69 j = L j) ∧ RF W H op col O n L F M ∧ Fr [68, 69] M0 M
/-- a bare cell of the other colour was found -/
def RFo (W H : Int) (op : Int → Bool) (col : Bool) (mu : Int → Int) (O : Int → Prop) (s : Int) (M0 : Mem) (l : Int) (M : Mem) : Prop := ∃ n L F i k, 0 ≤ i ∧ i < n ∧ BI W H op col mu O (besR W H op) s n L F i k ∧ adj W H op (L i) l ∧ F l < 0 ∧ mu l = -1 ∧ (∀ x, iso W H op x = true → drk W x = !col → gI M 68 x = up1 F l (L i) x) ∧ Fr [68, 69] M0 M
theorem nc {c : Bool} : c ≠ !c := by cases c <;> decide
theorem sea26_s {M0 : Mem} {W H : Int} {op : Int → Bool} (hy : YR M0 W H op) {col : Bool} {mu : Int → Int} (hm : MT W H op mu) (h67 : gX M0 67 mu) {O : Int → Prop} {s : Int} {i n : Int} {L F : Int → Int} {M : Mem} (i0 : 0 ≤ i) (i1 : i < n) (h : RS1 W H op col mu O s M0 i 0 n L F M) : (∃ y n' L' F' M2, itr (fun t => m_X12_searches_L26 t.2.2 i t.1 t.2.1) FU (n, 0, M) = some (.inl (n', y, M2)) ∧ RS1 W H op col mu O s M0 i 4 n' L' F' M2) ∨ (∃ l M2, itr (fun t => m_X12_searches_L26 t.2.2 i t.1 t.2.1) FU (n, 0, M) = some (.inr (l, M2)) ∧ RFo W H op col mu O s M0 l M2) := by
  have hW := hy.2.2.1
  obtain ⟨r, e, hQ⟩ := for_g (f := fun t => m_X12_searches_L26 t.2.2 i t.1 t.2.1) 0 4 (fun k t => t.2.1 = k ∧ ∃ L' F', i < t.1 ∧ RS1 W H op col mu O s M0 i k t.1 L' F' t.2.2) (fun r => (∃ y n' L' F' M2, r = .inl (n', y, M2) ∧ RS1 W H op col mu O s M0 i 4 n' L' F' M2) ∨ (∃ l M2, r = .inr (l, M2) ∧ RFo W H op col mu O s M0 l M2)) (by
    rintro k ⟨n', k', M'⟩ k0 k1 ⟨g0, L', F', g1, g3⟩
    dsimp only at g0 g1 g3
    subst g0
    show (∃ s2, m_X12_searches_L26 M' i n' k' = _ ∧ _) ∨ (∃ r, m_X12_searches_L26 M' i n' k' = _ ∧ _)
    have g3' := g3
    obtain ⟨b1, b2, b3, b4⟩ := g3'
    have hyM := hy.fr b4 (by decide) (by decide)
    have hi := b1.2.1 i i0 g1
    have hir := iso_r hW hi.1
    have hn := BI_n hW b1
    unfold m_X12_searches_L26
    rw [show wr 4 = 4 by decide, wr_id (x := k') (by omega) (by omega), if_neg (by omega), wr_id (x := i) (by omega) (by omega), if_pos (by omega), b2 i i0 g1, besideR_s hyM hir.1 hir.2 k0 k1, bd1_q]
    generalize hl : besR W H op (L' i) k' = l
    rcases (besR_N (op := op) hW (L' i) hi.1).1 k' k0 k1 with q | hadj
    · rw [hl] at q
      left
      rw [q, if_pos (by decide)]
      exact ⟨_, rfl, rfl, L', F', g1, BI_skip b1 (by rw [hl]; omega), b2, b3, b4⟩
    · rw [hl] at hadj
      have q := adj_r hW hadj
      have hll : drk W l = !col := by rw [adj_d hadj, hi.2.1]
      have hFr : -1 ≤ F' l ∧ F' l < 64 := by
        rcases b1.2.2.2.2.1 l hadj.2.1 hll with p | p
        · omega
        · omega
      rw [wr_id (x := l) (by omega) (by omega), if_neg (by omega), if_pos (by omega), (b3 l hadj.2.1).1 hll, wr_id (x := F' l) (by omega) (by omega)]
      by_cases hF : F' l < 0
      rotate_left
      · left
        rw [if_pos (by omega)]
        exact ⟨_, rfl, rfl, L', F', g1, BI_skip b1 (by rw [hl]; omega), b2, b3, b4⟩
      · rw [if_neg (by omega), lt_q]
        have hmr : mu l = -1 ∨ (0 ≤ mu l ∧ mu l < 64) := by
          rcases hm l hadj.2.1 with p | p
          · exact Or.inl p
          · have := adj_r hW p.1; exact Or.inr ⟨this.2.2.1, this.2.2.2⟩
        have e67 : gI (sI M' 68 l (L' i)) 67 l = mu l := by
          rw [gI_sI, if_neg (by simp), fI b4 (by decide)]; exact h67 l (by omega) (by omega)
        have f4 : Fr [68, 69] M0 (sI M' 68 l (L' i)) := b4.sI (by decide) rfl
        have hRl : ∀ x, iso W H op x = true → drk W x = !col → gI (sI M' 68 l (L' i)) 68 x = up1 F' l (L' i) x := fun x x1 x2 => by
          rw [gI_sI]
          show _ = if x = l then L' i else F' x
          by_cases z : x = l
          · rw [if_pos ⟨rfl, z⟩, if_pos z]
          · rw [if_neg (fun p => z p.2), if_neg z]; exact (b3 x x1).1 x2
        rw [e67, wr_id (x := mu l) (by omega) (by omega)]
        rcases hmr with p | p
        · right
          rw [if_neg (by omega)]
          exact ⟨_, rfl, Or.inr ⟨l, _, rfl, n', L', F', i, k', i0, g1, b1, hadj, hF, p, hRl, f4⟩⟩
        · left
          rw [if_pos p.1, if_pos p]
          obtain ⟨-, o1, o2, go1, go2⟩ := BI_go hW hm (besR_N (op := op) hW) b1 i0 g1 k0 k1 hl q.2.2.1 hF p.1
          have nml : mu l ≠ l := fun t => by rw [t, hll] at o2; exact nc o2.symm
          have e68 : gI (sI M' 68 l (L' i)) 68 (mu l) = gI M' 68 (mu l) := by rw [gI_sI, if_neg (fun t => nml t.2)]
          have hr := (b3 (mu l) o1).2 o2
          rw [e68, wr_id (x := gI M' 68 (mu l)) (by omega) (by omega)]
          by_cases t : 0 ≤ gI M' 68 (mu l)
          · rw [if_pos t, bd2_q]
            refine ⟨_, rfl, rfl, L', up1 F' l (L' i), g1, go2 ((hr.2.2.mp t).symm), fun j j0 j1 => ?_, fun x x1 => ⟨hRl x x1, fun x2 => ?_⟩, f4⟩
            · rw [gI_sI, if_neg (by simp)]; exact b2 j j0 j1
            · dsimp only
              rw [gI_sI, if_neg (fun p => by rw [p.2, hll] at x2; exact nc x2.symm)]
              exact (b3 x x1).2 x2
          · rw [if_neg t, lt_q, wr_id (x := n') (by omega) (by omega)]
            have hnn : ¬ inL n' L' (mu l) ∧ ¬ O (mu l) := ⟨fun y => t (hr.2.2.mpr (Or.inl y)), fun y => t (hr.2.2.mpr (Or.inr y))⟩
            have hB := go1 hnn.2 hnn.1
            have hn2 := BI_n hW hB
            have e67' : gI (sI (sI M' 68 l (L' i)) 68 (mu l) l) 67 l = mu l := by
              rw [gI_sI, if_neg (by simp)]; exact e67
            rw [if_pos (by omega), lt_q, e67', bd2_q]
            refine ⟨_, rfl, rfl, up1 L' n' (mu l), up1 F' l (L' i), by show i < n' + 1; omega, hB, fun j j0 j1 => ?_, fun x x1 => ⟨fun x2 => ?_, fun x2 => ?_⟩, (f4.sI (by decide) rfl).sI (by decide) rfl⟩
            · dsimp only at j1 ⊢
              rw [gI_sI]
              by_cases z : j = n'
              · rw [if_pos ⟨rfl, z⟩, z, up1_at]
              · rw [if_neg (fun p => z p.2), gI_sI, if_neg (by simp), gI_sI, if_neg (by simp), up1_lt (by omega)]
                exact b2 j j0 (by omega)
            · dsimp only
              rw [gI_sI, if_neg (by simp), gI_sI, if_neg (fun p => by rw [p.2, o2] at x2; exact nc x2)]
              exact hRl x x1 x2
            · dsimp only
              rw [gI_sI, if_neg (by simp), gI_sI]
              by_cases z : x = mu l
              · rw [if_pos ⟨rfl, z⟩]
                exact ⟨by omega, by omega, fun _ => Or.inl ((inL_up (by omega)).mpr (Or.inr z)), fun _ => by omega⟩
              · rw [if_neg (fun p => z p.2), gI_sI, if_neg (fun p => by rw [p.2, hll] at x2; exact nc x2.symm)]
                have hx := (b3 x x1).2 x2
                refine ⟨hx.1, hx.2.1, hx.2.2.trans ?_⟩
                rw [inL_up (by omega)]
                exact ⟨fun y => y.elim (fun y => Or.inl (Or.inl y)) Or.inr, fun y => y.elim (fun y => y.elim Or.inl (fun w => absurd w z)) Or.inr⟩) (by
    rintro ⟨n', k', M'⟩ ⟨g0, L', F', g1, g3⟩
    dsimp only at g0 g1 g3
    refine ⟨.inl (n', k', M'), ?_, Or.inl ⟨k', n', L', F', M', rfl, g3⟩⟩
    show m_X12_searches_L26 M' i n' k' = _
    unfold m_X12_searches_L26
    rw [g0, if_pos (by decide)]) (by omega) (by omega) (s0 := (n, 0, M)) ⟨rfl, L, F, i1, h⟩
  rcases hQ with ⟨y, n', L', F', M2, q1, q2⟩ | ⟨l, M2, q1, q2⟩
  · exact Or.inl ⟨y, n', L', F', M2, by rw [e, q1], q2⟩
  · exact Or.inr ⟨l, M2, by rw [e, q1], q2⟩
theorem searches_s {M : Mem} {W H : Int} {op : Int → Bool} (hy : YR M W H op) {col : Bool} {mu : Int → Int} (hm : MT W H op mu) (h67 : gX M 67 mu) {O : Int → Prop} {s : Int} (si : iso W H op s = true) (sd : drk W s = col) (sO : ¬ O s) {F : Int → Int} (h5 : ∀ l, iso W H op l = true → drk W l = !col → F l = -1 ∨ (0 ≤ F l ∧ F l < 64 ∧ O (mu l))) {L0 : Int → Int} (hR : RF W H op col O 0 L0 F M) : (∃ M2 n L F i, m_X12_searches M s = some (-1, M2) ∧ n ≤ i ∧ RS1 W H op col mu O s M i 0 n L F M2) ∨ (∃ l M2, m_X12_searches M s = some (l, M2) ∧ RFo W H op col mu O s M l M2) := by
  have hW := hy.2.2.1
  have sr := iso_r hW si
  have b0 : RS1 W H op col mu O s M 0 0 1 (fun _ => s) F (sI (sI M 69 0 s) 68 s s) := by
    refine ⟨BI_1 si sd sO rfl h5, fun j j0 j1 => ?_, fun x x1 => ⟨fun x2 => ?_, fun x2 => ?_⟩, ((Fr.rf.sI (by decide) rfl).sI (by decide) rfl)⟩
    · rw [gI_sI, if_neg (by simp), gI_sI, if_pos ⟨rfl, by omega⟩]
    · rw [gI_sI, if_neg (fun p => by rw [p.2, sd] at x2; exact nc x2), gI_sI, if_neg (by simp)]
      exact (hR x x1).1 x2
    · have hx := (hR x x1).2 x2
      rw [gI_sI]
      by_cases z : x = s
      · rw [if_pos ⟨rfl, z⟩]
        exact ⟨by omega, by omega, fun _ => Or.inl ⟨0, by omega, by omega, z.symm⟩, fun _ => by omega⟩
      · rw [if_neg (fun p => z p.2), gI_sI, if_neg (by simp)]
        refine ⟨hx.1, hx.2.1, hx.2.2.trans ?_⟩
        exact ⟨fun y => y.elim (fun ⟨j, j0, j1, _⟩ => by omega) Or.inr, fun y => y.elim (fun ⟨j, j0, j1, ej⟩ => absurd ej.symm z) Or.inr⟩
  unfold m_X12_searches
  rw [show wr 0 = 0 by decide, lt_q, wr_id (x := s) (by omega) (by omega), if_pos (by omega), lt_q]
  obtain ⟨r, e, hQ⟩ := for_g (f := fun t => m_X12_searches_L18 t.2.2 t.1 t.2.1) 0 64 (fun i t => t.2.1 = i ∧ ∃ L F, RS1 W H op col mu O s M i 0 t.1 L F t.2.2) (fun r => (∃ y i n L F M2, r = .inl (n, y, M2) ∧ n ≤ i ∧ RS1 W H op col mu O s M i 0 n L F M2) ∨ (∃ l M2, r = .inr (l, M2) ∧ RFo W H op col mu O s M l M2)) (by
    rintro i ⟨n, i', M'⟩ i0 i1 ⟨g0, L, F, g1⟩
    dsimp only at g0 g1
    subst g0
    show (∃ s2, m_X12_searches_L18 M' n i' = _ ∧ _) ∨ (∃ r, m_X12_searches_L18 M' n i' = _ ∧ _)
    have hn := BI_n hW g1.1
    have hn1 := g1.1.1.1
    unfold m_X12_searches_L18
    rw [wr_id (x := n) (by omega) (by omega), wr_id (x := i') (by omega) (by omega)]
    by_cases z : n ≤ i'
    · right
      rw [if_pos z]
      exact ⟨_, rfl, Or.inl ⟨i', i', n, L, F, M', rfl, z, g1⟩⟩
    · rw [if_neg z]
      rcases sea26_s hy hm h67 i0 (by omega) g1 with ⟨y, n', L', F', M4, e4, k4⟩ | ⟨l, M4, e4, k4⟩
      · left
        rw [e4, be3l_l]
        exact ⟨_, rfl, rfl, L', F', BI_next k4.1, k4.2⟩
      · right
        rw [e4, be3l_r]
        exact ⟨_, rfl, Or.inr ⟨l, M4, rfl, k4⟩⟩) (by
    rintro ⟨n, i', M'⟩ ⟨g0, L, F, g1⟩
    dsimp only at g0 g1
    have hn := BI_n hW g1.1
    have hn1 := g1.1.1.1
    refine ⟨.inl (n, i', M'), ?_, Or.inl ⟨i', 64, n, L, F, M', rfl, hn, g1⟩⟩
    show m_X12_searches_L18 M' n i' = _
    unfold m_X12_searches_L18
    rw [g0, if_pos (by rw [wr_id (x := n) (by omega) (by omega)]; exact hn)]) (by omega) (by omega) (s0 := (1, 0, sI (sI M 69 0 s) 68 s s)) ⟨rfl, _, _, b0⟩
  rcases hQ with ⟨y, i, n, L, F, M4, q1, q2, q3⟩ | ⟨l, M4, q1, q2⟩
  · left
    rw [e, q1, be3_l]
    exact ⟨M4, n, L, F, i, rfl, q2, q3⟩
  · right
    rw [e, q1, be3_r]
    exact ⟨l, M4, rfl, q2⟩
