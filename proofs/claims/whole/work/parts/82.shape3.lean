/-! whether a yard is whole: corners; the reference's waves -/
theorem be1l_l {A1 B C : Type} (a : A1) (f : A1 → Option (C ⊕ (C ⊕ B))) : be1l (some (Sum.inl a)) f = f a := (Eq.refl (f a)).trans (Eq.refl _)
theorem be1l_r {A1 B C : Type} (r : B) (f : A1 → Option (C ⊕ (C ⊕ B))) : be1l (some (Sum.inr r)) f = some (.inr (.inr r)) := (Eq.refl (some (Sum.inr (Sum.inr r)))).trans (Eq.refl _)
theorem b01 {W H : Int} {op : Int → Bool} (hW : WHr W H) (x y : Int) : (if wr (oAt W H op x y) < 0 then (0 : Int) else 1) = bI (opn W H op x y) := by
  rw [oAt_wr hW]
  simp only [oAt_lt hW]
  cases opn W H op x y <;> rfl
theorem touches_s {M : Mem} {W H : Int} {op : Int → Bool} (hy : YC M W H op) : m_X5_touchesByCorner M = some (bp (tCb W H op)) := by
  have hW := hy.2.2.1
  have hW' := hW
  obtain ⟨a1, a2, a3, a4⟩ := hW'
  have row : ∀ y, 1 ≤ y → y < H → ∃ r, itr (fun s => m_X5_touchesByCorner_L12 M y s) FU 1 = some r ∧ (((∀ x, 1 ≤ x → x < W → ¬ ckb W H op x y) ∧ ∃ z, r = .inl z) ∨ ((∃ x, 1 ≤ x ∧ x < W ∧ ckb W H op x y) ∧ r = .inr true)) := by
    intro y y0 y1
    refine for_g (f := fun s => m_X5_touchesByCorner_L12 M y s) 1 W (fun x s => s = x ∧ ∀ x', 1 ≤ x' → x' < x → ¬ ckb W H op x' y) (fun r => ((∀ x, 1 ≤ x → x < W → ¬ ckb W H op x y) ∧ ∃ z, r = .inl z) ∨ ((∃ x, 1 ≤ x ∧ x < W ∧ ckb W H op x y) ∧ r = .inr true)) (by
      rintro x s x0 x1 ⟨rfl, hq⟩
      show (∃ s2, m_X5_touchesByCorner_L12 M y s = _ ∧ _) ∨ (∃ s2, m_X5_touchesByCorner_L12 M y s = _ ∧ _)
      unfold m_X5_touchesByCorner_L12
      rw [hy.1, wr_id (x := W) (by omega) (by omega), wr_id (x := s) (by omega) (by omega), if_neg (by omega), openAt_s hy (x := s - 1) (y := y - 1) (wr_id (by omega) (by omega)) (wr_id (by omega) (by omega)), openAt_s hy (x := s) (y := y - 1) (wr_id (by omega) (by omega)) (wr_id (by omega) (by omega)), openAt_s hy (x := s - 1) (y := y) (wr_id (by omega) (by omega)) (wr_id (by omega) (by omega)), openAt_s hy (x := s) (y := y) (wr_id (by omega) (by omega)) (wr_id (by omega) (by omega))]
      simp only [bd1_q, lt_q, b01 hW, wr_bI, bI_inj]
      have skip : ¬ ckb W H op s y → ∀ x', 1 ≤ x' → x' < s + 1 → ¬ ckb W H op x' y := by
        intro h x' h1 h2
        by_cases z : x' = s
        · rw [z]; exact h
        · exact hq x' h1 (by omega)
      by_cases c1 : opn W H op (s - 1) (y - 1) = opn W H op s y
      · rw [if_pos c1]
        by_cases c2 : opn W H op s (y - 1) = opn W H op (s - 1) y
        · rw [if_pos c2]
          by_cases c3 : opn W H op (s - 1) (y - 1) = opn W H op s (y - 1)
          · rw [if_pos c3]
            exact Or.inl ⟨_, rfl, rfl, skip (fun h => h.2.2 c3)⟩
          · rw [if_neg c3]
            exact Or.inr ⟨_, rfl, Or.inr ⟨⟨s, x0, x1, c1, c2, c3⟩, rfl⟩⟩
        · rw [if_neg c2]
          exact Or.inl ⟨_, rfl, rfl, skip (fun h => c2 h.2.1)⟩
      · rw [if_neg c1]
        exact Or.inl ⟨_, rfl, rfl, skip (fun h => c1 h.1)⟩) (by
      rintro s ⟨h0, hq⟩
      show ∃ s2, m_X5_touchesByCorner_L12 M y s = _ ∧ _
      unfold m_X5_touchesByCorner_L12
      rw [hy.1, h0, if_pos (by omega)]
      exact ⟨_, rfl, Or.inl ⟨hq, _, rfl⟩⟩) (by omega) (by omega) (s0 := 1) ⟨rfl, fun x' h1 h2 => by omega⟩
  obtain ⟨r, e, hQ⟩ := for_g (f := fun s => m_X5_touchesByCorner_L2 M s) 1 H (fun y s => s = y ∧ ∀ x y', 1 ≤ x → x < W → 1 ≤ y' → y' < y → ¬ ckb W H op x y') (fun r => (¬ tCb W H op ∧ ∃ z, r = .inl z) ∨ (tCb W H op ∧ r = .inr true)) (by
    rintro y s y0 y1 ⟨rfl, hq⟩
    show (∃ s2, m_X5_touchesByCorner_L2 M s = _ ∧ _) ∨ (∃ s2, m_X5_touchesByCorner_L2 M s = _ ∧ _)
    unfold m_X5_touchesByCorner_L2
    obtain ⟨r, e, h | h⟩ := row s y0 y1
    · obtain ⟨h1, z, rfl⟩ := h
      rw [hy.2.1, wr_id (x := H) (by omega) (by omega), wr_id (x := s) (by omega) (by omega), if_neg (by omega), e, be1l_l]
      refine Or.inl ⟨_, rfl, rfl, fun x y' x0 x1 y0' y1' => ?_⟩
      by_cases w : y' = s
      · rw [w]; exact h1 x x0 x1
      · exact hq x y' x0 x1 y0' (by omega)
    · obtain ⟨⟨x, x0, x1, hc⟩, rfl⟩ := h
      rw [hy.2.1, wr_id (x := H) (by omega) (by omega), wr_id (x := s) (by omega) (by omega), if_neg (by omega), e, be1l_r]
      exact Or.inr ⟨_, rfl, Or.inr ⟨⟨x, s, x0, x1, y0, y1, hc⟩, rfl⟩⟩) (by
    rintro s ⟨h0, hq⟩
    show ∃ s2, m_X5_touchesByCorner_L2 M s = _ ∧ _
    unfold m_X5_touchesByCorner_L2
    rw [hy.2.1, h0, if_pos (by omega)]
    exact ⟨_, rfl, Or.inl ⟨fun ⟨x, y, x0, x1, y0, y1, hc⟩ => hq x y x0 x1 y0 y1 hc, _, rfl⟩⟩) (by omega) (by omega) (s0 := 1) ⟨rfl, fun x y' _ _ h1 h2 => by omega⟩
  unfold m_X5_touchesByCorner
  rw [e]
  rcases hQ with ⟨h, z, rfl⟩ | ⟨h, rfl⟩
  · rw [be1_l, bp_f.mpr h]
  · rw [be1_r, bp_t.mpr h]
/-- the reference's neighbours in the frame -/
def nbM (W H : Int) (op : Int → Bool) (e o : Bool) (p k : Int) : Int := if (0 ≤ p % 10 + (k % 3 - 1) ∧ p % 10 + (k % 3 - 1) ≤ W + 1 ∧ 0 ≤ p / 10 + (k / 3 - 1) ∧ p / 10 + (k / 3 - 1) ≤ H + 1) ∧ (e = true ∨ k % 3 - 1 = 0 ∨ k / 3 - 1 = 0) ∧ opn W H op (p % 10 + (k % 3 - 1) - 1) (p / 10 + (k / 3 - 1) - 1) = o then 10 * (p / 10 + (k / 3 - 1)) + (p % 10 + (k % 3 - 1)) else -1
def RVm (M : Mem) (n : Int) (L : Int → Int) : Prop := (∀ j, 0 ≤ j → j < n → gI M 72 j = L j) ∧ (∀ q, 0 ≤ q → q < 100 → gI M 71 q = bI (bp (inL n L q)))
theorem isOpenFrame_s {M : Mem} {W H : Int} {op : Int → Bool} (hy : YR M W H op) {p : Int} (p0 : 0 ≤ p) (p1 : p < 100) : m_X12_isOpenFrame M p = some (opn W H op (p % 10 - 1) (p / 10 - 1)) := by
  unfold m_X12_isOpenFrame
  rw [irm_p p0 (by omega) (by omega) (by omega), idv_p p0 (by omega) (by omega) (by omega), isOpenAtR_s hy (by omega) (by omega) (by omega) (by omega), bd1_q]
theorem meets_s {M : Mem} {W H : Int} {op : Int → Bool} (hy : YR M W H op) {s : Int} (s0 : 0 ≤ s) (s1 : s < 100) (e : Bool) : ∃ n L M2, WV (nbM W H op e (opn W H op (s % 10 - 1) (s / 10 - 1))) 9 s n L ∧ m_X12_meets M s (bI e) = some (n, M2) ∧ Fr [71, 72] M M2 := by
  have hW := hy.2.2.1
  have hW' := hW
  obtain ⟨a1, a2, a3, a4⟩ := hW'
  generalize ho : opn W H op (s % 10 - 1) (s / 10 - 1) = o
  obtain ⟨M1, e1, h1, f1⟩ := for_M (f := fun z => m_X12_meets_L9 z.2 s (bI e) (bI o) z.1) 0 100 (fun i M' => (∀ j, 0 ≤ j → j < i → gI M' 71 j = 0) ∧ Fr [71, 72] M M') (fun i M' h1 h2 hI => by
    show ∃ M2, m_X12_meets_L9 M' s (bI e) (bI o) i = _ ∧ _
    unfold m_X12_meets_L9
    rw [show wr 100 = 100 by decide, wr_id (by omega) (by omega), if_neg (by omega), if_pos ⟨h1, h2⟩, lt_q]
    refine ⟨_, rfl, fun j q1 q2 => ?_, hI.2.sI (by decide) rfl⟩
    rw [gI_sI]
    by_cases z : j = i
    · rw [if_pos ⟨rfl, z⟩]
    · rw [if_neg (fun y => z y.2)]; exact hI.1 j q1 (by omega)) (fun M' hI => by
    show m_X12_meets_L9 M' s (bI e) (bI o) 100 = _
    unfold m_X12_meets_L9
    rw [if_pos (by decide)]) (by omega) (by omega) (M0 := M) ⟨fun j q1 q2 => by omega, Fr.rf⟩
  have fB : Fr [71, 72] M (sI (sI M1 71 s 1) 72 0 s) := (f1.sI (by decide) rfl).sI (by decide) rfl
  have hRV : RVm (sI (sI M1 71 s 1) 72 0 s) 1 (fun _ => s) := by
    refine ⟨fun j j0 j1 => ?_, fun q q0 q1 => ?_⟩
    · rw [show j = 0 by omega]; exact gI_sI_eq
    · rw [gI_sI, if_neg (by simp), gI_sI]
      by_cases z : q = s
      · rw [if_pos ⟨rfl, z⟩, bp_t.mpr ⟨0, by omega, by omega, z.symm⟩]; rfl
      · rw [if_neg (fun y => z y.2), h1 q q0 q1, bp_f.mpr (fun ⟨j, _, _, y⟩ => z y.symm)]; rfl
  obtain ⟨⟨n, y, M3⟩, e3, L, g1, g2⟩ := for_g (f := fun z => m_X12_meets_L50 z.2.2 (bI e) (bI o) z.1 z.2.1) 0 100 (fun i z => z.2.1 = i ∧ ∃ L, PW (nbM W H op e o) 9 s z.1 L i 0 ∧ RVm z.2.2 z.1 L ∧ Fr [71, 72] M z.2.2 ∧ i ≤ z.1) (fun r => ∃ L, WV (nbM W H op e o) 9 s r.1 L ∧ Fr [71, 72] M r.2.2) (by
    rintro i ⟨n, x, M'⟩ i0 i1 ⟨g0, L, g1, g2, g3, g4⟩
    dsimp only at g0 g1 g2 g3 g4
    subst g0
    have hn := PW_100 g1
    have hn1 := g1.1
    show (∃ s2, m_X12_meets_L50 M' (bI e) (bI o) n x = _ ∧ _) ∨ (∃ s2, m_X12_meets_L50 M' (bI e) (bI o) n x = _ ∧ _)
    unfold m_X12_meets_L50
    rw [wr_id (x := n) (by omega) (by omega), wr_id (x := x) (by omega) (by omega)]
    by_cases z : n ≤ x
    · rw [if_pos z]
      have : x = n := by omega
      subst this
      exact Or.inr ⟨_, rfl, L, g1, g3⟩
    · rw [if_neg z]
      left
      obtain ⟨⟨n3, k', M3⟩, e3, L3, q1, q2, q3, q4, q5⟩ := for_g (f := fun z => m_X12_meets_L60 z.2.2 (bI e) (bI o) x z.1 z.2.1) 0 9 (fun k z => z.2.1 = k ∧ ∃ L', PW (nbM W H op e o) 9 s z.1 L' x k ∧ RVm z.2.2 z.1 L' ∧ Fr [71, 72] M z.2.2 ∧ n ≤ z.1 ∧ x < z.1) (fun r => ∃ L', PW (nbM W H op e o) 9 s r.1 L' x 9 ∧ RVm r.2.2 r.1 L' ∧ Fr [71, 72] M r.2.2 ∧ n ≤ r.1 ∧ x < r.1) (by
        rintro k ⟨n', k', M3⟩ k0 k1 ⟨w0, L', w1, w2, w3, w4, w5⟩
        dsimp only at w0 w1 w2 w3 w4 w5
        subst w0
        left
        have hn' := PW_100 w1
        have hLx := w1.2.2.1 x i0 w5
        have hy' := hy.fr w3 (by decide) (by decide)
        obtain ⟨b1, b2, b3⟩ := PW_add w1 i0 w5 k0 k1
        show ∃ s2, m_X12_meets_L60 M3 (bI e) (bI o) x n' k' = _ ∧ _
        unfold m_X12_meets_L60
        rw [show wr 9 = 9 by decide, wr_id (x := k') (by omega) (by omega), if_neg (by omega), wr_id (x := x) (by omega) (by omega), if_pos (c := 0 ≤ x ∧ x < 100) (by omega), w2.1 x i0 w5, irm_p hLx.1 (by omega) (by omega) (by omega), idv_p hLx.1 (by omega) (by omega) (by omega), irm_p k0 (by omega) (by omega) (by omega), idv_p k0 (by omega) (by omega) (by omega), hy'.1, hy'.2.1, l_0, in_s (by omega) (by omega) (by omega) (by omega) (by omega) (by omega), in_s (by omega) (by omega) (by omega) (by omega) (by omega) (by omega), bd1_q, bd1_q, wr_id (x := k' % 3 - 1) (by omega) (by omega), wr_id (x := k' / 3 - 1) (by omega) (by omega)]
        simp only [wrb]
        obtain ⟨X, eX⟩ : ∃ X, X = L' x % 10 + (k' % 3 - 1) := ⟨_, rfl⟩
        obtain ⟨Y, eY⟩ : ∃ Y, Y = L' x / 10 + (k' / 3 - 1) := ⟨_, rfl⟩
        have hnbd : nbM W H op e o (L' x) k' = if (0 ≤ X ∧ X ≤ W + 1 ∧ 0 ≤ Y ∧ Y ≤ H + 1) ∧ (e = true ∨ k' % 3 - 1 = 0 ∨ k' / 3 - 1 = 0) ∧ opn W H op (X - 1) (Y - 1) = o then 10 * Y + X else -1 := by rw [eX, eY]; rfl
        rw [← eX, ← eY]
        have ev : (if decide (0 ≤ X ∧ X ≤ W + 1) = false then some (0 : Int) else if decide (0 ≤ Y ∧ Y ≤ H + 1) = false then some 0 else if e = false then if k' % 3 - 1 = 0 then some 1 else if k' / 3 - 1 = 0 then some 1 else some 0 else some 1) = some (bI (decide ((0 ≤ X ∧ X ≤ W + 1 ∧ 0 ≤ Y ∧ Y ≤ H + 1) ∧ (e = true ∨ k' % 3 - 1 = 0 ∨ k' / 3 - 1 = 0)))) := by
          by_cases c1 : 0 ≤ X ∧ X ≤ W + 1
          · rw [decide_eq_true c1, if_tf]
            by_cases c2 : 0 ≤ Y ∧ Y ≤ H + 1
            · rw [decide_eq_true c2, if_tf]
              cases e
              · rw [if_ff]
                by_cases c3 : k' % 3 - 1 = 0
                · rw [if_pos c3, decide_eq_true (by simp [c1, c2, c3])]; rfl
                · rw [if_neg c3]
                  by_cases c4 : k' / 3 - 1 = 0
                  · rw [if_pos c4, decide_eq_true (by simp [c1, c2, c4])]; rfl
                  · rw [if_neg c4, decide_eq_false (by simp [c3, c4])]; rfl
              · rw [if_tf, decide_eq_true (by simp [c1, c2])]; rfl
            · rw [decide_eq_false c2, if_ff, decide_eq_false (by omega)]; rfl
          · rw [decide_eq_false c1, if_ff, decide_eq_false (by omega)]; rfl
        rw [ev, bd1_q]
        simp only [wrb]
        -- nothing is added
        have stay : ¬ nwp n' L' (nbM W H op e o (L' x) k') → ∃ s2 : Int × Int × Mem, (some (Sum.inl (n', k' + 1, M3)) : Option ((Int × Int × Mem) ⊕ (Int × Int × Mem))) = some (Sum.inl s2) ∧ s2.2.1 = k' + 1 ∧ ∃ L', PW (nbM W H op e o) 9 s s2.1 L' x (k' + 1) ∧ RVm s2.2.2 s2.1 L' ∧ Fr [71, 72] M s2.2.2 ∧ n ≤ s2.1 ∧ x < s2.1 := by
          intro hno
          have ea : adN n' L' (nbM W H op e o (L' x) k') = n' := by unfold adN; rw [bp_f.mpr hno, if_neg (by decide)]
          have eb : adL' n' L' (nbM W H op e o (L' x) k') = L' := by unfold adL'; rw [bp_f.mpr hno, if_neg (by decide)]
          rw [ea, eb] at b1
          exact ⟨_, rfl, rfl, L', b1, w2, w3, w4, w5⟩
        by_cases c : (0 ≤ X ∧ X ≤ W + 1 ∧ 0 ≤ Y ∧ Y ≤ H + 1) ∧ (e = true ∨ k' % 3 - 1 = 0 ∨ k' / 3 - 1 = 0)
        · have hq0 : 0 ≤ 10 * Y + X := by omega
          have hq1 : 10 * Y + X < 100 := by omega
          have hm : (10 * Y + X) % 10 = X ∧ (10 * Y + X) / 10 = Y := by omega
          rw [decide_eq_true c, if_tf, wr_id (x := 10 * Y + X) (by omega) (by omega), if_pos (c := 0 ≤ 10 * Y + X ∧ 10 * Y + X < 100) ⟨hq0, hq1⟩, w2.2 _ hq0 hq1, isOpenFrame_s hy' hq0 hq1, hm.1, hm.2, bd1_q]
          simp only [wr_bI, bI_eq0, bI_inj]
          by_cases c5 : inL n' L' (10 * Y + X)
          · rw [bp_t.mpr c5, if_tf, bd2_q]
            refine stay (fun w => ?_)
            by_cases c6 : opn W H op (X - 1) (Y - 1) = o
            · rw [hnbd, if_pos ⟨c.1, c.2, c6⟩] at w; exact w.2.2 c5
            · rw [hnbd, if_neg (fun v => c6 v.2.2)] at w; have := w.1; omega
          · rw [bp_f.mpr c5, if_ff]
            by_cases c6 : opn W H op (X - 1) (Y - 1) = o
            · have hnb : nbM W H op e o (L' x) k' = 10 * Y + X := by rw [hnbd, if_pos ⟨c.1, c.2, c6⟩]
              have hnw : nwp n' L' (nbM W H op e o (L' x) k') := by rw [hnb]; exact ⟨hq0, hq1, c5⟩
              have hroom := PW_room w1 hnw
              have n'1 := w1.1
              have ea : adN n' L' (nbM W H op e o (L' x) k') = n' + 1 := by unfold adN; rw [bp_t.mpr hnw, if_pos rfl]
              have eb : adL' n' L' (nbM W H op e o (L' x) k') = up1 L' n' (10 * Y + X) := by unfold adL'; rw [bp_t.mpr hnw, if_pos rfl, hnb]
              rw [ea, eb] at b1
              rw [if_pos c6, lt_q, wr_id (x := n') (by omega) (by omega), if_pos (by omega), lt_q, bd2_q]
              refine ⟨_, rfl, rfl, _, b1, ⟨fun j j0 j1 => ?_, fun q q0 q1 => ?_⟩, (w3.sI (by decide) rfl).sI (by decide) rfl, by dsimp only; omega, by dsimp only; omega⟩
              · dsimp only at j1 ⊢
                rw [gI_sI]
                by_cases v : j = n'
                · rw [if_pos ⟨rfl, v⟩, v, up1_e]
                · rw [if_neg (fun u => v u.2), up1_n v, gI_sI, if_neg (by simp)]; exact w2.1 j j0 (by omega)
              · dsimp only
                rw [gI_sI, if_neg (by simp), gI_sI]
                by_cases v : q = 10 * Y + X
                · rw [if_pos ⟨rfl, v⟩, bp_t.mpr ((inL_up (by omega)).mpr (Or.inr v))]; rfl
                · rw [if_neg (fun u => v u.2), w2.2 q q0 q1]
                  refine congrArg bI (bp_congr ?_)
                  rw [inL_up (by omega)]
                  constructor
                  · exact Or.inl
                  · rintro (u | u)
                    · exact u
                    · exact absurd u v
            · rw [if_neg c6, bd2_q]
              refine stay (fun w => ?_)
              rw [hnbd, if_neg (fun v => c6 v.2.2)] at w
              have := w.1
              omega
        · rw [decide_eq_false c, if_ff, bd2_q]
          refine stay (fun w => ?_)
          rw [hnbd, if_neg (fun v => c ⟨v.1, v.2.1⟩)] at w
          have := w.1
          omega) (by
        rintro ⟨n', k', M3⟩ ⟨w0, L', w1, w2, w3, w4, w5⟩
        dsimp only at w0 w1 w2 w3 w4 w5
        subst w0
        show ∃ s2, m_X12_meets_L60 M3 (bI e) (bI o) x n' 9 = _ ∧ _
        unfold m_X12_meets_L60
        rw [if_pos (by decide)]
        exact ⟨_, rfl, L', w1, w2, w3, w4, w5⟩) (by omega) (by omega) (s0 := (n, 0, M')) ⟨rfl, L, g1, g2, g3, by dsimp only; omega, by dsimp only; omega⟩
      dsimp only at q1 q2 q3 q4 q5
      rw [e3, bd3_q]
      exact ⟨_, rfl, rfl, L3, PW_next q1 i0, q2, q3, by dsimp only; omega⟩) (by
    rintro ⟨n, x, M'⟩ ⟨g0, L, g1, g2, g3, g4⟩
    dsimp only at g0 g1 g2 g3 g4
    subst g0
    have hn := PW_100 g1
    show ∃ s2, m_X12_meets_L50 M' (bI e) (bI o) n 100 = _ ∧ _
    unfold m_X12_meets_L50
    rw [wr_id (x := n) (by omega) (by omega), show wr 100 = 100 by decide, if_pos hn]
    have : n = 100 := by omega
    subst this
    exact ⟨_, rfl, L, g1, g3⟩) (by omega) (by omega) (s0 := (1, 0, sI (sI M1 71 s 1) 72 0 s)) ⟨rfl, fun _ => s, PW_1 _ _ _ _ rfl s0 s1, hRV, fB, by dsimp only; omega⟩
  dsimp only at g1 g2
  refine ⟨n, L, M3, g1, ?_, g2⟩
  unfold m_X12_meets
  rw [isOpenFrame_s hy s0 s1, bd1_q, ho, e1, bd2_q, wr_id (x := s) (by omega) (by omega), if_pos ⟨s0, s1⟩, lt_q, show wr 0 = 0 by decide, lt_q, e3, bd3_q]
