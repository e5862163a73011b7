/-! both objects, newly made, agree; the law holds -/
theorem Inv_0 : ∃ M2, m_X12_init Mi0 = some M2 ∧ Inv M2 := by
  unfold m_X12_init
  obtain ⟨M1, e1, h1, f1⟩ := for_M (f := fun s => m_X12_init_L202 s.2 s.1) 0 4 (fun i M' => (∀ x, 0 ≤ x → x < i → gI M' 76 x = -1) ∧ Fr [76] Mi0 M') (fun i M' i0 i1 hI => by
    show ∃ M2, m_X12_init_L202 M' i = _ ∧ _
    unfold m_X12_init_L202
    rw [show wr 4 = 4 by decide, wr_id (x := i) (by omega) (by omega), if_neg (by omega), if_pos (by omega), lt_q]
    refine ⟨_, rfl, fun x x0 x1 => ?_, hI.2.sI (by decide) rfl⟩
    rw [gI_sI]
    by_cases z : x = i
    · rw [if_pos ⟨rfl, z⟩]
    · rw [if_neg (fun q => z q.2)]; exact hI.1 x x0 (by omega)) (fun M' hI => by
    show m_X12_init_L202 M' 4 = _
    unfold m_X12_init_L202
    rw [if_pos (by decide)]) (by omega) (by omega) (M0 := Mi0) ⟨fun x x0 x1 => by omega, Fr.rf⟩
  have hW : WHr 4 4 := ⟨by omega, by omega, by omega, by omega⟩
  obtain ⟨M2, e2, r1, r2, r3, r4⟩ := begins_s M1 hW
  have f2 := fr_X12_begins e2
  rw [e1, bd2_q, e2, bd1_q]
  have gi : ∀ (k : Nat) (j : Int), gI Mi0 k j = if k = 1 then (if j = 0 ∨ j = 1 then 4 else 0) else if k = 2 then 1 else 0 := fun _ _ => rfl
  have f12 : Fr [55, 56, 57, 58, 59, 76] Mi0 M2 := (f1.mono (by decide)).trans f2 (by decide)
  refine ⟨M2, rfl, 4, 4, fun _ => true, fun _ => 0, fun _ => 0, fun _ => false, fun _ _ => 0, 0, fun _ => 0, fun _ => -1, fun _ => 0, fun _ _ => 0, ⟨?_, ?_, ?_, ?_⟩, ⟨r1, ⟨r2, fun s _ _ q => (Bool.false_ne_true q).elim⟩, ?_, ?_⟩, ⟨?_, ?_, ?_, ?_⟩, ?_, ?_⟩
  · refine ⟨⟨?_, ?_, hW, fun j j0 j1 => ?_⟩, fun b b0 b1 => ⟨?_, ?_⟩⟩
    · rw [fI f12 (by decide)]; rfl
    · rw [fI f12 (by decide)]; rfl
    · rw [fI f12 (by decide)]; rfl
    · rw [fI f12 (by decide)]; rfl
    · rw [fI f12 (by decide)]; rfl
  · refine ⟨fun s s0 s1 => ?_, fun s _ _ q => (Bool.false_ne_true q).elim⟩
    rw [fI f12 (by simp; omega), gi, if_neg (by omega), if_neg (by omega)]; rfl
  · refine ⟨?_, fun k k0 k1 => by omega⟩
    rw [fI f12 (by decide)]; rfl
  · intro s s0 s1
    refine ⟨?_, fun q => by dsimp only at q; omega, ?_, fun i _ _ => ?_⟩
    · rw [fI f12 (by simp; omega), gi, if_neg (by omega), if_neg (by omega)]; rfl
    · rw [fI f12 (by simp; omega), gi, if_neg (by omega), if_neg (by omega)]
    · rw [fI f12 (by simp; omega), gi, if_neg (by omega), if_neg (by omega)]
  · refine ⟨?_, fun k k0 k1 => by omega⟩
    rw [r3, fI f1 (by decide)]; rfl
  · intro s s0 s1
    refine ⟨?_, ?_, fun i _ _ => ?_⟩
    · rw [fI f2 (by decide)]; exact h1 s s0 s1
    · rw [fI f12 (by decide)]; rfl
    · rw [fI f12 (by decide)]; rfl
  · exact ⟨hW, fun b _ _ => ⟨by dsimp only; omega, by dsimp only; omega, by dsimp only; omega, by dsimp only; omega, fun q => absurd rfl q⟩⟩
  · exact fun s _ _ q => (Bool.false_ne_true q).elim
  · exact ⟨by omega, by omega, fun k k0 k1 => by omega⟩
  · exact fun s _ _ => ⟨by dsimp only; omega, by dsimp only; omega, by dsimp only; omega, by dsimp only; omega, fun i _ _ => ⟨by dsimp only; omega, by dsimp only; omega⟩⟩
  · refine DRs.fr (M := Mi0) ?_ f12 (by decide) (by decide)
    exact ⟨Or.inl ⟨rfl, rfl⟩, Or.inl ⟨rfl, rfl⟩⟩
  · refine SwC.zero _ _ _ _ _ ?_ ?_
    · rw [fI f12 (by decide)]; rfl
    · rw [fI f12 (by decide)]; rfl
theorem l_true : LawTrue := by
  obtain ⟨M2, e, hI⟩ := Inv_0
  exact ⟨M2, e, fun L xs hL hx => law_s hI L xs hL hx⟩
