/-! read: what a tape tells -/
abbrev PRs : Type := Int × Int × Int × (Int → Bool)
def rend (rows col wide : Int) : Bool := if rows = 0 then decide (0 < col) else decide (col = wide)
def pz (tp : Int → Int) (ts : Int) : Nat → Int → Int → Int → (Int → Bool) → PRs
  | 0, rows, col, wide, d => if rend rows col wide = true then (-1, col, rows + 1, d) else (ts, 0, 0, d)
  | n + 1, rows, col, wide, d =>
    if tp (ts - (n + 1)) = 32 then pz tp ts n rows col wide d
    else if (tp (ts - (n + 1)) = 46 ∨ tp (ts - (n + 1)) = 35) ∧ col < wide then pz tp ts n rows (col + 1) wide (up1 d (8 * rows + col) (decide (tp (ts - (n + 1)) = 46)))
    else if tp (ts - (n + 1)) = 59 ∧ rend rows col wide = true ∧ rows < 7 then pz tp ts n (rows + 1) 0 col d
    else (ts - (n + 1), 0, 0, d)
/-- the same, by the place -/
def pk (tp : Int → Int) (ts k rows col wide : Int) (d : Int → Bool) : PRs := pz tp ts (ts - k).toNat rows col wide d
theorem pk_end {tp : Int → Int} {ts rows col wide : Int} {d : Int → Bool} : pk tp ts ts rows col wide d = if rend rows col wide = true then (-1, col, rows + 1, d) else (ts, 0, 0, d) := by
  unfold pk
  rw [show (ts - ts).toNat = 0 by omega]
  rfl
theorem pk_st {tp : Int → Int} {ts k rows col wide : Int} {d : Int → Bool} (h : k < ts) : pk tp ts k rows col wide d = if tp k = 32 then pk tp ts (k + 1) rows col wide d else if (tp k = 46 ∨ tp k = 35) ∧ col < wide then pk tp ts (k + 1) rows (col + 1) wide (up1 d (8 * rows + col) (decide (tp k = 46))) else if tp k = 59 ∧ rend rows col wide = true ∧ rows < 7 then pk tp ts (k + 1) (rows + 1) 0 col d else (k, 0, 0, d) := by
  unfold pk
  rw [show (ts - k).toNat = (ts - (k + 1)).toNat + 1 by omega]
  show (if tp (ts - (((ts - (k + 1)).toNat : Int) + 1)) = 32 then _ else _) = _
  rw [show ts - (((ts - (k + 1)).toNat : Int) + 1) = k by omega]
def Wr (rows col wide j : Int) : Prop := 0 ≤ j ∧ ((j / 8 < rows ∧ j % 8 < wide) ∨ (j / 8 = rows ∧ j % 8 < col))
theorem isRowEnd_s {M : Mem} {rows col wide : Int} (h : gI M 5 3 = wide) (h1 : wr rows = rows) (h2 : wr col = col) (h3 : wr wide = wide) : m_X8_isRowEnd M rows col = some (rend rows col wide) := by
  unfold m_X8_isRowEnd rend
  rw [h, h1, h2, h3, lt_q]
  by_cases c1 : rows = 0
  · rw [if_pos c1, if_pos c1]
    by_cases c2 : 0 < col
    · rw [if_neg (c := col ≤ 0) (by omega), decide_eq_true c2]; rfl
    · rw [if_pos (c := col ≤ 0) (by omega), decide_eq_false c2]; rfl
  · rw [if_neg c1, if_neg c1]
    by_cases c2 : col = wide
    · rw [if_pos c2, decide_eq_true c2]; rfl
    · rw [if_neg c2, decide_eq_false c2]; rfl
/-- what the loop of the class's parse keeps -/
def PI (M0 : Mem) (tp : Int → Int) (ts : Int) (R : PRs) (k rows col : Int) (M : Mem) : Prop := ∃ (wide : Int) (d : Int → Bool), pk tp ts k rows col wide d = R ∧ gI M 5 3 = wide ∧ gI M 5 2 = ts ∧ (∀ j, Wr rows col wide j → gI M 7 j = bI (d j)) ∧ 0 ≤ rows ∧ rows ≤ 7 ∧ 0 ≤ col ∧ col ≤ wide ∧ wide ≤ 8 ∧ 1 ≤ wide ∧ (rows = 0 → wide = 8) ∧ Fr [5, 7] M0 M
theorem wr32 : wr 32 = 32 := by decide
theorem wr46 : wr 46 = 46 := by decide
theorem wr35 : wr 35 = 35 := by decide
theorem wr59 : wr 59 = 59 := by decide
theorem wr7 : wr 7 = 7 := by decide
theorem PI_put {M0 M : Mem} {tp : Int → Int} {ts : Int} {R : PRs} {k rows col wide : Int} {d : Int → Bool} (hk : k < ts) (q1 : pk tp ts k rows col wide d = R) (q2 : gI M 5 3 = wide) (q3 : gI M 5 2 = ts) (q4 : ∀ j, Wr rows col wide j → gI M 7 j = bI (d j)) (q5 : 0 ≤ rows) (q6 : rows ≤ 7) (q7 : 0 ≤ col) (q9 : wide ≤ 8) (q10 : rows = 0 → wide = 8) (q11 : Fr [5, 7] M0 M) (c32 : tp k ≠ 32) (cc : tp k = 46 ∨ tp k = 35) (hcw : col < wide) : PI M0 tp ts R (k + 1) rows (col + 1) (sI M 7 (8 * rows + col) (bI (decide (tp k = 46)))) := by
  rw [pk_st hk, if_neg c32, if_pos ⟨cc, hcw⟩] at q1
  refine ⟨wide, _, q1, ?_, ?_, fun j hj => ?_, q5, q6, by omega, by omega, q9, by omega, q10, q11.sI (by decide) rfl⟩
  · rw [gI_sI, if_neg (by simp)]; exact q2
  · rw [gI_sI, if_neg (by simp)]; exact q3
  · rw [gI_sI]
    unfold up1
    unfold Wr at hj q4
    by_cases e : j = 8 * rows + col
    · rw [if_pos ⟨rfl, e⟩, if_pos e]
    · rw [if_neg (fun z => e z.2), if_neg e]
      exact q4 j (by omega)
theorem PI_row {M0 M : Mem} {tp : Int → Int} {ts : Int} {R : PRs} {k rows col wide : Int} {d : Int → Bool} (hk : k < ts) (q1 : pk tp ts k rows col wide d = R) (q2 : gI M 5 3 = wide) (q3 : gI M 5 2 = ts) (q4 : ∀ j, Wr rows col wide j → gI M 7 j = bI (d j)) (q5 : 0 ≤ rows) (q7 : 0 ≤ col) (q8 : col ≤ wide) (q9 : wide ≤ 8) (q9' : 1 ≤ wide) (q11 : Fr [5, 7] M0 M) (cc : tp k = 59) (hr : rend rows col wide = true) (h7 : rows < 7) : PI M0 tp ts R (k + 1) (rows + 1) 0 (sI M 5 3 col) := by
  rw [pk_st hk, if_neg (by omega), if_neg (by omega), if_pos ⟨cc, hr, h7⟩] at q1
  unfold rend at hr
  refine ⟨col, d, q1, ?_, ?_, fun j hj => ?_, by omega, by omega, by omega, q7, by omega, ?_, by omega, q11.sI (by decide) rfl⟩
  · rw [gI_sI, if_pos ⟨rfl, rfl⟩]
  · rw [gI_sI, if_neg (by simp)]; exact q3
  · rw [gI_sI, if_neg (by simp)]
    unfold Wr at hj q4
    by_cases e : rows = 0
    · exact q4 j (by omega)
    · rw [if_neg e] at hr
      have := of_decide_eq_true hr
      exact q4 j (by omega)
  · by_cases e : rows = 0
    · rw [if_pos e] at hr
      have := of_decide_eq_true hr
      omega
    · rw [if_neg e] at hr
      have := of_decide_eq_true hr
      omega
theorem parse_loop {M0 M : Mem} {ts : Int} {tp : Int → Int} (h6 : ∀ j, gI M 6 j = gI M0 6 j) (ht : ∀ k, 0 ≤ k → k < ts → gI M0 6 k = tp k) (hw : WFt ts tp) (R : PRs) {k rows col : Int} (hk : 0 ≤ k) (hk2 : k < ts) (hI : PI M0 tp ts R k rows col M) : (∃ rows2 col2 M2, m_X8_parse_L12 M rows col k = some (.inl (rows2, col2, k + 1, M2)) ∧ PI M0 tp ts R (k + 1) rows2 col2 M2 ∧ ∀ j, gI M2 6 j = gI M0 6 j) ∨ (m_X8_parse_L12 M rows col k = some (.inr (.inr (-20 - k, M))) ∧ R.1 = k ∧ Fr [5, 7] M0 M) := by
  obtain ⟨wide, d, q1, q2, q3, q4, q5, q6, q7, q8, q9, q9', q10, q11⟩ := hI
  obtain ⟨t0, t1, t2⟩ := hw
  have hb := t2 k hk hk2
  have q1' := q1
  rw [pk_st hk2] at q1'
  have s6 : ∀ (a : Nat) (x v : Int), a ≠ 6 → ∀ j, gI (sI M a x v) 6 j = gI M0 6 j := fun a x v ha j => by rw [gI_sI, if_neg (fun z => ha z.1.symm)]; exact h6 j
  unfold m_X8_parse_L12
  rw [q3, wr_id (x := ts) (by omega) (by omega), wr_id (x := k) (by omega) (by omega), if_neg (by omega), if_pos (c := 0 ≤ k ∧ k < 90) (by omega), h6 k, ht k hk hk2, q2, wr_id (x := tp k) (by omega) (by omega), wr_id (x := wide) (by omega) (by omega), wr_id (x := col) (by omega) (by omega), wr32, wr46, wr35, wr59, wr7, wr_id (x := rows) (by omega) (by omega), isRowEnd_s q2 (wr_id (by omega) (by omega)) (wr_id (by omega) (by omega)) (wr_id (by omega) (by omega)), bd1_q]
  simp only [wrb]
  by_cases c32 : tp k = 32
  · rw [if_pos c32]
    rw [if_pos c32] at q1'
    exact Or.inl ⟨rows, col, M, rfl, ⟨wide, d, q1', q2, q3, q4, q5, q6, q7, q8, q9, q9', q10, q11⟩, h6⟩
  rw [if_neg c32]
  rw [if_neg c32] at q1'
  by_cases c46 : tp k = 46
  · rw [if_pos c46]
    by_cases cw : wide ≤ col
    · rw [if_pos cw, if_neg (by omega)]
      rw [if_neg (by omega), if_neg (by omega)] at q1'
      exact Or.inr ⟨rfl, by rw [← q1'], q11⟩
    · rw [if_neg cw, lt_q, if_pos c46, show rows * 8 + col = 8 * rows + col by omega, wr_id (x := 8 * rows + col) (by omega) (by omega), if_pos (by omega), if_pos (Or.inr rfl), lt_q]
      have := PI_put hk2 q1 q2 q3 q4 q5 q6 q7 q9 q10 q11 c32 (Or.inl c46) (by omega)
      rw [decide_eq_true c46] at this
      exact Or.inl ⟨rows, col + 1, _, rfl, this, s6 _ _ _ (by decide)⟩
  rw [if_neg c46]
  by_cases c35 : tp k = 35
  · rw [if_pos c35]
    by_cases cw : wide ≤ col
    · rw [if_pos cw, if_neg (by omega)]
      rw [if_neg (by omega), if_neg (by omega)] at q1'
      exact Or.inr ⟨rfl, by rw [← q1'], q11⟩
    · rw [if_neg cw, lt_q, if_neg c46, show rows * 8 + col = 8 * rows + col by omega, wr_id (x := 8 * rows + col) (by omega) (by omega), if_pos (by omega), if_pos (Or.inl rfl), lt_q]
      have := PI_put hk2 q1 q2 q3 q4 q5 q6 q7 q9 q10 q11 c32 (Or.inr c35) (by omega)
      rw [decide_eq_false c46] at this
      exact Or.inl ⟨rows, col + 1, _, rfl, this, s6 _ _ _ (by decide)⟩
  rw [if_neg c35]
  rw [if_neg (by omega)] at q1'
  by_cases c59 : tp k = 59
  · rw [if_pos c59]
    cases hr : rend rows col wide
    · rw [if_ff]
      rw [if_neg (fun z => by rw [hr] at z; exact absurd z.2.1 (by decide))] at q1'
      exact Or.inr ⟨rfl, by rw [← q1'], q11⟩
    · rw [if_tf]
      by_cases c7 : 7 ≤ rows
      · rw [if_pos c7]
        rw [if_neg (by omega)] at q1'
        exact Or.inr ⟨rfl, by rw [← q1'], q11⟩
      · rw [if_neg c7, lt_q]
        exact Or.inl ⟨rows + 1, 0, _, rfl, PI_row hk2 q1 q2 q3 q4 q5 q7 q8 q9 q9' q11 c59 hr (by omega), s6 _ _ _ (by decide)⟩
  · rw [if_neg c59]
    rw [if_neg (by omega)] at q1'
    exact Or.inr ⟨rfl, by rw [← q1'], q11⟩
def RR (tp : Int → Int) (ts : Int) : PRs := pk tp ts 0 0 0 8 (fun _ => false)
theorem parse_s {M : Mem} {ts : Int} {tp : Int → Int} (h : TPc M ts tp) (hw : WFt ts tp) : ∃ M2, Fr [5, 7] M M2 ∧ ((m_X8_parse M = some (-20 - (RR tp ts).1, M2) ∧ 0 ≤ (RR tp ts).1 ∧ (RR tp ts).1 ≤ 90) ∨ (m_X8_parse M = some (0, M2) ∧ (RR tp ts).1 = -1 ∧ gI M2 5 3 = (RR tp ts).2.1 ∧ gI M2 5 4 = (RR tp ts).2.2.1 ∧ WHr (RR tp ts).2.1 (RR tp ts).2.2.1 ∧ ∀ x y, 0 ≤ x → x < (RR tp ts).2.1 → 0 ≤ y → y < (RR tp ts).2.2.1 → gI M2 7 (8 * y + x) = bI ((RR tp ts).2.2.2 (8 * y + x)))) := by
  have hw' := hw
  obtain ⟨t0, t1, t2⟩ := hw'
  have k0 : PI M tp ts (RR tp ts) 0 0 0 (sI M 5 3 8) := ⟨8, fun _ => false, rfl, by rw [gI_sI, if_pos ⟨rfl, rfl⟩], by rw [gI_sI, if_neg (by simp)]; exact h.1, fun j hj => by unfold Wr at hj; omega, by omega, by omega, by omega, by omega, by omega, by omega, fun _ => rfl, Fr.sI Fr.rf (by decide) rfl⟩
  obtain ⟨r, e, hQ⟩ := for_g (f := fun s => m_X8_parse_L12 s.2.2.2 s.1 s.2.1 s.2.2.1) 0 ts (fun k s => s.2.2.1 = k ∧ PI M tp ts (RR tp ts) k s.1 s.2.1 s.2.2.2 ∧ ∀ j, gI s.2.2.2 6 j = gI M 6 j) (fun r => (∃ rows col M2, r = .inl (rows, col, ts, M2) ∧ PI M tp ts (RR tp ts) ts rows col M2) ∨ (∃ k M2, r = .inr (-20 - k, M2) ∧ (RR tp ts).1 = k ∧ 0 ≤ k ∧ k < ts ∧ Fr [5, 7] M M2)) (by
    rintro k ⟨rows, col, k', M'⟩ k0 k1 ⟨g0, g1, g2⟩
    dsimp only at g0 g1 g2
    subst g0
    rcases parse_loop g2 h.2 hw (RR tp ts) k0 k1 g1 with ⟨rows2, col2, M2, e, z1, z2⟩ | ⟨e, z1, z2⟩
    · exact Or.inl ⟨_, e, rfl, z1, z2⟩
    · exact Or.inr ⟨_, e, Or.inr ⟨k', M', rfl, z1, k0, k1, z2⟩⟩) (by
    rintro ⟨rows, col, k', M'⟩ ⟨g0, g1, g2⟩
    dsimp only at g0 g1 g2
    subst g0
    show ∃ r, m_X8_parse_L12 M' rows col k' = _ ∧ _
    unfold m_X8_parse_L12
    have g1' := g1
    obtain ⟨wide, d, q1, q2, q3, -⟩ := g1'
    rw [q3, if_pos (by omega)]
    exact ⟨_, rfl, Or.inl ⟨rows, col, M', rfl, g1⟩⟩) t0 (by omega) (s0 := (0, 0, 0, sI M 5 3 8)) ⟨rfl, k0, fun j => by rw [gI_sI, if_neg (by simp)]⟩
  unfold m_X8_parse
  rw [lt_q, e]
  rcases hQ with ⟨rows, col, M2, rfl, wide, d, q1, q2, q3, q4, q5, q6, q7, q8, q9, q9', q10, q11⟩ | ⟨k, M2, rfl, z1, z2, z3, z4⟩
  · show ∃ M3, Fr [5, 7] M M3 ∧ (((bd1 (m_X8_isRowEnd M2 rows col) _) = _ ∧ _) ∨ ((bd1 (m_X8_isRowEnd M2 rows col) _) = _ ∧ _))
    rw [isRowEnd_s q2 (wr_id (by omega) (by omega)) (wr_id (by omega) (by omega)) (wr_id (by omega) (by omega)), bd1_q, q3]
    simp only [wrb]
    rw [pk_end] at q1
    cases hr : rend rows col wide
    · rw [hr, if_neg (by decide)] at q1
      rw [if_ff, ← q1]
      exact ⟨M2, q11, Or.inl ⟨rfl, by dsimp only; omega, by dsimp only; omega⟩⟩
    · rw [hr, if_pos rfl] at q1
      rw [if_tf, lt_q, lt_q, ← q1]
      dsimp only
      refine ⟨_, (q11.sI (by decide) rfl).sI (by decide) rfl, Or.inr ⟨rfl, rfl, ?_, ?_, ⟨?_, ?_, by omega, by omega⟩, fun x y x0 x1 y0 y1 => ?_⟩⟩
      · rw [gI_sI, if_neg (by simp), gI_sI, if_pos ⟨rfl, rfl⟩]
      · rw [gI_sI, if_pos ⟨rfl, rfl⟩]
      · unfold rend at hr
        by_cases z : rows = 0
        · rw [if_pos z] at hr
          have := of_decide_eq_true hr
          omega
        · rw [if_neg z] at hr
          have := of_decide_eq_true hr
          omega
      · omega
      · rw [gI_sI, if_neg (by simp), gI_sI, if_neg (by simp)]
        refine q4 _ ⟨by omega, ?_⟩
        unfold rend at hr
        by_cases z : rows = 0
        · right; omega
        · rw [if_neg z] at hr
          have := of_decide_eq_true hr
          omega
  · exact ⟨M2, z4, Or.inl ⟨by rw [z1]; rfl, by omega, by omega⟩⟩
