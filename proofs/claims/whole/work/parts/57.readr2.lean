/-! read: the reader's rows, and its end -/
def SA (M0 : Mem) (R : PRs) (ts : Int) (M : Mem) : Prop := 0 ≤ R.1 ∧ R.1 ≤ ts ∧ gI M 55 9 = R.1 ∧ gI M 55 0 = gI M0 55 0 ∧ gI M 55 1 = gI M0 55 1 ∧ Fr [55, 62] M0 M
def SB (M0 : Mem) (tp : Int → Int) (ts : Int) (R : PRs) (wide rows : Int) (M : Mem) : Prop := ∃ (k : Int) (d : Int → Bool) (w : Int), QI M0 tp ts R k (rows - 1) wide w d M ∧ rend (rows - 1) wide w = true ∧ (wide = w ∨ (NX tp ts k k ∧ chr tp ts k ≠ 46 ∧ chr tp ts k ≠ 35)) ∧ (rows = 8 ∨ (NX tp ts k k ∧ chr tp ts k ≠ 59)) ∧ 1 ≤ wide ∧ wide ≤ w ∧ w ≤ 8 ∧ 1 ≤ rows ∧ rows ≤ 8
def RN (M0 : Mem) (tp : Int → Int) (ts : Int) (R : PRs) (i wide : Int) (M : Mem) : Prop := ∃ (k : Int) (d : Int → Bool), QI M0 tp ts R k i 0 (if i = 0 then 8 else wide) d M ∧ 0 ≤ i ∧ i ≤ 7 ∧ (i ≠ 0 → 1 ≤ wide ∧ wide ≤ 8) ∧ 0 ≤ wide ∧ wide ≤ 8
theorem rows_step {M0 M : Mem} {tp : Int → Int} {ts : Int} (hw : WFt ts tp) {R : PRs} {i wide : Int} (h : RN M0 tp ts R i wide M) : ∃ wide2 rows2 wrong2 more2 M2, m_X12_read_L14 M wide i 0 1 = some (.inl (wide2, rows2, wrong2, more2, M2)) ∧ ((wrong2 = 0 ∧ more2 = 1 ∧ rows2 = i + 1 ∧ RN M0 tp ts R (i + 1) wide2 M2) ∨ (wrong2 = 1 ∧ SA M0 R ts M2) ∨ (wrong2 = 0 ∧ more2 = 0 ∧ SB M0 tp ts R wide2 rows2 M2)) := by
  obtain ⟨k, d, hQ, i0, i7, hwi, hw0, hw8⟩ := h
  obtain ⟨w, ew⟩ : ∃ w, w = (if i = 0 then 8 else wide) := ⟨_, rfl⟩
  rw [← ew] at hQ
  have w1 : 1 ≤ w ∧ w ≤ 8 := by
    by_cases z : i = 0
    · rw [if_pos z] at ew; omega
    · rw [if_neg z] at ew; have := hwi z; omega
  obtain ⟨n, M2, e2, n0, n1, k2, d2, g1, g2⟩ := row_loop hw hQ i0 i7 w1.1 w1.2 wide
  have hk20 := g1.2.2.1
  have hk2t := g1.2.2.2.1
  have ht1 := hw.2.1
  unfold m_X12_read_L14
  rw [if_neg (by decide), if_pos (by decide), wr_id (x := i) (by omega) (by omega), lt_q, ← ew, e2, bd2_q, wr_id (x := n) (by omega) (by omega), wr_id (x := wide) (by omega) (by omega), lt_q, lt_q, lt_q, show wr 8 = 8 by decide]
  cases hr : rend i n w
  · -- the row is wrong
    have hv : (if n = 0 then (1 : Int) else if i ≤ 0 then 0 else if wide ≤ n then 0 else 1) = 1 := by
      unfold rend at hr
      by_cases z : i = 0
      · rw [if_pos z] at hr
        have := of_decide_eq_false hr
        rw [if_pos (by omega)]
      · rw [if_neg z] at hr
        have := of_decide_eq_false hr
        rw [if_neg z] at ew
        by_cases z2 : n = 0
        · rw [if_pos z2]
        · rw [if_neg z2, if_neg (by omega), if_neg (by omega)]
    rw [hv, if_neg (c := wr 1 = 0) (by decide), if_neg (c := wr 1 = 0) (by decide), bd2_q, lt_q, lt_q, if_pos (c := wr 0 = 0) (by decide), Int.add_zero (gI M2 55 9), sI_id rfl]
    have hnw : n ≠ w := by
      intro z
      unfold rend at hr
      by_cases z2 : i = 0
      · rw [if_pos z2] at hr
        have := of_decide_eq_false hr
        omega
      · rw [if_neg z2] at hr
        exact of_decide_eq_false hr z
    rcases g2 with g2 | ⟨g2, g3, g4⟩
    · exact absurd g2 hnw
    have hR : R.1 = k2 := by
      rw [← g1.1]
      by_cases z : k2 < ts
      · unfold chr at g3 g4
        rw [if_pos z] at g3 g4
        rw [pk_st z, if_neg (g2.2.2.2 z), if_neg (by omega), if_neg (fun q => by rw [hr] at q; exact absurd q.2.1 (by decide))]
      · rw [show k2 = ts by omega, pk_end, hr, if_neg (by decide)]
    refine ⟨_, _, _, _, _, rfl, Or.inr (Or.inl ⟨rfl, by omega, by omega, by rw [hR]; exact g1.2.1, g1.2.2.2.2.2.2.1, g1.2.2.2.2.2.2.2.1, g1.2.2.2.2.2.2.2.2⟩)⟩
  · have hn1 : 1 ≤ n := by
      unfold rend at hr
      by_cases z : i = 0
      · rw [if_pos z] at hr
        have := of_decide_eq_true hr
        omega
      · rw [if_neg z] at hr
        have := of_decide_eq_true hr
        omega
    have hv : (if n = 0 then (1 : Int) else if i ≤ 0 then 0 else if wide ≤ n then 0 else 1) = 0 := by
      rw [if_neg (by omega)]
      unfold rend at hr
      by_cases z : i = 0
      · rw [if_pos (by omega)]
      · rw [if_neg z] at hr ew
        have := of_decide_eq_true hr
        rw [if_neg (by omega), if_pos (by omega)]
    have hv2 : (if i = 0 then n else wide) = n := by
      by_cases z : i = 0
      · rw [if_pos z]
      · unfold rend at hr
        rw [if_neg z] at hr ew ⊢
        have := of_decide_eq_true hr
        omega
    rw [hv, hv2, if_pos (c := wr 0 = 0) (by decide), if_pos (c := wr 0 = 0) (by decide), wr_id (x := i + 1) (by omega) (by omega)]
    by_cases c8 : 8 ≤ i + 1
    · rw [if_pos c8, bd2_q, lt_q, lt_q, if_pos (c := wr 0 = 0) (by decide), Int.add_zero (gI M2 55 9), sI_id rfl]
      refine ⟨_, _, _, _, _, rfl, Or.inr (Or.inr ⟨rfl, rfl, k2, d2, w, by rw [show i + 1 - 1 = i by omega]; exact g1, by rw [show i + 1 - 1 = i by omega]; exact hr, g2, Or.inl (by omega), hn1, n1, w1.2, by omega, by omega⟩)⟩
    · rw [if_neg c8]
      obtain ⟨k3, hn3, e3⟩ := next_s g1.2.2.2.2.1 hw g1.2.1 g1.2.2.1 g1.2.2.2.1
      have g3 := g1.at hn3
      have hc := chr_r hw (k := k3) g3.2.2.1
      rw [e3, bd2_q, wr_id (x := chr tp ts k3) (by omega) (by omega), wr59]
      by_cases c59 : chr tp ts k3 = 59
      · rw [if_pos c59, bd2_q, lt_q, lt_q, if_neg (c := wr 1 = 0) (by decide), gI_sI_eq, sI_sI]
        have hk : k3 < ts := by
          unfold chr at c59
          by_cases z : k3 < ts
          · exact z
          · rw [if_neg z] at c59; omega
        have hc' : tp k3 = 59 := by
          unfold chr at c59
          rw [if_pos hk] at c59; exact c59
        obtain ⟨q1, q2, q3, q4, q5, q6, q7, q8, q9⟩ := g3
        rw [pk_st hk, if_neg (by omega), if_neg (by omega), if_pos ⟨hc', hr, by omega⟩] at q1
        refine ⟨_, _, _, _, _, rfl, Or.inl ⟨rfl, rfl, rfl, k3 + 1, d2, ⟨?_, gI_sI_eq, by omega, by omega, ?_, fun j hj => ?_, ?_, ?_, g1.2.2.2.2.2.2.2.2.sI (by decide) rfl⟩, by omega, by omega, fun _ => ⟨hn1, by omega⟩, by omega, by omega⟩⟩
        · rw [if_neg (by omega)]; exact q1
        · exact g1.2.2.2.2.1.at _
        · rw [if_neg (by omega)] at hj
          rw [gI_sI, if_neg (by simp)]
          refine g1.2.2.2.2.2.1 j ?_
          unfold Wr at hj ⊢
          unfold rend at hr
          by_cases z : i = 0
          · omega
          · rw [if_neg z] at hr
            have := of_decide_eq_true hr
            omega
        · rw [gI_sI, if_neg (by simp)]; exact g1.2.2.2.2.2.2.1
        · rw [gI_sI, if_neg (by simp)]; exact g1.2.2.2.2.2.2.2.1
      · rw [if_neg c59, bd2_q, lt_q, lt_q, if_pos (c := wr 0 = 0) (by decide), gI_sI_eq, sI_sI, Int.add_zero k3]
        refine ⟨_, _, _, _, _, rfl, Or.inr (Or.inr ⟨rfl, rfl, k3, d2, w, by rw [show i + 1 - 1 = i by omega]; exact g3, by rw [show i + 1 - 1 = i by omega]; exact hr, ?_, Or.inr ⟨NX_id hn3, c59⟩, hn1, n1, w1.2, by omega, by omega⟩)⟩
        rcases g2 with g2 | ⟨g2, g4, g5⟩
        · exact Or.inl g2
        · have := NX_un hn3 g2
          subst this
          exact Or.inr ⟨g2, g4, g5⟩
theorem rows_s {M : Mem} {tp : Int → Int} {ts : Int} (hT : TK M tp ts) (hw : WFt ts tp) : ∃ wide rows wrong more M2, itr (fun s => m_X12_read_L14 s.2.2.2.2 s.1 s.2.1 s.2.2.1 s.2.2.2.1) FU (0, 0, 0, 1, sI M 55 9 0) = some (wide, rows, wrong, more, M2) ∧ ((wrong = 1 ∧ SA M (RR tp ts) ts M2) ∨ (wrong = 0 ∧ SB M tp ts (RR tp ts) wide rows M2)) := by
  have k0 : RN M tp ts (RR tp ts) 0 0 (sI M 55 9 0) := ⟨0, fun _ => false, ⟨rfl, gI_sI_eq, by omega, hw.1, hT.at 0, fun j hj => by unfold Wr at hj; omega, by rw [gI_sI, if_neg (by simp)], by rw [gI_sI, if_neg (by simp)], Fr.sI Fr.rf (by decide) rfl⟩, by omega, by omega, fun z => absurd rfl z, by omega, by omega⟩
  have hstop : ∀ wide rows wrong more M', (wrong = 1 ∨ (wrong = 0 ∧ more = 0)) → m_X12_read_L14 M' wide rows wrong more = some (.inr (wide, rows, wrong, more, M')) := by
    intro wide rows wrong more M' h
    unfold m_X12_read_L14
    rcases h with rfl | ⟨rfl, rfl⟩
    · by_cases c : wr more = 0
      · rw [if_pos c]
      · rw [if_neg c, if_neg (by decide)]
    · rw [if_pos (by decide)]
  obtain ⟨⟨wide, rows, wrong, more, M2⟩, e, hQ⟩ := for_g (f := fun s => m_X12_read_L14 s.2.2.2.2 s.1 s.2.1 s.2.2.1 s.2.2.2.1) 0 9 (fun i s => (s.2.2.1 = 0 ∧ s.2.2.2.1 = 1 ∧ s.2.1 = i ∧ RN M tp ts (RR tp ts) i s.1 s.2.2.2.2) ∨ (s.2.2.1 = 1 ∧ SA M (RR tp ts) ts s.2.2.2.2) ∨ (s.2.2.1 = 0 ∧ s.2.2.2.1 = 0 ∧ SB M tp ts (RR tp ts) s.1 s.2.1 s.2.2.2.2)) (fun r => (r.2.2.1 = 1 ∧ SA M (RR tp ts) ts r.2.2.2.2) ∨ (r.2.2.1 = 0 ∧ SB M tp ts (RR tp ts) r.1 r.2.1 r.2.2.2.2)) (by
    rintro i ⟨wide, rows, wrong, more, M'⟩ i0 i1 h
    dsimp only at h
    rcases h with ⟨rfl, rfl, rfl, h⟩ | ⟨rfl, h⟩ | ⟨rfl, rfl, h⟩
    · obtain ⟨a, b, c, d, M2, e, h2⟩ := rows_step hw h
      exact Or.inl ⟨_, e, h2⟩
    · exact Or.inr ⟨_, hstop _ _ _ _ _ (Or.inl rfl), Or.inl ⟨rfl, h⟩⟩
    · exact Or.inr ⟨_, hstop _ _ _ _ _ (Or.inr ⟨rfl, rfl⟩), Or.inr ⟨rfl, h⟩⟩) (by
    rintro ⟨wide, rows, wrong, more, M'⟩ h
    dsimp only at h
    rcases h with ⟨rfl, rfl, rfl, h⟩ | ⟨rfl, h⟩ | ⟨rfl, rfl, h⟩
    · obtain ⟨k, d, z1, z2, z3, -⟩ := h
      omega
    · exact ⟨_, hstop _ _ _ _ _ (Or.inl rfl), Or.inl ⟨rfl, h⟩⟩
    · exact ⟨_, hstop _ _ _ _ _ (Or.inr ⟨rfl, rfl⟩), Or.inr ⟨rfl, h⟩⟩) (by omega) (by omega) (s0 := (0, 0, 0, 1, sI M 55 9 0)) (Or.inl ⟨rfl, rfl, rfl, k0⟩)
  exact ⟨wide, rows, wrong, more, M2, e, hQ⟩
/-- the end of the reader's rows -/
theorem rows_end {M M2 : Mem} {tp : Int → Int} {ts wide rows : Int} (hw : WFt ts tp) (h : SB M tp ts (RR tp ts) wide rows M2) : ∃ M3, (m_X12_next M2 = some (0, M3) ∧ (RR tp ts).1 = -1 ∧ (RR tp ts).2.1 = wide ∧ (RR tp ts).2.2.1 = rows ∧ (∀ x y, 0 ≤ x → x < wide → 0 ≤ y → y < rows → gI M3 62 (8 * y + x) = bI ((RR tp ts).2.2.2 (8 * y + x))) ∧ Fr [55, 62] M M3) ∨ (∃ r, m_X12_next M2 = some (r, M3) ∧ wr r ≠ 0 ∧ SA M (RR tp ts) ts M3) := by
  obtain ⟨k, d, w, hQ, hr, ha, hb, w1, w2, w3, r1, r2⟩ := h
  obtain ⟨k3, hn3, e3⟩ := next_s hQ.2.2.2.2.1 hw hQ.2.1 hQ.2.2.1 hQ.2.2.2.1
  have g3 := hQ.at hn3
  obtain ⟨q1, q2, q3, q4, q5, q6, q7, q8, q9⟩ := g3
  refine ⟨sI M2 55 9 k3, ?_⟩
  by_cases c : k3 < ts
  · right
    have hb3 := hw.2.2 k3 q3 c
    have hR : (RR tp ts).1 = k3 := by
      rw [← q1, pk_st c, if_neg (hn3.2.2.2 c)]
      have n1 : ¬ ((tp k3 = 46 ∨ tp k3 = 35) ∧ wide < w) := by
        rintro ⟨z1, z2⟩
        rcases ha with ha | ⟨ha, hb, hc⟩
        · omega
        · have := NX_un hn3 ha
          subst this
          unfold chr at hb hc
          rw [if_pos c] at hb hc
          omega
      have n2 : ¬ (tp k3 = 59 ∧ rend (rows - 1) wide w = true ∧ rows - 1 < 7) := by
        rintro ⟨z1, z2, z3⟩
        rcases hb with hb | ⟨hb, hc⟩
        · omega
        · have := NX_un hn3 hb
          subst this
          unfold chr at hc
          rw [if_pos c] at hc
          omega
      rw [if_neg n1, if_neg n2]
    refine ⟨chr tp ts k3, e3, ?_, by omega, by omega, by rw [hR]; exact q2, q7, q8, q9⟩
    unfold chr
    rw [if_pos c, wr_id (by omega) (by omega)]
    omega
  · left
    have hk : k3 = ts := by omega
    rw [hk, pk_end, hr, if_pos rfl] at q1
    have hc0 : chr tp ts k3 = 0 := if_neg c
    rw [hc0] at e3
    refine ⟨e3, by rw [← q1], by rw [← q1], by rw [← q1]; dsimp only; omega, fun x y x0 x1 y0 y1 => ?_, q9⟩
    rw [← q1]
    refine q6 _ ⟨by omega, ?_⟩
    unfold rend at hr
    by_cases z : rows - 1 = 0
    · omega
    · rw [if_neg z] at hr
      have := of_decide_eq_true hr
      omega
