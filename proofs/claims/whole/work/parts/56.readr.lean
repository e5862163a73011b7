/-! read: the reference's reader -/
theorem sI_sI (M : Mem) (k : Nat) (j a b : Int) : sI (sI M k j a) k j b = sI M k j b := by
  unfold sI
  refine Prod.ext ?_ rfl
  funext x y
  dsimp only
  by_cases h : x = k ∧ y = j
  · rw [if_pos h, if_pos h]
  · rw [if_neg h, if_neg h, if_neg h]
theorem sI_id {M : Mem} {k : Nat} {j v : Int} (h : gI M k j = v) : sI M k j v = M := by
  unfold sI
  refine Prod.ext ?_ rfl
  funext x y
  dsimp only
  by_cases e : x = k ∧ y = j
  · rw [if_pos e, e.1, e.2]; exact h.symm
  · rw [if_neg e]
def NX (tp : Int → Int) (ts k k2 : Int) : Prop := k ≤ k2 ∧ k2 ≤ ts ∧ (∀ q, k ≤ q → q < k2 → tp q = 32) ∧ (k2 < ts → tp k2 ≠ 32)
def chr (tp : Int → Int) (ts k : Int) : Int := if k < ts then tp k else 0
theorem NX_pk {tp : Int → Int} {ts k k2 : Int} (h : NX tp ts k k2) (rows col wide : Int) (d : Int → Bool) : pk tp ts k rows col wide d = pk tp ts k2 rows col wide d := by
  obtain ⟨h1, h2, h3, -⟩ := h
  have : ∀ n : Nat, ∀ k, k ≤ k2 → (k2 - k).toNat = n → (∀ q, k ≤ q → q < k2 → tp q = 32) → pk tp ts k rows col wide d = pk tp ts k2 rows col wide d := by
    intro n
    induction n with
    | zero => intro k a b _; rw [show k = k2 by omega]
    | succ n ih =>
      intro k a b c
      rw [pk_st (k := k) (by omega), if_pos (c k (by omega) (by omega))]
      exact ih (k + 1) (by omega) (by omega) (fun q x y => c q (by omega) y)
  exact this _ k h1 rfl h3
theorem NX_un {tp : Int → Int} {ts k k2 k3 : Int} (h : NX tp ts k k2) (h' : NX tp ts k k3) : k2 = k3 := by
  obtain ⟨a1, a2, a3, a4⟩ := h
  obtain ⟨b1, b2, b3, b4⟩ := h'
  rcases Int.lt_trichotomy k2 k3 with q | q | q
  · exact absurd (b3 k2 a1 q) (a4 (by omega))
  · exact q
  · exact absurd (a3 k3 b1 q) (b4 (by omega))
theorem NX_id {tp : Int → Int} {ts k k2 : Int} (h : NX tp ts k k2) : NX tp ts k2 k2 := ⟨by omega, h.2.1, fun q x y => by omega, h.2.2.2⟩
def TK (M : Mem) (tp : Int → Int) (ts : Int) : Prop := gI M 55 8 = ts ∧ ∀ k, 0 ≤ k → k < ts → gI M 61 k = tp k
theorem TK.at {M : Mem} {tp : Int → Int} {ts : Int} (h : TK M tp ts) (v : Int) : TK (sI M 55 9 v) tp ts := ⟨by rw [gI_sI, if_neg (by simp)]; exact h.1, fun k a b => by rw [gI_sI, if_neg (by simp)]; exact h.2 k a b⟩
theorem next_s {M : Mem} {tp : Int → Int} {ts k : Int} (h : TK M tp ts) (hw : WFt ts tp) (hk : gI M 55 9 = k) (h0 : 0 ≤ k) (h1 : k ≤ ts) : ∃ k2, NX tp ts k k2 ∧ m_X12_next M = some (chr tp ts k2, sI M 55 9 k2) := by
  obtain ⟨t0, t1, t2⟩ := hw
  obtain ⟨r, e, k2, hn, hr⟩ := for_g (f := fun s => m_X12_next_L0 s) k ts (fun i s => s = sI M 55 9 i ∧ ∀ q, k ≤ q → q < i → tp q = 32) (fun r => ∃ k2, NX tp ts k k2 ∧ r = sI M 55 9 k2) (by
    rintro i s i0 i1 ⟨rfl, hq⟩
    have hT := h.at i
    have hb := t2 i (by omega) i1
    show (∃ s2, m_X12_next_L0 (sI M 55 9 i) = _ ∧ _) ∨ (∃ s2, m_X12_next_L0 (sI M 55 9 i) = _ ∧ _)
    unfold m_X12_next_L0
    rw [hT.1, gI_sI_eq, wr_id (x := ts) (by omega) (by omega), wr_id (x := i) (by omega) (by omega), if_neg (by omega), if_pos (by omega), hT.2 i (by omega) i1, wr_id (x := tp i) (by omega) (by omega), wr32]
    by_cases c : tp i = 32
    · rw [if_pos c, lt_q, sI_sI]
      refine Or.inl ⟨_, rfl, rfl, fun q x y => ?_⟩
      by_cases z : q = i
      · rw [z]; exact c
      · exact hq q x (by omega)
    · rw [if_neg c]
      exact Or.inr ⟨_, rfl, i, ⟨i0, by omega, hq, fun _ => c⟩, rfl⟩) (by
    rintro s ⟨rfl, hq⟩
    have hT := h.at ts
    show ∃ s2, m_X12_next_L0 (sI M 55 9 ts) = _ ∧ _
    unfold m_X12_next_L0
    rw [hT.1, gI_sI_eq, if_pos (by omega)]
    exact ⟨_, rfl, ts, ⟨h1, by omega, hq, fun z => by omega⟩, rfl⟩) h1 (by omega) (s0 := M) ⟨(sI_id hk).symm, fun q x y => by omega⟩
  refine ⟨k2, hn, ?_⟩
  subst hr
  unfold m_X12_next
  rw [e, bd1_q, (h.at k2).1, gI_sI_eq, wr_id (x := ts) (by omega) (by omega), wr_id (x := k2) (by have := hn.1; omega) (by have := hn.2.1; omega)]
  unfold chr
  by_cases c : k2 < ts
  · rw [if_neg (by omega), if_pos (by have := hn.1; omega), (h.at k2).2 k2 (by have := hn.1; omega) c, if_pos c, bd1_q]
  · rw [if_pos (by omega), if_neg c, bd1_q]
/-- the reader's state: where it stands, what it has drawn -/
def QI (M0 : Mem) (tp : Int → Int) (ts : Int) (R : PRs) (k rows col w : Int) (d : Int → Bool) (M : Mem) : Prop := pk tp ts k rows col w d = R ∧ gI M 55 9 = k ∧ 0 ≤ k ∧ k ≤ ts ∧ TK M tp ts ∧ (∀ j, Wr rows col w j → gI M 62 j = bI (d j)) ∧ gI M 55 0 = gI M0 55 0 ∧ gI M 55 1 = gI M0 55 1 ∧ Fr [55, 62] M0 M
theorem QI.at {M0 M : Mem} {tp : Int → Int} {ts : Int} {R : PRs} {k k2 rows col w : Int} {d : Int → Bool} (h : QI M0 tp ts R k rows col w d M) (hn : NX tp ts k k2) : QI M0 tp ts R k2 rows col w d (sI M 55 9 k2) := by
  obtain ⟨q1, q2, q3, q4, q5, q6, q7, q8, q9⟩ := h
  refine ⟨by rw [← NX_pk hn]; exact q1, gI_sI_eq, by have := hn.1; omega, hn.2.1, q5.at k2, fun j hj => by rw [gI_sI, if_neg (by simp)]; exact q6 j hj, by rw [gI_sI, if_neg (by simp)]; exact q7, by rw [gI_sI, if_neg (by simp)]; exact q8, q9.sI (by decide) rfl⟩
theorem chr_r {tp : Int → Int} {ts k : Int} (hw : WFt ts tp) (h0 : 0 ≤ k) : 0 ≤ chr tp ts k ∧ chr tp ts k ≤ 126 := by
  obtain ⟨t0, t1, t2⟩ := hw
  unfold chr
  by_cases c : k < ts
  · rw [if_pos c]; have := t2 k h0 c; omega
  · rw [if_neg c]; omega
theorem QI.put {M0 M : Mem} {tp : Int → Int} {ts : Int} {R : PRs} {k rows col w : Int} {d : Int → Bool} (h : QI M0 tp ts R k rows col w d M) (hk : k < ts) (c32 : tp k ≠ 32) (cc : tp k = 46 ∨ tp k = 35) (hc : col < w) (r0 : 0 ≤ rows) (c0 : 0 ≤ col) (w8 : w ≤ 8) {v : Int} (hv : v = bI (decide (tp k = 46))) : QI M0 tp ts R (k + 1) rows (col + 1) w (up1 d (8 * rows + col) (decide (tp k = 46))) (sI (sI M 62 (8 * rows + col) v) 55 9 (k + 1)) := by
  obtain ⟨q1, q2, q3, q4, q5, q6, q7, q8, q9⟩ := h
  rw [pk_st hk, if_neg c32, if_pos ⟨cc, hc⟩] at q1
  refine ⟨q1, gI_sI_eq, by omega, by omega, TK.at ⟨by rw [gI_sI, if_neg (by simp)]; exact q5.1, fun k a b => by rw [gI_sI, if_neg (by simp)]; exact q5.2 k a b⟩ _, fun j hj => ?_, ?_, ?_, (q9.sI (by decide) rfl).sI (by decide) rfl⟩
  · rw [gI_sI, if_neg (by simp), gI_sI]
    unfold up1
    unfold Wr at hj q6
    by_cases e : j = 8 * rows + col
    · rw [if_pos ⟨rfl, e⟩, if_pos e]; exact hv
    · rw [if_neg (fun z => e z.2), if_neg e]
      exact q6 j (by omega)
  · rw [gI_sI, if_neg (by simp), gI_sI, if_neg (by simp)]; exact q7
  · rw [gI_sI, if_neg (by simp), gI_sI, if_neg (by simp)]; exact q8
/-- a row of the reader -/
theorem row_loop {M0 M : Mem} {tp : Int → Int} {ts : Int} (hw : WFt ts tp) {R : PRs} {k rows w : Int} {d : Int → Bool} (h : QI M0 tp ts R k rows 0 w d M) (r0 : 0 ≤ rows) (r7 : rows ≤ 7) (w1 : 1 ≤ w) (w8 : w ≤ 8) (p1 : Int) : ∃ n M2, itr (fun s => m_X12_read_L38 s.2 p1 rows w s.1) FU (0, M) = some (n, M2) ∧ 0 ≤ n ∧ n ≤ w ∧ ∃ k2 d2, QI M0 tp ts R k2 rows n w d2 M2 ∧ (n = w ∨ (NX tp ts k2 k2 ∧ chr tp ts k2 ≠ 46 ∧ chr tp ts k2 ≠ 35)) := by
  obtain ⟨⟨n, M2⟩, e, n0, n1, k2, d2, z1, z2⟩ := for_g (f := fun s => m_X12_read_L38 s.2 p1 rows w s.1) 0 w (fun i s => s.1 = i ∧ ∃ k d, QI M0 tp ts R k rows i w d s.2) (fun r => 0 ≤ r.1 ∧ r.1 ≤ w ∧ ∃ k2 d2, QI M0 tp ts R k2 rows r.1 w d2 r.2 ∧ (r.1 = w ∨ (NX tp ts k2 k2 ∧ chr tp ts k2 ≠ 46 ∧ chr tp ts k2 ≠ 35))) (by
    rintro i ⟨x, M'⟩ i0 i1 ⟨g0, k, d, g1⟩
    dsimp only at g0 g1
    subst g0
    obtain ⟨k2, hn, e2⟩ := next_s g1.2.2.2.2.1 hw g1.2.1 g1.2.2.1 g1.2.2.2.1
    have g2 := g1.at hn
    obtain ⟨k3, hn3, e3⟩ := next_s g2.2.2.2.2.1 hw g2.2.1 g2.2.2.1 g2.2.2.2.1
    have : k3 = k2 := NX_un hn3 (NX_id hn)
    subst this
    rw [sI_sI] at e3
    have hc := chr_r hw (k := k3) g2.2.2.1
    show (∃ s2, m_X12_read_L38 M' p1 rows w x = _ ∧ _) ∨ (∃ s2, m_X12_read_L38 M' p1 rows w x = _ ∧ _)
    unfold m_X12_read_L38
    rw [wr_id (x := w) (by omega) (by omega), wr_id (x := x) (by omega) (by omega), if_neg (by omega), e2, bd2_q, e3]
    simp only [bd2_q, e3, wr_id (x := chr tp ts k3) (by omega) (by omega), wr46, wr35, wr_id (x := 8 * rows + x) (by omega) (by omega), if_pos (show 0 ≤ 8 * rows + x ∧ 8 * rows + x < 64 by omega), lt_q]
    by_cases c46 : chr tp ts k3 = 46
    · rw [if_pos c46, if_pos c46, if_pos (Or.inr rfl), gI_sI_ne (by decide), gI_sI_eq]
      have hk : k3 < ts := by
        unfold chr at c46
        by_cases z : k3 < ts
        · exact z
        · rw [if_neg z] at c46; omega
      have hc' : tp k3 = 46 := by
        unfold chr at c46
        rw [if_pos hk] at c46; exact c46
      have := g2.put hk (by omega) (Or.inl hc') i1 r0 i0 w8 (v := 1) (by rw [decide_eq_true hc']; rfl)
      exact Or.inl ⟨_, rfl, rfl, k3 + 1, _, this⟩
    · rw [if_neg c46]
      by_cases c35 : chr tp ts k3 = 35
      · rw [if_pos c35, if_neg c46, if_pos (Or.inl rfl), gI_sI_ne (by decide), gI_sI_eq]
        have hk : k3 < ts := by
          unfold chr at c35
          by_cases z : k3 < ts
          · exact z
          · rw [if_neg z] at c35; omega
        have hc' : tp k3 = 35 := by
          unfold chr at c35
          rw [if_pos hk] at c35; exact c35
        have := g2.put hk (by omega) (Or.inr hc') i1 r0 i0 w8 (v := 0) (by rw [decide_eq_false (by omega)]; rfl)
        exact Or.inl ⟨_, rfl, rfl, k3 + 1, _, this⟩
      · rw [if_neg c35]
        exact Or.inr ⟨_, rfl, i0, by dsimp only; omega, k3, d, g2, Or.inr ⟨NX_id hn, c46, c35⟩⟩) (by
    rintro ⟨x, M'⟩ ⟨g0, k, d, g1⟩
    dsimp only at g0 g1
    subst g0
    show ∃ s2, m_X12_read_L38 M' p1 rows x x = _ ∧ _
    unfold m_X12_read_L38
    rw [if_pos (by omega)]
    exact ⟨_, rfl, by dsimp only; omega, by dsimp only; omega, k, d, g1, Or.inl rfl⟩) (by omega) (by omega) (s0 := (0, M)) ⟨rfl, k, d, h⟩
  exact ⟨n, M2, e, n0, n1, k2, d2, z1, z2⟩
