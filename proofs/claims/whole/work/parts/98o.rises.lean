/-! heights: the reference -/
theorem isCrnR_s {M : Mem} {W H : Int} {op : Int → Bool} (hy : YR M W H op) {x y : Int} (x0 : -2147483648 ≤ x) (x1 : x ≤ 2147483647) (y0 : -2147483648 ≤ y) (y1 : y ≤ 2147483647) : m_X12_isCorner M x y = some (crn W H op x y) := by
  have hW := hy.2.2.1
  obtain ⟨a1, a2, a3, a4⟩ := hW
  have hW := hy.2.2.1
  unfold m_X12_isCorner
  rw [hy.1, hy.2.1, l_0, in_s x0 x1 (by omega) (by omega) (by omega) (by omega), in_s y0 y1 (by omega) (by omega) (by omega) (by omega), bd1_q, bd1_q]
  simp only [wrb]
  by_cases c1 : 0 ≤ x ∧ x ≤ W
  rotate_left
  · rw [decide_eq_false c1, if_ff, bd1_q]
    have : crn W H op x y = false := Bool.eq_false_iff.mpr (fun q => by have := crn_r q; omega)
    rw [this]; rfl
  by_cases c2 : 0 ≤ y ∧ y ≤ H
  rotate_left
  · rw [decide_eq_true c1, if_tf, decide_eq_false c2, if_ff, bd1_q]
    have : crn W H op x y = false := Bool.eq_false_iff.mpr (fun q => by have := crn_r q; omega)
    rw [this]; rfl
  rw [decide_eq_true c1, if_tf, decide_eq_true c2, if_tf, isOpenAtR_s hy (x := x - 1) (y := y - 1) (by omega) (by omega) (by omega) (by omega), isOpenAtR_s hy (x := x) (y := y - 1) (by omega) (by omega) (by omega) (by omega), isOpenAtR_s hy (x := x - 1) (y := y) (by omega) (by omega) (by omega) (by omega), isOpenAtR_s hy (x := x) (y := y) (by omega) (by omega) (by omega) (by omega)]
  simp only [bd1_q]
  unfold crn
  cases opn W H op (x - 1) (y - 1) <;> cases opn W H op x (y - 1) <;> cases opn W H op (x - 1) y <;> cases opn W H op x y <;> rfl
theorem isBarred_s {M : Mem} {W H : Int} {op : Int → Bool} {p : Int → Int} (hy : YR M W H op) (hp : Pav W H op p) {s : Int} (s0 : 0 ≤ s) (s1 : s < 4) (ha : ∀ q, iso W H op q = true → gI M 60 (64 * s + q) = p q) {x y x' y' : Int} (x0 : -1 ≤ x) (x1 : x ≤ 9) (y0 : -1 ≤ y) (y1 : y ≤ 9) (x0' : -1 ≤ x') (x1' : x' ≤ 9) (y0' : -1 ≤ y') (y1' : y' ≤ 9) : m_X12_isBarred M s x y x' y' = some (!bp ((opn W H op x y = true ∨ opn W H op x' y' = true) ∧ ¬ sam W H op p x y x' y')) := by
  have hW := hy.2.2.1
  have h8 := WH_le hW
  unfold m_X12_isBarred
  rw [isOpenAtR_s hy (by omega) (by omega) (by omega) (by omega), isOpenAtR_s hy (by omega) (by omega) (by omega) (by omega), bd1_q, bd1_q]
  simp only [wrb]
  by_cases o1 : opn W H op x y = true
  · obtain ⟨i1, -, -⟩ := opn_i hW o1
    have r1 := iso_r hW i1
    by_cases o2 : opn W H op x' y' = true
    · obtain ⟨i2, -, -⟩ := opn_i hW o2
      have r2 := iso_r hW i2
      have s1' := stn_t hW (hp _ i1).1
      have s2' := stn_t hW (hp _ i2).1
      have e1 : 64 * s + W * y + x = 64 * s + (y * W + x) := by rw [Int.mul_comm W y]; omega
      have e2 : 64 * s + W * y' + x' = 64 * s + (y' * W + x') := by rw [Int.mul_comm W y']; omega
      have hbp : bp ((opn W H op x y = true ∨ opn W H op x' y' = true) ∧ ¬ sam W H op p x y x' y') = !decide (p (y * W + x) = p (y' * W + x')) := by
        by_cases z : p (y * W + x) = p (y' * W + x')
        · rw [decide_eq_true z]
          exact bp_f.mpr (fun q => q.2 ⟨o1, o2, z⟩)
        · rw [decide_eq_false z]
          exact bp_t.mpr ⟨Or.inl o1, fun q => z q.2.2⟩
      rw [hbp, o1, o2, hy.1, e1, e2]
      simp only [if_tf]
      rw [wr_id (x := 64 * s + (y * W + x)) (by omega) (by omega), wr_id (x := 64 * s + (y' * W + x')) (by omega) (by omega), if_pos (by omega), if_pos (by omega), ha _ i1, ha _ i2, wr_id (x := p (y * W + x)) (by omega) (by omega), wr_id (x := p (y' * W + x')) (by omega) (by omega)]
      by_cases z : p (y * W + x) = p (y' * W + x')
      · rw [if_pos z, decide_eq_true z]; rfl
      · rw [if_neg z, decide_eq_false z]; rfl
    · have o2' : opn W H op x' y' = false := Bool.eq_false_iff.mpr o2
      have : bp ((opn W H op x y = true ∨ opn W H op x' y' = true) ∧ ¬ sam W H op p x y x' y') = true := bp_t.mpr ⟨Or.inl o1, fun q => o2 q.2.1⟩
      rw [this, o1, o2']; rfl
  · have o1' : opn W H op x y = false := Bool.eq_false_iff.mpr o1
    by_cases o2 : opn W H op x' y' = true
    · have : bp ((opn W H op x y = true ∨ opn W H op x' y' = true) ∧ ¬ sam W H op p x y x' y') = true := bp_t.mpr ⟨Or.inr o2, fun q => o1 q.1⟩
      rw [this, o1', o2]; rfl
    · have o2' : opn W H op x' y' = false := Bool.eq_false_iff.mpr o2
      have : bp ((opn W H op x y = true ∨ opn W H op x' y' = true) ∧ ¬ sam W H op p x y x' y') = false := bp_f.mpr (fun q => q.1.elim o1 o2)
      rw [this, o1', o2']; rfl
theorem steps_s {M : Mem} {W H : Int} {op : Int → Bool} {p : Int → Int} (hy : YR M W H op) (hp : Pav W H op p) {s : Int} (s0 : 0 ≤ s) (s1 : s < 4) (ha : ∀ q, iso W H op q = true → gI M 60 (64 * s + q) = p q) {x y k : Int} (x0 : 0 ≤ x) (x1 : x ≤ W) (y0 : 0 ≤ y) (y1 : y ≤ H) (hk : k = 0 ∨ k = 1) : m_X12_steps M s x y k = some (stF W H op p x y k) := by
  have hW := hy.2.2.1
  obtain ⟨a1, a2, a3, a4⟩ := hW
  have hW := hy.2.2.1
  unfold m_X12_steps
  rcases hk with rfl | rfl
  · show _ = some (stE W H op p x y)
    rw [if_pos (by decide), hy.1, wr_id (x := x) (by omega) (by omega), wr_id (x := W) (by omega) (by omega)]
    by_cases z : x = W
    · rw [if_pos z, bd1_q]
      rcases stE_c (W := W) (H := H) (op := op) (p := p) (x := x) (y := y) with ⟨c, -⟩ | ⟨-, c⟩
      · rw [c]
      · have := alE_r c; omega
    · rw [if_neg z, isBarred_s hy hp s0 s1 ha (by omega) (by omega) (by omega) (by omega) (by omega) (by omega) (by omega) (by omega), bd1_q, isDarkR_s (by omega) (by omega), bd1_q]
      simp only [wrb]
      unfold stE
      by_cases c : alE W H op p x y
      · have : bp ((opn W H op x (y - 1) = true ∨ opn W H op x y = true) ∧ ¬ sam W H op p x (y - 1) x y) = true := bp_t.mpr c
        rw [this, if_pos (c := (!true) = false) rfl, if_pos (bp_t.mpr c)]
        unfold sgE
        by_cases w : (x + y) % 2 = 0
        · rw [if_pos w, decide_eq_false (by omega), if_ff, bd1_q]
        · rw [if_neg w, decide_eq_true (by omega), if_tf, bd1_q]
      · have : bp ((opn W H op x (y - 1) = true ∨ opn W H op x y = true) ∧ ¬ sam W H op p x (y - 1) x y) = false := bp_f.mpr c
        rw [this, if_neg (c := (!false) = false) (by decide), if_neg (fun q => c (bp_t.mp q)), bd1_q]
  · show _ = some (stS W H op p x y)
    rw [if_neg (by decide), hy.2.1, wr_id (x := y) (by omega) (by omega), wr_id (x := H) (by omega) (by omega)]
    by_cases z : y = H
    · rw [if_pos z, bd1_q]
      rcases stS_c (W := W) (H := H) (op := op) (p := p) (x := x) (y := y) with ⟨c, -⟩ | ⟨-, c⟩
      · rw [c]
      · have := alS_r c; omega
    · rw [if_neg z, isBarred_s hy hp s0 s1 ha (by omega) (by omega) (by omega) (by omega) (by omega) (by omega) (by omega) (by omega), bd1_q, isDarkR_s (by omega) (by omega), bd1_q]
      simp only [wrb]
      unfold stS
      by_cases c : alS W H op p x y
      · have : bp ((opn W H op (x - 1) y = true ∨ opn W H op x y = true) ∧ ¬ sam W H op p (x - 1) y x y) = true := bp_t.mpr c
        rw [this, if_pos (c := (!true) = false) rfl, if_pos (bp_t.mpr c)]
        unfold sgS
        by_cases w : (x + y) % 2 = 0
        · rw [if_pos w, decide_eq_true w, if_tf, bd1_q]
        · rw [if_neg w, decide_eq_false w, if_ff, bd1_q]
      · have : bp ((opn W H op (x - 1) y = true ∨ opn W H op x y = true) ∧ ¬ sam W H op p (x - 1) y x y) = false := bp_f.mpr c
        rw [this, if_neg (c := (!false) = false) (by decide), if_neg (fun q => c (bp_t.mp q)), bd1_q]
theorem cn_lt {P Q : Int → Bool} {n : Nat} (h : ∀ x : Int, 0 ≤ x → x < n → P x = true → Q x = true) {x : Int} (x0 : 0 ≤ x) (x1 : x < n) (hq : Q x = true) (hp : ¬ P x = true) : cn n P + 1 ≤ cn n Q := by
  have h1 := cn_le n h
  rcases Nat.lt_or_ge (cn n P) (cn n Q) with z | z
  · exact z
  · exact absurd (cn_eq n h z x x0 x1 hq) hp
/-- told heights -/
def HV (ph : Int → Int → Int) (f0 : Int) (T : Int → Prop) (M : Mem) : Prop := ∀ q, 0 ≤ q → q < 81 → gI M 73 q = if bp (T q) = true then PQ ph q - PQ ph f0 else -1000
def Bal (W H : Int) (op : Int → Bool) (p : Int → Int) (T : Int → Prop) (x y k : Int) : Prop := stF W H op p x y k ≠ 0 → (T (9 * y + x) ↔ T (cbs (9 * y + x) k))
noncomputable def cT (T : Int → Prop) : Nat := cn 81 (fun q => bp (T q))
/-- a sweep under way -/
def SWP (W H : Int) (op : Int → Bool) (T0 T : Int → Prop) (flag : Int) (B : Prop) : Prop := (∀ q, T0 q → T q) ∧ (∀ q, T q → CO W H op q) ∧ ((flag = 0 ∧ (∀ q, T q → T0 q) ∧ B) ∨ (flag = 1 ∧ cT T0 + 1 ≤ cT T))
theorem SWP_B {W H : Int} {op : Int → Bool} {T0 T : Int → Prop} {flag : Int} {B B' : Prop} (h : SWP W H op T0 T flag B) (hB : B → B') : SWP W H op T0 T flag B' := by
  obtain ⟨h1, h2, h3⟩ := h
  refine ⟨h1, h2, ?_⟩
  rcases h3 with ⟨q1, q2, q3⟩ | q
  · exact Or.inl ⟨q1, q2, hB q3⟩
  · exact Or.inr q
def RC (W H : Int) (op : Int → Bool) (p : Int → Int) (ph : Int → Int → Int) (f0 s : Int) (M0 : Mem) : Prop := YR M0 W H op ∧ Pav W H op p ∧ PHt W H op p ph ∧ (∀ q, iso W H op q = true → gI M0 60 (64 * s + q) = p q) ∧ (0 ≤ s ∧ s < 4) ∧ (∀ q, CO W H op q → -80 ≤ PQ ph q - PQ ph f0 ∧ PQ ph q - PQ ph f0 ≤ 80)
theorem ris88_s {M0 : Mem} {W H : Int} {op : Int → Bool} {p : Int → Int} {ph : Int → Int → Int} {f0 s : Int} (hR : RC W H op p ph f0 s M0) {T0 T : Int → Prop} {flag : Int} {B : Prop} {x y : Int} (x0 : 0 ≤ x) (x1 : x ≤ W) (y0 : 0 ≤ y) (y1 : y ≤ H) {M : Mem} (hV : HV ph f0 T M) (hS : SWP W H op T0 T flag B) (hF : Fr [73] M0 M) : ∃ flag' z M2 T', itr (fun t => m_X12_rises_L88 t.2.2 s y x t.1 t.2.1) FU (flag, 0, M) = some (flag', z, M2) ∧ HV ph f0 T' M2 ∧ SWP W H op T0 T' flag' (B ∧ ∀ k, 0 ≤ k → k < 2 → Bal W H op p T0 x y k) ∧ Fr [73] M0 M2 := by
  obtain ⟨hy, hp, hph, ha, ⟨s0, s1⟩, hb⟩ := hR
  have hW := hy.2.2.1
  obtain ⟨a1, a2, a3, a4⟩ := hW
  have hW := hy.2.2.1
  obtain ⟨⟨fl, z, M2⟩, e, T', g1, g2, g3⟩ := for_g (f := fun t => m_X12_rises_L88 t.2.2 s y x t.1 t.2.1) 0 2 (fun k t => t.2.1 = k ∧ ∃ T, HV ph f0 T t.2.2 ∧ SWP W H op T0 T t.1 (B ∧ ∀ k', 0 ≤ k' → k' < k → Bal W H op p T0 x y k') ∧ Fr [73] M0 t.2.2) (fun r => ∃ T, HV ph f0 T r.2.2 ∧ SWP W H op T0 T r.1 (B ∧ ∀ k', 0 ≤ k' → k' < 2 → Bal W H op p T0 x y k') ∧ Fr [73] M0 r.2.2) (by
    rintro k ⟨fl, k', M'⟩ k0 k1 ⟨g0, T, g1, g2, g3⟩
    dsimp only at g0 g1 g2 g3
    subst g0
    left
    show ∃ s2, m_X12_rises_L88 M' s y x fl k' = _ ∧ _
    have hyM := hy.fr g3 (by decide) (by decide)
    have haM : ∀ q, iso W H op q = true → gI M' 60 (64 * s + q) = p q := fun q hq => (fI g3 (by decide) _).trans (ha q hq)
    unfold m_X12_rises_L88
    have et : (if k' = 0 then 9 * y + x + 1 else 9 * y + x + 9) = cbs (9 * y + x) k' := by
      have : k' = 0 ∨ k' = 1 := by omega
      rcases this with rfl | rfl <;> rfl
    rw [show wr 2 = 2 by decide, wr_id (x := k') (by omega) (by omega), if_neg (by omega), steps_s hyM hp s0 s1 haM x0 x1 y0 y1 (by omega), bd1_q, et, lt_q]
    by_cases z : stF W H op p x y k' = 0
    · rw [z, if_pos (by decide), bd2_q]
      refine ⟨_, rfl, rfl, T, g1, SWP_B g2 (fun q => ⟨q.1, fun k k0 k1 => ?_⟩), g3⟩
      by_cases w : k = k'
      · rw [w]; exact fun r => absurd z r
      · exact q.2 k k0 (by omega)
    · have e9 : (9 * y + x) % 9 = x ∧ (9 * y + x) / 9 = y := by omega
      have hst := stF_s (p := p) hW (q := 9 * y + x) (k := k') (by omega) (by omega) k0 (by omega) (by rw [e9.1, e9.2]; exact z)
      rw [e9.1, e9.2] at hst
      obtain ⟨c1, c2, c3, c4, -⟩ := hst
      have c4' : PQ ph (cbs (9 * y + x) k') = PQ ph (9 * y + x) + stF W H op p x y k' := by
        have := c4 ph hph
        unfold PQ
        rw [this, e9.1, e9.2]
      generalize hq : 9 * y + x = q at *
      generalize ht : cbs q k' = t at *
      generalize hs : stF W H op p x y k' = sv at *
      have hwz : wr sv ≠ 0 := by rcases c3 with r | r <;> rw [r] <;> decide
      have bq := hb q c1
      have bt := hb t c2
      have c1' := c1
      have c2' := c2
      obtain ⟨q0, q1, -⟩ := c1
      obtain ⟨t0, t1, -⟩ := c2
      have vq := g1 q q0 q1
      have vt := g1 t t0 t1
      have nqt : q ≠ t := fun r => by rw [← r] at c4'; rcases c3 with w | w <;> omega
      have wq : (wr (gI M' 73 q) = wr (-1000)) = (¬ T q) := by
        rw [vq]
        by_cases w : T q
        · rw [if_pos (bp_t.mpr w), wr_id (x := PQ ph q - PQ ph f0) (by omega) (by omega), show wr (-1000) = -1000 by decide]
          exact propext ⟨fun r => by omega, fun r => absurd w r⟩
        · rw [if_neg (fun r => w (bp_t.mp r))]
          exact propext ⟨fun _ => w, fun _ => rfl⟩
      have wt : (wr (gI M' 73 t) = wr (-1000)) = (¬ T t) := by
        rw [vt]
        by_cases w : T t
        · rw [if_pos (bp_t.mpr w), wr_id (x := PQ ph t - PQ ph f0) (by omega) (by omega), show wr (-1000) = -1000 by decide]
          exact propext ⟨fun r => by omega, fun r => absurd w r⟩
        · rw [if_neg (fun r => w (bp_t.mp r))]
          exact propext ⟨fun _ => w, fun _ => rfl⟩
      rw [if_neg hwz, wr_id (x := q) (by omega) (by omega), wr_id (x := t) (by omega) (by omega), if_pos ⟨q0, q1⟩, lt_q, if_pos ⟨t0, t1⟩, lt_q]
      by_cases wTq : T q
      · have n1 : ¬ (wr (gI M' 73 q) = wr (-1000)) := by rw [wq]; exact fun r => r wTq
        by_cases wTt : T t
        · have n2 : ¬ (wr (gI M' 73 t) = wr (-1000)) := by rw [wt]; exact fun r => r wTt
          simp only [if_neg n1, if_neg n2, lt_q]
          rw [if_pos trivial, bd2_q]
          refine ⟨_, rfl, rfl, T, g1, ?_, g3⟩
          obtain ⟨m1, m2, m3⟩ := g2
          refine ⟨m1, m2, ?_⟩
          rcases m3 with ⟨r1, r2, r3⟩ | r
          · refine Or.inl ⟨r1, r2, r3.1, fun k k0 k1 => ?_⟩
            by_cases w : k = k'
            · rw [w]
              intro _
              rw [hq, ht]
              exact ⟨fun _ => r2 t wTt, fun _ => r2 q wTq⟩
            · exact r3.2 k k0 (by omega)
          · exact Or.inr r
        · have n2 : wr (gI M' 73 t) = wr (-1000) := by rw [wt]; exact wTt
          simp only [if_neg n1, if_pos n2, lt_q]
          rw [if_neg (by decide)]
          have n3 : ¬ (wr (gI (sI M' 73 t (gI M' 73 q + sv)) 73 q) = wr (-1000)) := by
            rw [gI_sI, if_neg (fun r => nqt r.2)]; exact n1
          rw [if_neg n3, bd2_q, gI_sI, if_neg (fun r => nqt r.2)]
          refine ⟨_, rfl, rfl, fun u => T u ∨ u = t, fun u u0 u1 => ?_, ⟨fun u h => Or.inl (g2.1 u h), fun u h => ?_, Or.inr ⟨rfl, ?_⟩⟩, (g3.sI (by decide) rfl).sI (by decide) rfl⟩
          · dsimp only
            rw [gI_sI]
            by_cases w : u = q
            · rw [if_pos ⟨rfl, w⟩, if_pos (bp_t.mpr (Or.inl (by rw [w]; exact wTq))), vq, if_pos (bp_t.mpr wTq), w]
            · rw [if_neg (fun r => w r.2), gI_sI]
              by_cases w2 : u = t
              · rw [if_pos ⟨rfl, w2⟩, if_pos (bp_t.mpr (Or.inr w2)), vq, if_pos (bp_t.mpr wTq), w2]
                omega
              · rw [if_neg (fun r => w2 r.2), g1 u u0 u1]
                have : T u ↔ (T u ∨ u = t) := ⟨Or.inl, fun r => r.elim (fun r => r) (fun r => absurd r w2)⟩
                rw [← bp_congr this]
          · rcases h with h | h
            · exact g2.2.1 u h
            · rw [h]; exact c2'
          · have hlt : cT T + 1 ≤ cT (fun u => T u ∨ u = t) := cn_lt (fun u _ _ hu => bp_t.mpr (Or.inl (bp_t.mp hu))) t0 t1 (bp_t.mpr (Or.inr rfl)) (fun r => wTt (bp_t.mp r))
            have hle : cT T0 ≤ cT T := cn_le 81 (fun u _ _ hu => bp_t.mpr (g2.1 u (bp_t.mp hu)))
            omega
      · have n1 : wr (gI M' 73 q) = wr (-1000) := by rw [wq]; exact wTq
        by_cases wTt : T t
        · have n2 : ¬ (wr (gI M' 73 t) = wr (-1000)) := by rw [wt]; exact fun r => r wTt
          simp only [if_pos n1, if_neg n2, lt_q]
          rw [if_neg (by decide)]
          have n3 : wr (gI (sI M' 73 t (gI M' 73 t)) 73 q) = wr (-1000) := by
            rw [gI_sI, if_neg (fun r => nqt r.2)]; exact n1
          rw [if_pos n3, bd2_q, gI_sI, if_pos ⟨rfl, rfl⟩]
          refine ⟨_, rfl, rfl, fun u => T u ∨ u = q, fun u u0 u1 => ?_, ⟨fun u h => Or.inl (g2.1 u h), fun u h => ?_, Or.inr ⟨rfl, ?_⟩⟩, (g3.sI (by decide) rfl).sI (by decide) rfl⟩
          · dsimp only
            rw [gI_sI]
            by_cases w : u = q
            · rw [if_pos ⟨rfl, w⟩, if_pos (bp_t.mpr (Or.inr w)), vt, if_pos (bp_t.mpr wTt), w]
              omega
            · rw [if_neg (fun r => w r.2), gI_sI]
              have this : T u ↔ (T u ∨ u = q) := ⟨Or.inl, fun r => r.elim (fun r => r) (fun r => absurd r w)⟩
              by_cases w2 : u = t
              · rw [if_pos ⟨rfl, w2⟩, ← w2, g1 u u0 u1, ← bp_congr this]
              · rw [if_neg (fun r => w2 r.2), g1 u u0 u1, ← bp_congr this]
          · rcases h with h | h
            · exact g2.2.1 u h
            · rw [h]; exact c1'
          · have hlt : cT T + 1 ≤ cT (fun u => T u ∨ u = q) := cn_lt (fun u _ _ hu => bp_t.mpr (Or.inl (bp_t.mp hu))) q0 q1 (bp_t.mpr (Or.inr rfl)) (fun r => wTq (bp_t.mp r))
            have hle : cT T0 ≤ cT T := cn_le 81 (fun u _ _ hu => bp_t.mpr (g2.1 u (bp_t.mp hu)))
            omega
        · have n2 : wr (gI M' 73 t) = wr (-1000) := by rw [wt]; exact wTt
          simp only [if_pos n1, if_pos n2, lt_q]
          rw [if_pos trivial, bd2_q]
          refine ⟨_, rfl, rfl, T, g1, ?_, g3⟩
          obtain ⟨m1, m2, m3⟩ := g2
          refine ⟨m1, m2, ?_⟩
          rcases m3 with ⟨r1, r2, r3⟩ | r
          · refine Or.inl ⟨r1, r2, r3.1, fun k k0 k1 => ?_⟩
            by_cases w : k = k'
            · rw [w]
              intro _
              rw [hq, ht]
              exact ⟨fun v => absurd (m1 q v) wTq, fun v => absurd (m1 t v) wTt⟩
            · exact r3.2 k k0 (by omega)
          · exact Or.inr r) (by
    rintro ⟨fl, k', M'⟩ ⟨g0, T, g1, g2, g3⟩
    dsimp only at g0 g1 g2 g3
    refine ⟨(fl, k', M'), ?_, T, g1, g2, g3⟩
    show m_X12_rises_L88 M' s y x fl k' = _
    unfold m_X12_rises_L88
    rw [g0, if_pos (by decide)]) (by omega) (by omega) (s0 := (flag, 0, M)) ⟨rfl, T, hV, SWP_B hS (fun q => ⟨q, fun k k0 k1 => by omega⟩), hF⟩
  exact ⟨fl, z, M2, T', e, g1, g2, g3⟩
