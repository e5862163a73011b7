/-! rings: the walks of both sides -/
def xs (W H : Int) (pa pb : Int → Int) (c s : Int) : Int := if s % 2 = 0 then eo W H pa pb c (s / 2).toNat else mt W H pa (eo W H pa pb c (s / 2).toNat)
theorem xs_s {W H : Int} {op : Int → Bool} {pa pb : Int → Int} (hW : WHr W H) (ha : Pav W H op pa) (hb : Pav W H op pb) {c : Int} (hc : iso W H op c = true) {t : Nat} (t1 : 1 ≤ t) (t2 : eo W H pa pb c t = c) (t3 : ∀ i j, i < j → j < t → eo W H pa pb c i ≠ eo W H pa pb c j) : (∀ s, 0 ≤ s → iso W H op (xs W H pa pb c s) = true ∧ OB W H pa pb c (xs W H pa pb c s)) ∧ (∀ s, 0 ≤ s → s % 2 = 0 → mt W H pa (xs W H pa pb c s) = xs W H pa pb c (s + 1)) ∧ (∀ s, 0 ≤ s → ¬ s % 2 = 0 → mt W H pb (xs W H pa pb c s) = xs W H pa pb c (s + 1)) ∧ (∀ i s : Int, 0 ≤ i → i < s → s < 2 * (t : Int) → xs W H pa pb c i ≠ xs W H pa pb c s) ∧ xs W H pa pb c (2 * (t : Int)) = c ∧ xs W H pa pb c 0 = c ∧ (∀ q, OB W H pa pb c q ↔ ∃ i, 0 ≤ i ∧ i < 2 * (t : Int) ∧ q = xs W H pa pb c i) := by
  have hiso := fun k => eo_iso hW ha hb hc k
  have hme := fun k => mt_s hW ha (hiso k).1
  refine ⟨fun s s0 => ?_, fun s s0 h => ?_, fun s s0 h => ?_, fun i s i0 i1 s1 e => ?_, ?_, ?_, fun q => ?_⟩
  · unfold xs
    by_cases z : s % 2 = 0
    · rw [if_pos z]; exact ⟨(hiso _).1, _, _, Nat.lt_succ_self _, Or.inl rfl⟩
    · rw [if_neg z]; exact ⟨(hme _).1, _, _, Nat.lt_succ_self _, Or.inr rfl⟩
  · unfold xs
    rw [if_pos h, if_neg (by omega), show (s + 1) / 2 = s / 2 by omega]
  · unfold xs
    rw [if_neg h, if_pos (by omega), show ((s + 1) / 2).toNat = (s / 2).toNat + 1 by omega]
    rfl
  · unfold xs at e
    by_cases zi : i % 2 = 0
    · by_cases zs : s % 2 = 0
      · rw [if_pos zi, if_pos zs] at e
        exact t3 _ _ (by omega) (by omega) e
      · rw [if_pos zi, if_neg zs] at e
        have d1 := (hiso (i / 2).toNat).2
        have d2 := (hme (s / 2).toNat).2.2.2.2
        rw [← e, d1, (hiso (s / 2).toNat).2] at d2
        cases hq : drk W c <;> rw [hq] at d2 <;> exact absurd d2 (by decide)
    · by_cases zs : s % 2 = 0
      · rw [if_neg zi, if_pos zs] at e
        have d1 := (hiso (s / 2).toNat).2
        have d2 := (hme (i / 2).toNat).2.2.2.2
        rw [e, d1, (hiso (i / 2).toNat).2] at d2
        cases hq : drk W c <;> rw [hq] at d2 <;> exact absurd d2 (by decide)
      · rw [if_neg zi, if_neg zs] at e
        have e2 : eo W H pa pb c (i / 2).toNat = eo W H pa pb c (s / 2).toNat := by
          rw [← (hme (i / 2).toNat).2.2.1, e, (hme (s / 2).toNat).2.2.1]
        exact t3 _ _ (by omega) (by omega) e2
  · unfold xs
    rw [if_pos (by omega), show (2 * (t : Int) / 2).toNat = t by omega, t2]
  · rfl
  · rw [OB_t t1 t2]
    constructor
    · rintro ⟨i, hi, h | h⟩
      · refine ⟨2 * (i : Int), by omega, by omega, ?_⟩
        unfold xs
        rw [if_pos (by omega), show (2 * (i : Int) / 2).toNat = i by omega]; exact h
      · refine ⟨2 * (i : Int) + 1, by omega, by omega, ?_⟩
        unfold xs
        rw [if_neg (by omega), show ((2 * (i : Int) + 1) / 2).toNat = i by omega]; exact h
    · rintro ⟨i, i0, i1, h⟩
      unfold xs at h
      by_cases z : i % 2 = 0
      · rw [if_pos z] at h; exact ⟨(i / 2).toNat, by omega, Or.inl h⟩
      · rw [if_neg z] at h; exact ⟨(i / 2).toNat, by omega, Or.inr h⟩
theorem sm_up (g : Int → Int) (x v : Int) (x0 : 0 ≤ x) : ∀ n : Nat, sm n (fun q => if q = x then v else g q) = sm n g + if x < n then v - g x else 0 := by
  intro n
  induction n with
  | zero => rw [sm_z, sm_z, if_neg (by omega)]; rfl
  | succ n ih =>
    rw [sm_s, sm_s, ih]
    by_cases z : (n : Int) = x
    · rw [if_pos z, if_neg (by omega), if_pos (by omega), z]; omega
    · rw [if_neg z]
      by_cases y : x < n
      · rw [if_pos y, if_pos (by omega)]; omega
      · rw [if_neg y, if_neg (by omega)]; omega
def cnR (N : Int) (r : Int → Int) (j : Int) : Int := sI' N (fun q => bI (decide (r q = j)))
theorem cnR_up {N x n j : Int} {r : Int → Int} (x0 : 0 ≤ x) (x1 : x < N) (hr : r x ≠ j) : cnR N (fun q => if q = x then n else r q) j = cnR N r j + bI (decide (n = j)) := by
  unfold cnR sI'
  have e : (fun q => bI (decide ((if q = x then n else r q) = j))) = (fun q => if q = x then bI (decide (n = j)) else bI (decide (r q = j))) := by
    funext q
    by_cases z : q = x
    · rw [if_pos z, if_pos z]
    · rw [if_neg z, if_neg z]
  rw [e, sm_up (fun q => bI (decide (r q = j))) x _ x0, if_pos (by omega)]
  rw [decide_eq_false hr, show bI false = 0 from rfl]
  omega
theorem otherEnd_s {M : Mem} {W H : Int} {op : Int → Bool} (hy : YC M W H op) {p : Int → Int} (hp : Pav W H op p) {q : Int} (hq : iso W H op q = true) : m_X4_otherEnd M (p q) q = some (mt W H p q) := by
  have hW := hy.2.2.1
  have h8 := WH_le hW
  have hqr := (iso_t.mp hq).1
  obtain ⟨a1, a2, a3, a4, a5, a6, a7⟩ := hp.at hW hq
  obtain ⟨s1, s2, s3, s4, s5, s6, s7, s8⟩ := stn_t hW a1
  unfold m_X4_otherEnd mt
  rw [idv_p s1 (by omega) (by omega) (by omega), wr_id (x := p q / 2) (by omega) (by omega), wr_id (x := q) (by omega) (by omega), secondCell_s hy s1 (by omega), bd1_q, s8]
  by_cases z : p q / 2 = q
  · rw [if_pos z, if_pos z, bd1_q]
  · rw [if_neg z, if_neg z, bd1_q]
theorem mateIn_s {M : Mem} {W H : Int} {op : Int → Bool} (hy : YR M W H op) {s : Int} (s0 : 0 ≤ s) (s1' : s < 4) {p : Int → Int} (hp : Pav W H op p) (hon : ∀ q, iso W H op q = true → gI M 60 (64 * s + q) = p q) {q : Int} (hq : iso W H op q = true) : m_X12_mateIn M s q = some (mt W H p q) := by
  have hW := hy.2.2.1
  have h8 := WH_le hW
  have hqr := (iso_t.mp hq).1
  obtain ⟨a1, a2, a3, a4, a5, a6, a7⟩ := hp.at hW hq
  obtain ⟨s1, s2, s3, s4, s5, s6, s7, s8⟩ := stn_t hW a1
  unfold m_X12_mateIn mt
  rw [wr_id (x := 64 * s + q) (by omega) (by omega), if_pos (by omega), hon q hq, idv_p s1 (by omega) (by omega) (by omega), wr_id (x := p q / 2) (by omega) (by omega), wr_id (x := q) (by omega) (by omega), otherOf_s hy s1 (by omega), bd1_q]
  by_cases z : p q / 2 = q
  · rw [if_pos z, if_pos z, bd1_q]
  · rw [if_neg z, if_neg z, bd1_q]
noncomputable def rnew (W H : Int) (pa pb : Int → Int) (c n : Int) (r : Int → Int) : Int → Int := fun q => if bp (OB W H pa pb c q) = true then n else r q
theorem goRound_s {M : Mem} {W H : Int} {op : Int → Bool} {pa pb : Int → Int} (hy : YC M W H op) (ha : Pav W H op pa) (hb : Pav W H op pb) {a b : Nat} (la : 38 < a) (lb : 38 < b) (hna : ∀ q, iso W H op q = true → gI M (a + 1) q = pa q) (hnb : ∀ q, iso W H op q = true → gI M (b + 1) q = pb q) {c n : Int} {r : Int → Int} (hR : RG W H op pa pb c n r) (hc : iso W H op c = true) (hcr : r c < 0) (hn : n < 64) (hr : ∀ q, 0 ≤ q → q < 64 → gI M 36 q = r q) : ∃ M2, m_X4_goRound M a b c n = some (cnR (W * H) (rnew W H pa pb c n r) n, M2) ∧ (∀ q, 0 ≤ q → q < 64 → gI M2 36 q = rnew W H pa pb c n r q) ∧ Fr [36] M M2 ∧ 0 ≤ cnR (W * H) (rnew W H pa pb c n r) n ∧ cnR (W * H) (rnew W H pa pb c n r) n ≤ 64 := by
  have hW := hy.2.2.1
  have h8 := WH_le hW
  obtain ⟨t, t1, t2, t3, t4⟩ := eo_per hW ha hb hc
  obtain ⟨x1, x2, x3, x4, x5, x6, x7⟩ := xs_s hW ha hb hc t1 t2 t3
  have hu : ∀ s, 0 ≤ s → r (xs W H pa pb c s) = -1 := fun s s0 => OB_bare hW ha hb hR hc hcr (x1 s s0).2
  have n0 := hR.1
  obtain ⟨⟨m, at', st, M2⟩, e, g1, g2, g3, g4⟩ := for_g (f := fun s => m_X4_goRound_L10 s.2.2.2 a b n s.1 s.2.1 s.2.2.1) 0 (2 * (t : Int)) (fun s z => z.1 = s ∧ z.2.2.1 = s ∧ z.2.1 = xs W H pa pb c s ∧ ∃ r' : Int → Int, (∀ q, 0 ≤ q → q < 64 → gI z.2.2.2 36 q = r' q) ∧ (∀ q, (∃ i, 0 ≤ i ∧ i < s ∧ q = xs W H pa pb c i) → r' q = n) ∧ (∀ q, ¬ (∃ i, 0 ≤ i ∧ i < s ∧ q = xs W H pa pb c i) → r' q = r q) ∧ cnR (W * H) r' n = s ∧ Fr [36] M z.2.2.2) (fun z => z.1 = 2 * (t : Int) ∧ ∃ r' : Int → Int, (∀ q, 0 ≤ q → q < 64 → gI z.2.2.2 36 q = r' q) ∧ r' = rnew W H pa pb c n r ∧ cnR (W * H) r' n = 2 * t ∧ Fr [36] M z.2.2.2) (by
    rintro s ⟨m, at', st, M'⟩ s0 s1 ⟨g0, g1, g2, r', g3, g4, g5, g6, g7⟩
    dsimp only at g0 g1 g2 g3 g7
    subst g0
    subst g1
    subst g2
    left
    have hxi := (x1 st s0).1
    have hxr := (iso_t.mp hxi).1
    have f5 : Fr [36] M (sI M' 36 (xs W H pa pb c st) n) := g7.sI (by decide) rfl
    have hy' := hy.fr f5 (by decide) (by decide)
    have hnx : ¬ ∃ i, 0 ≤ i ∧ i < st ∧ xs W H pa pb c st = xs W H pa pb c i := fun ⟨i, i0, i1, i2⟩ => x4 i st i0 i1 s1 i2.symm
    have hrx : r' (xs W H pa pb c st) = -1 := (g5 _ hnx).trans (hu st s0)
    show ∃ s2, m_X4_goRound_L10 M' a b n st (xs W H pa pb c st) st = _ ∧ _
    unfold m_X4_goRound_L10
    rw [show wr 64 = 64 by decide, wr_id (x := st) (by omega) (by omega), if_neg (by omega), wr_id (x := xs W H pa pb c st) (by omega) (by omega), if_neg (by omega), if_pos (by omega), g3 _ (by omega) (by omega), hrx, if_neg (by decide), lt_q, irm_p s0 (by omega) (by omega) (by omega), wr_id (x := st % 2) (by omega) (by omega), gI_sI_ne (by omega), gI_sI_ne (by omega), fI g7 (by simp; omega), fI g7 (by simp; omega), hna _ hxi, hnb _ hxi, lt_q]
    have eM : ∃ w, bd1 (m_X4_otherEnd (sI M' 36 (xs W H pa pb c st) n) (if st % 2 = 0 then pa (xs W H pa pb c st) else pb (xs W H pa pb c st)) (xs W H pa pb c st)) (fun r9 => some (Sum.inl (st + 1, r9, st + 1, sI M' 36 (xs W H pa pb c st) n)) : Int → Option ((Int × Int × Int × Mem) ⊕ (Int × Int × Int × Mem))) = some (Sum.inl (st + 1, w, st + 1, sI M' 36 (xs W H pa pb c st) n)) ∧ w = xs W H pa pb c (st + 1) := by
      by_cases z : st % 2 = 0
      · rw [if_pos z, otherEnd_s hy' ha hxi, bd1_q]
        exact ⟨_, rfl, x2 st s0 z⟩
      · rw [if_neg z, otherEnd_s hy' hb hxi, bd1_q]
        exact ⟨_, rfl, x3 st s0 z⟩
    obtain ⟨w, ew, hw⟩ := eM
    rw [ew]
    refine ⟨_, rfl, rfl, rfl, hw, fun q => if q = xs W H pa pb c st then n else r' q, fun q q0 q1 => ?_, fun q hq => ?_, fun q hq => ?_, ?_, g7.sI (by decide) rfl⟩
    · dsimp only
      rw [gI_sI]
      by_cases z : q = xs W H pa pb c st
      · rw [if_pos ⟨rfl, z⟩, if_pos z]
      · rw [if_neg (fun y => z y.2), if_neg z]; exact g3 q q0 q1
    · dsimp only
      by_cases z : q = xs W H pa pb c st
      · rw [if_pos z]
      · rw [if_neg z]
        obtain ⟨i, i0, i1, i2⟩ := hq
        have : i ≠ st := fun y => z (by rw [← y]; exact i2)
        exact g4 q ⟨i, i0, by omega, i2⟩
    · dsimp only
      rw [if_neg (fun z => hq ⟨st, s0, by omega, z⟩)]
      exact g5 q (fun ⟨i, i0, i1, i2⟩ => hq ⟨i, i0, by omega, i2⟩)
    · rw [cnR_up (by omega) (by omega) (by omega), g6, decide_eq_true rfl]
      rfl) (by
    rintro ⟨m, at', st, M'⟩ ⟨g0, g1, g2, r', g3, g4, g5, g6, g7⟩
    dsimp only at g0 g1 g2 g3 g7
    have hr' : r' = rnew W H pa pb c n r := by
      funext q
      unfold rnew
      by_cases z : OB W H pa pb c q
      · rw [if_pos (bp_t.mpr z)]; exact g4 q ((x7 q).mp z)
      · rw [if_neg (fun y => z (bp_t.mp y))]; exact g5 q (fun y => z ((x7 q).mpr y))
    refine ⟨(m, at', st, M'), ?_, g0, r', g3, hr', g6, g7⟩
    show m_X4_goRound_L10 M' a b n m at' st = _
    unfold m_X4_goRound_L10
    have hcr' := (iso_t.mp hc).1
    rw [g1, g2, x5, show wr 64 = 64 by decide, wr_id (x := 2 * (t : Int)) (by omega) (by omega)]
    by_cases z : 64 ≤ 2 * (t : Int)
    · rw [if_pos z]
    · rw [if_neg z, wr_id (x := c) (by omega) (by omega), if_neg (by omega), if_pos (by omega), g3 c (by omega) (by omega), g4 c ⟨0, by omega, by omega, x6.symm⟩, wr_id (x := n) (by omega) (by omega), if_pos n0]) (by omega) (by omega) (s0 := (0, c, 0, M)) ⟨rfl, rfl, x6.symm, r, hr, fun q ⟨i, i0, i1, _⟩ => by omega, fun q _ => rfl, by
      unfold cnR sI'
      have key : ∀ k : Nat, sm k (fun q => bI (decide (r q = n))) = 0 := by
        intro k
        induction k with
        | zero => rfl
        | succ k ih =>
          rw [sm_s, ih]
          have := hR.2.2.1 (k : Int)
          rw [decide_eq_false (by omega)]
          rfl
      exact key _, Fr.rf⟩
  dsimp only at g1 g4
  obtain ⟨h1, h2, h3, h4⟩ := (show (∀ q, 0 ≤ q → q < 64 → gI M2 36 q = g2 q) ∧ g2 = rnew W H pa pb c n r ∧ cnR (W * H) g2 n = 2 * t ∧ Fr [36] M M2 from ⟨g3, g4⟩)
  unfold m_X4_goRound
  rw [e, bd4_q]
  subst h2
  refine ⟨M2, ?_, h1, h4, by omega, by omega⟩
  rw [h3, g1]
