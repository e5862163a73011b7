/-! height, far -/
/-- heights of one slot, for both sides -/
theorem hts {M : Mem} {W H : Int} {op : Int → Bool} {p : Int → Int} (hy : YR M W H op) (hw : Who W H op) (hp : Pav W H op p) : ∃ ph f0, PHt W H op p ph ∧ fcr W H op f0 := by
  obtain ⟨ph, h⟩ := pot_PH hy hw hp
  obtain ⟨f0, hf⟩ := fcr_ex hy.2.2.1 hw
  exact ⟨ph, f0, h, hf⟩
theorem op_height {M : Mem} (hI : Inv M) {a x y : Int} (ha : -2147483648 ≤ a) (ha2 : a ≤ 2147483647) (hx : -2147483648 ≤ x) (hx2 : x ≤ 2147483647) (hy : -2147483648 ≤ y) (hy2 : y ≤ 2147483647) : OpI (fun M => m_X11_height M a x y) (fun M => m_X12_height M a x y) M := by
  have hI' := hI
  obtain ⟨W, H, op, wa, pr, hd, on, ts, tp, ln, sz, it, hA⟩ := hI'
  have hA' := hA
  obtain ⟨hC, hR, hwf, hD, hS⟩ := hA'
  have hW := hwf.1.1
  have w8 := hW.2.1
  have h8 := hW.2.2.2
  unfold OpI m_X11_height m_X12_height
  dsimp only
  rw [isSlot_s ha ha2, bd1_q, isCornerC_s hC.1.1 hx hx2 hy hy2, bd1_q, wr_id ha ha2]
  simp only [wrb, isSlotR_s ha ha2, bd1_q]
  by_cases c1 : 0 ≤ a ∧ a < 4
  rotate_left
  · rw [decide_eq_false c1]
    exact ⟨-1001, M, M, rfl, rfl, hI⟩
  rw [decide_eq_true c1]
  simp only [if_tf]
  cases hc : crn W H op x y
  · refine ⟨-1001, M, M, rfl, ?_, hI⟩
    rw [isCrnR_s hR.1.1 hx hx2 hy hy2, bd1_q, hc]; rfl
  have hcr := crn_r hc
  rw [if_tf]
  obtain ⟨M1, e1, f1⟩ := wholeFault_s hC.1.1 hC.2.1.1 ha ha2 ha ha2
  rw [e1, bd2_q]
  have hC1 := hC.fr f1 (by decide)
  have hR1 := hR.fr f1 (by decide)
  rcases wf_c (hd := hd) (P := Who W H op) (a := a) (b := a) with ⟨e, c⟩ | ⟨e, c, d⟩ | ⟨e, c, d, nw⟩ | ⟨e, c, d, w⟩
  · exact absurd ⟨c1.1, c1.2, c1⟩ c
  · obtain ⟨M2, e2, f2⟩ := refuses_s hR1.1.1 hR1.2.1.1 c1.1 c1.2
    refine ⟨-1004, M1, M2, by rw [e]; rfl, ?_, W, H, op, wa, pr, hd, on, ts, tp, ln, sz, it, hA.quiet f1 f2 (by decide) (by decide)⟩
    rw [isCrnR_s hR1.1.1 hx hx2 hy hy2, bd1_q, hc, if_tf, e2, bd2_q, e]; rfl
  · obtain ⟨M2, e2, f2⟩ := refuses_s hR1.1.1 hR1.2.1.1 c1.1 c1.2
    refine ⟨-1002, M1, M2, by rw [e]; rfl, ?_, W, H, op, wa, pr, hd, on, ts, tp, ln, sz, it, hA.quiet f1 f2 (by decide) (by decide)⟩
    rw [isCrnR_s hR1.1.1 hx hx2 hy hy2, bd1_q, hc, if_tf, e2, bd2_q, e]; rfl
  · have hp := hwf.2.1 a c1.1 c1.2 d.1
    obtain ⟨ph, f0, hph, hf⟩ := hts hR1.1.1 w hp
    obtain ⟨M2, e2, g2, hb⟩ := measure_s hC1.1.1 w hp hph (a := 39 + 2 * a.toNat) (to := 29) (Or.inl rfl) (by omega) (hC1.2.1.2 a c1.1 c1.2 d.1) hf
    have f2 := fr_X1_measure e2
    have f12 : Fr [25, 26, 27, 29, 31, 32, 33] M M2 := (f1.mono (by decide)).trans f2 (by decide)
    have hR2 := hR.fr f12 (by decide)
    obtain ⟨M3, e3, f3⟩ := refuses_s hR2.1.1 hR2.2.1.1 c1.1 c1.2
    have hR3 := hR2.fr f3 (by decide)
    obtain ⟨M4, e4, g4⟩ := rises_s w hf (s := a) (M := M3) ⟨hR3.1.1, hp, hph, hR3.2.1.2 a c1.1 c1.2 d.1, c1, hb⟩
    have f4 := fr_X12_rises e4
    have f34 : Fr [71, 72, 73] M2 M4 := (f3.mono (by decide)).trans f4 (by decide)
    have e9 : (9 * y + x) % 9 = x ∧ (9 * y + x) / 9 = y := by omega
    refine ⟨PQ ph (9 * y + x) - PQ ph f0, M2, M4, ?_, ?_, W, H, op, wa, pr, hd, on, ts, tp, ln, sz, it, hA.quiet f12 f34 (by decide) (by decide)⟩
    · rw [e, if_pos (by decide), if_pos c1, e2, bd1_q, show y * 9 + x = 9 * y + x by omega, wr_id (x := 9 * y + x) (by omega) (by omega), if_pos (by omega), g2 _ (by omega) (by omega), e9.1, e9.2, if_pos hc]
    · rw [isCrnR_s hR2.1.1 hx hx2 hy hy2, bd1_q, hc, if_tf, e3, bd2_q, e, if_pos (by decide), e4, bd1_q, wr_id (x := 9 * y + x) (by omega) (by omega), if_pos (by omega), g4 _ (by omega) (by omega), e9.1, e9.2, if_pos hc]
/-- a corner's part in the distance -/
def dA (W H : Int) (op : Int → Bool) (A B : Int → Int) (q : Int) : Int := if crn W H op (q % 9) (q / 9) = true then (if 0 ≤ A q - B q then A q - B q else -(A q - B q)) else 0
theorem dA_b {W H : Int} {op : Int → Bool} {A B : Int → Int} (hA : ∀ q, CO W H op q → -80 ≤ A q ∧ A q ≤ 80) (hB : ∀ q, CO W H op q → -80 ≤ B q ∧ B q ≤ 80) {q : Int} (q0 : 0 ≤ q) (q1 : q < 81) : 0 ≤ dA W H op A B q ∧ dA W H op A B q ≤ 160 := by
  unfold dA
  by_cases c : crn W H op (q % 9) (q / 9) = true
  · have h1 := hA q ⟨q0, q1, c⟩
    have h2 := hB q ⟨q0, q1, c⟩
    rw [if_pos c]
    split <;> omega
  · rw [if_neg c]; omega
theorem dA_s {W H : Int} {op : Int → Bool} {A B : Int → Int} (hA : ∀ q, CO W H op q → -80 ≤ A q ∧ A q ≤ 80) (hB : ∀ q, CO W H op q → -80 ≤ B q ∧ B q ≤ 80) : ∀ n : Nat, n ≤ 81 → 0 ≤ sm n (dA W H op A B) ∧ sm n (dA W H op A B) ≤ 160 * n ∧ ∀ q : Int, 0 ≤ q → q < n → dA W H op A B q ≤ sm n (dA W H op A B) := by
  intro n
  induction n with
  | zero => intro _; rw [sm_z]; exact ⟨by omega, by omega, fun q q0 q1 => by omega⟩
  | succ n ih =>
    intro hn
    obtain ⟨i1, i2, i3⟩ := ih (by omega)
    have hb := dA_b hA hB (q := (n : Int)) (by omega) (by omega)
    rw [sm_s]
    refine ⟨by omega, by omega, fun q q0 q1 => ?_⟩
    by_cases z : q = n
    · rw [z]; omega
    · have := i3 q q0 (by omega); omega
def hgt (ph : Int → Int → Int) (f0 q : Int) : Int := PQ ph q - PQ ph f0
/-- both heights, in the class -/
theorem twoC_s {M : Mem} {W H : Int} {op : Int → Bool} {p p' : Int → Int} {ph ph' : Int → Int → Int} {f0 : Int} (hy : YC M W H op) (hw : Who W H op) (hp : Pav W H op p) (hp' : Pav W H op p') (hph : PHt W H op p ph) (hph' : PHt W H op p' ph') (hf : fcr W H op f0) {a b : Nat} (haa : 38 < a) (hbb : 38 < b) (ha : ∀ q, iso W H op q = true → gI M (a + 1) q = p q) (hb : ∀ q, iso W H op q = true → gI M (b + 1) q = p' q) : ∃ M2 M4, m_X1_measure M a 29 = some M2 ∧ m_X1_measure M2 b 30 = some M4 ∧ (∀ q, 0 ≤ q → q < 81 → gI M4 29 q = if crn W H op (q % 9) (q / 9) = true then hgt ph f0 q else 0) ∧ (∀ q, 0 ≤ q → q < 81 → gI M4 30 q = if crn W H op (q % 9) (q / 9) = true then hgt ph' f0 q else 0) ∧ (∀ q, CO W H op q → -80 ≤ hgt ph f0 q ∧ hgt ph f0 q ≤ 80) ∧ (∀ q, CO W H op q → -80 ≤ hgt ph' f0 q ∧ hgt ph' f0 q ≤ 80) ∧ Fr [29, 30, 31, 32, 33] M M4 := by
  obtain ⟨M2, e2, g2, b2⟩ := measure_s hy hw hp hph (a := a) (to := 29) (Or.inl rfl) haa ha hf
  have f2 := fr_X1_measure e2
  obtain ⟨M4, e4, g4, b4⟩ := measure_s (hy.fr f2 (by decide) (by decide)) hw hp' hph' (a := b) (to := 30) (Or.inr rfl) hbb (fun q hq => (fI f2 (by simp; omega) q).trans (hb q hq)) hf
  have f4 := fr_X1_measure e4
  refine ⟨M2, M4, e2, e4, fun q q0 q1 => ?_, g4, b2, b4, (f2.mono (by decide)).trans f4 (by decide)⟩
  rw [fI f4 (by decide)]; exact g2 q q0 q1
theorem distance_s {M : Mem} {W H : Int} {op : Int → Bool} {p p' : Int → Int} {ph ph' : Int → Int → Int} {f0 : Int} (hy : YC M W H op) (hw : Who W H op) (hp : Pav W H op p) (hp' : Pav W H op p') (hph : PHt W H op p ph) (hph' : PHt W H op p' ph') (hf : fcr W H op f0) {a b : Nat} (haa : 38 < a) (hbb : 38 < b) (ha : ∀ q, iso W H op q = true → gI M (a + 1) q = p q) (hb : ∀ q, iso W H op q = true → gI M (b + 1) q = p' q) : ∃ M2, m_X1_distance M a b = some (sm 81 (dA W H op (hgt ph f0) (hgt ph' f0)) / 4, M2) ∧ (∀ q, CO W H op q → -80 ≤ hgt ph f0 q ∧ hgt ph f0 q ≤ 80) ∧ (∀ q, CO W H op q → -80 ≤ hgt ph' f0 q ∧ hgt ph' f0 q ≤ 80) := by
  obtain ⟨M2, M4, e2, e4, g1, g2, b1, b2, f⟩ := twoC_s hy hw hp hp' hph hph' hf haa hbb ha hb
  have hs := dA_s b1 b2 81 (Nat.le_refl _)
  have es := for_S (f := fun s => m_X1_distance_L26 M4 s.1 s.2) 81 (dA W H op (hgt ph f0) (hgt ph' f0)) (fun i x i0 i1 => by
    show m_X1_distance_L26 M4 x i = _
    unfold m_X1_distance_L26
    have hv : iab ((if crn W H op (i % 9) (i / 9) = true then hgt ph f0 i else 0) - (if crn W H op (i % 9) (i / 9) = true then hgt ph' f0 i else 0)) = dA W H op (hgt ph f0) (hgt ph' f0) i := by
      unfold dA iab
      by_cases c : crn W H op (i % 9) (i / 9) = true
      · have h1 := b1 i ⟨i0, i1, c⟩
        have h2 := b2 i ⟨i0, i1, c⟩
        rw [if_pos c, if_pos c, if_pos c, wr_id (x := hgt ph f0 i - hgt ph' f0 i) (by omega) (by omega)]
      · rw [if_neg c, if_neg c, if_neg c]; rfl
    rw [show wr 81 = 81 by decide, wr_id (x := i) (by omega) (by omega), if_neg (by omega), if_pos (by omega), g1 i i0 i1, g2 i i0 i1, hv]) (fun x => by
    show m_X1_distance_L26 M4 x 81 = _
    unfold m_X1_distance_L26
    rw [if_pos (by decide)]) (by omega) (by omega)
  unfold m_X1_distance
  rw [e2, bd1_q, e4, bd1_q, es, bd2_q]
  refine ⟨M4, ?_, b1, b2⟩
  have : sI' 81 (dA W H op (hgt ph f0) (hgt ph' f0)) = sm 81 (dA W H op (hgt ph f0) (hgt ph' f0)) := rfl
  rw [this, idv_p hs.1 (by omega) (by omega) (by omega)]
theorem farOf_s {M : Mem} {W H : Int} {op : Int → Bool} {p p' : Int → Int} {ph ph' : Int → Int → Int} {f0 a b : Int} (hw : Who W H op) (hf : fcr W H op f0) (hR : RC W H op p ph f0 a M) (hR' : RC W H op p' ph' f0 b M) : ∃ M2, m_X12_farOf M a b = some (sm 81 (dA W H op (hgt ph f0) (hgt ph' f0)) / 4, M2) ∧ (∀ q, 0 ≤ q → q < 81 → gI M2 74 q = if crn W H op (q % 9) (q / 9) = true then hgt ph f0 q else -1000) ∧ (∀ q, 0 ≤ q → q < 81 → gI M2 73 q = if crn W H op (q % 9) (q / 9) = true then hgt ph' f0 q else -1000) := by
  have b1 : ∀ q, CO W H op q → -80 ≤ hgt ph f0 q ∧ hgt ph f0 q ≤ 80 := hR.2.2.2.2.2
  have b2 : ∀ q, CO W H op q → -80 ≤ hgt ph' f0 q ∧ hgt ph' f0 q ≤ 80 := hR'.2.2.2.2.2
  have hs := dA_s b1 b2 81 (Nat.le_refl _)
  obtain ⟨M1, e1, g1⟩ := rises_s hw hf hR
  have f1 := fr_X12_rises e1
  obtain ⟨M2, e2, g2, f2⟩ := for_M (f := fun t => m_X12_farOf_L7 t.2 b t.1) 0 81 (fun i M' => (∀ q, 0 ≤ q → q < i → gI M' 74 q = gI M1 73 q) ∧ Fr [74] M1 M') (fun i M' i0 i1 hI => by
    show ∃ M2, m_X12_farOf_L7 M' b i = _ ∧ _
    unfold m_X12_farOf_L7
    rw [show wr 81 = 81 by decide, wr_id (x := i) (by omega) (by omega), if_neg (by omega), if_pos (by omega), lt_q]
    refine ⟨_, rfl, fun x x0 x1 => ?_, hI.2.sI (by decide) rfl⟩
    rw [gI_sI]
    by_cases z : x = i
    · rw [if_pos ⟨rfl, z⟩, z, fI hI.2 (by decide)]
    · rw [if_neg (fun q => z q.2)]; exact hI.1 x x0 (by omega)) (fun M' hI => by
    show m_X12_farOf_L7 M' b 81 = _
    unfold m_X12_farOf_L7
    rw [if_pos (by decide)]) (by omega) (by omega) (M0 := M1) ⟨fun x x0 x1 => by omega, Fr.rf⟩
  have f12 : Fr [73, 74] M M2 := (f1.mono (by decide)).trans f2 (by decide)
  obtain ⟨M3, e3, g3⟩ := rises_s (s := b) (M := M2) hw hf ⟨hR'.1.fr f12 (by decide) (by decide), hR'.2.1, hR'.2.2.1, fun q hq => (fI f12 (by decide) _).trans (hR'.2.2.2.1 q hq), hR'.2.2.2.2⟩
  have f3 := fr_X12_rises e3
  have g3' : ∀ q, 0 ≤ q → q < 81 → gI M3 73 q = if crn W H op (q % 9) (q / 9) = true then hgt ph' f0 q else -1000 := g3
  have g74 : ∀ q, 0 ≤ q → q < 81 → gI M3 74 q = if crn W H op (q % 9) (q / 9) = true then hgt ph f0 q else -1000 := fun q q0 q1 => by
    rw [fI f3 (by decide), g2 q q0 q1]; exact g1 q q0 q1
  have es := for_S (f := fun s => m_X12_farOf_L41 M3 s.1 s.2) 81 (dA W H op (hgt ph f0) (hgt ph' f0)) (fun i x i0 i1 => by
    show m_X12_farOf_L41 M3 x i = _
    unfold m_X12_farOf_L41
    have hv : (if 0 ≤ wr ((if crn W H op (i % 9) (i / 9) = true then hgt ph' f0 i else -1000) - (if crn W H op (i % 9) (i / 9) = true then hgt ph f0 i else -1000)) then (if crn W H op (i % 9) (i / 9) = true then hgt ph' f0 i else -1000) - (if crn W H op (i % 9) (i / 9) = true then hgt ph f0 i else -1000) else -((if crn W H op (i % 9) (i / 9) = true then hgt ph' f0 i else -1000) - (if crn W H op (i % 9) (i / 9) = true then hgt ph f0 i else -1000))) = dA W H op (hgt ph f0) (hgt ph' f0) i := by
      unfold dA
      by_cases c : crn W H op (i % 9) (i / 9) = true
      · have h1 := b1 i ⟨i0, i1, c⟩
        have h2 := b2 i ⟨i0, i1, c⟩
        simp only [if_pos c]
        rw [wr_id (x := hgt ph' f0 i - hgt ph f0 i) (by omega) (by omega)]
        by_cases z : 0 ≤ hgt ph' f0 i - hgt ph f0 i
        · rw [if_pos z]
          by_cases y : 0 ≤ hgt ph f0 i - hgt ph' f0 i
          · rw [if_pos y]; omega
          · rw [if_neg y]; omega
        · rw [if_neg z, if_pos (by omega)]; omega
      · simp only [if_neg c]; rfl
    rw [show wr 81 = 81 by decide, wr_id (x := i) (by omega) (by omega), if_neg (by omega), if_pos (by omega), g74 i i0 i1, g3' i i0 i1, hv, lt_q]) (fun x => by
    show m_X12_farOf_L41 M3 x 81 = _
    unfold m_X12_farOf_L41
    rw [if_pos (by decide)]) (by omega) (by omega)
  unfold m_X12_farOf
  rw [e1, bd1_q, e2, bd2_q, e3, bd1_q, es, bd2_q]
  refine ⟨M3, ?_, g74, g3'⟩
  have : sI' 81 (dA W H op (hgt ph f0) (hgt ph' f0)) = sm 81 (dA W H op (hgt ph f0) (hgt ph' f0)) := rfl
  rw [this, idv_p hs.1 (by omega) (by omega) (by omega)]
theorem op_far {M : Mem} (hI : Inv M) {a b : Int} (ha : -2147483648 ≤ a) (ha2 : a ≤ 2147483647) (hb : -2147483648 ≤ b) (hb2 : b ≤ 2147483647) : OpI (fun M => m_X11_far M a b) (fun M => m_X12_far M a b) M := by
  have hI' := hI
  obtain ⟨W, H, op, wa, pr, hd, on, ts, tp, ln, sz, it, hA⟩ := hI'
  have hA' := hA
  obtain ⟨hC, hR, hwf, hD, hS⟩ := hA'
  have hW := hwf.1.1
  unfold OpI m_X11_far m_X12_far
  dsimp only
  obtain ⟨M1, e1, f1⟩ := wholeFault_s hC.1.1 hC.2.1.1 ha ha2 hb hb2
  rw [e1, bd2_q, wr_id ha ha2, wr_id hb hb2]
  have hC1 := hC.fr f1 (by decide)
  have hR1 := hR.fr f1 (by decide)
  have hsf : ∀ M', RS M' W H op wa pr hd on ts tp ln sz it → m_X12_refusesBoth M' a b = some (sfl hd a b) := fun M' h => refusesBoth_s h.2.1.1 ha ha2 hb hb2
  rcases wf_c (hd := hd) (P := Who W H op) (a := a) (b := b) with ⟨e, c⟩ | ⟨e, c, d⟩ | ⟨e, c, d, nw⟩ | ⟨e, c, d, w⟩
  · have es : sfl hd a b = -1 := by unfold sfl; rw [if_neg c]
    refine ⟨-1, M1, M1, by rw [e]; rfl, ?_, W, H, op, wa, pr, hd, on, ts, tp, ln, sz, it, hA.quiet f1 (Fr.rf (ks := [])) (by decide) (by decide)⟩
    rw [hsf M1 hR1, bd1_q, es]; rfl
  · have es : sfl hd a b = -4 := by unfold sfl; rw [if_pos c, if_neg d]
    refine ⟨-4, M1, M1, by rw [e]; rfl, ?_, W, H, op, wa, pr, hd, on, ts, tp, ln, sz, it, hA.quiet f1 (Fr.rf (ks := [])) (by decide) (by decide)⟩
    rw [hsf M1 hR1, bd1_q, es]; rfl
  · have es : sfl hd a b = 0 := by unfold sfl; rw [if_pos c, if_pos d]
    obtain ⟨M2, e2, f2⟩ := isWholeR_s hR1.1.1
    refine ⟨-2, M1, M2, by rw [e]; rfl, ?_, W, H, op, wa, pr, hd, on, ts, tp, ln, sz, it, hA.quiet f1 f2 (by decide) (by decide)⟩
    rw [hsf M1 hR1, bd1_q, es, if_pos (by decide), e2, bd2_q, bp_f.mpr nw]; rfl
  · have es : sfl hd a b = 0 := by unfold sfl; rw [if_pos c, if_pos d]
    have hp := hwf.2.1 a c.1 c.2.1 d.1
    have hp' := hwf.2.1 b c.2.2.1 c.2.2.2 d.2
    obtain ⟨ph, f0, hph, hf⟩ := hts hR1.1.1 w hp
    obtain ⟨ph', -, hph', -⟩ := hts hR1.1.1 w hp'
    obtain ⟨M2, e2, b1, b2⟩ := distance_s hC1.1.1 w hp hp' hph hph' hf (a := 39 + 2 * a.toNat) (b := 39 + 2 * b.toNat) (by omega) (by omega) (hC1.2.1.2 a c.1 c.2.1 d.1) (hC1.2.1.2 b c.2.2.1 c.2.2.2 d.2)
    have f2 := fr_X1_distance e2
    have f12 : Fr [25, 26, 27, 29, 30, 31, 32, 33] M M2 := (f1.mono (by decide)).trans f2 (by decide)
    have hR2 := hR.fr f12 (by decide)
    obtain ⟨M3, e3, f3⟩ := isWholeR_s hR2.1.1
    have hR3 := hR2.fr f3 (by decide)
    obtain ⟨M4, e4, -, -⟩ := farOf_s w hf (a := a) (b := b) (M := M3) ⟨hR3.1.1, hp, hph, hR3.2.1.2 a c.1 c.2.1 d.1, ⟨c.1, c.2.1⟩, b1⟩ ⟨hR3.1.1, hp', hph', hR3.2.1.2 b c.2.2.1 c.2.2.2 d.2, c.2.2, b2⟩
    have f4 := fr_X12_farOf e4
    have f34 : Fr [71, 72, 73, 74] M2 M4 := (f3.mono (by decide)).trans f4 (by decide)
    refine ⟨sm 81 (dA W H op (hgt ph f0) (hgt ph' f0)) / 4, M2, M4, ?_, ?_, W, H, op, wa, pr, hd, on, ts, tp, ln, sz, it, hA.quiet f12 f34 (by decide) (by decide)⟩
    · rw [e, if_pos (by decide), if_pos ⟨c.1, c.2.1⟩, if_pos c.2.2, e2, bd2_q, bd2_q]
    · rw [hsf M2 hR2, bd1_q, es, if_pos (by decide), e3, bd2_q, bp_t.mpr w, e4]; rfl
