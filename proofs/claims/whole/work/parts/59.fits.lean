/-! which bricks may lie -/
noncomputable def ftk (W H : Int) (op : Int → Bool) (wa : Int → Int) (i b : Int) : Bool := stn W H op b && decide (wa b ≠ 2) && bp (∀ d : Int, 0 ≤ d → d < i → wa d = 1 → d = b ∨ djt W H b d)
theorem ftk_0 {W H : Int} {op : Int → Bool} {wa : Int → Int} (b : Int) : ftk W H op wa 0 b = (stn W H op b && decide (wa b ≠ 2)) := by
  unfold ftk
  rw [bp_t.mpr (fun d a b => by omega), Bool.and_true]
theorem ftk_s1 {W H : Int} {op : Int → Bool} {wa : Int → Int} {i : Int} (h0 : 0 ≤ i) (h : wa i = 1) (b : Int) : ftk W H op wa (i + 1) b = (ftk W H op wa i b && bp (i = b ∨ djt W H b i)) := by
  unfold ftk
  rw [Bool.and_assoc (stn W H op b && decide (wa b ≠ 2))]
  congr 1
  apply Bool.eq_iff_iff.mpr
  rw [Bool.and_eq_true, bp_t, bp_t, bp_t]
  constructor
  · intro q
    exact ⟨fun d a b c => q d a (by omega) c, q i h0 (by omega) h⟩
  · rintro ⟨q1, q2⟩ d a b c
    by_cases e : d = i
    · rw [e]; exact q2
    · exact q1 d a (by omega) c
theorem ftk_s0 {W H : Int} {op : Int → Bool} {wa : Int → Int} {i : Int} (h : wa i ≠ 1) (b : Int) : ftk W H op wa (i + 1) b = ftk W H op wa i b := by
  unfold ftk
  congr 1
  apply bp_congr
  constructor
  · intro q d a b c; exact q d a (by omega) c
  · intro q d a b c
    by_cases e : d = i
    · rw [e] at c; exact absurd c h
    · exact q d a (by omega) c
theorem ftk_all {W H : Int} {op : Int → Bool} {wa pr : Int → Int} (hw : WFy W H op wa pr) {i : Int} (hi : 2 * (W * H) ≤ i) (hi2 : i ≤ 128) (b : Int) : ftk W H op wa i b = fit W H op wa b := by
  unfold ftk fit
  congr 1
  apply bp_congr
  constructor
  · intro q d a b c; exact q d a (by omega) c
  · intro q d a b c
    have := (hw.2 d a (by omega)).2.2.2.2 (by omega)
    have := stn_t hw.1 this
    exact q d a (by omega) c
theorem fit_stn {W H : Int} {op : Int → Bool} {wa : Int → Int} {b : Int} (h : fit W H op wa b = true) : stn W H op b = true := by
  unfold fit at h
  simp only [Bool.and_eq_true] at h
  exact h.1.1
def tch (W H c b : Int) : Prop := b / 2 = c ∨ oth W H b = c
theorem hit_tch {W H c b : Int} (h : WHr W H) (h0 : 0 ≤ c) (hc : c < W * H) (b0 : 0 ≤ b) (b1 : b < 2 * (W * H)) : (∃ k, 0 ≤ k ∧ k < 4 ∧ bro W c k = b) ↔ tch W H c b := by
  rw [bro_hit h h0 hc b0]
  unfold tch
  constructor
  · rintro (e | e | ⟨q, e⟩ | ⟨q, e⟩)
    · left; omega
    · left; omega
    · right
      obtain ⟨a1, a2, a3, a4⟩ := h
      unfold oth
      rw [e]
      rcases W8 a1 a2 with rfl | rfl | rfl | rfl | rfl | rfl | rfl | rfl <;> (split <;> split <;> omega)
    · right
      obtain ⟨a1, a2, a3, a4⟩ := h
      unfold oth
      rw [e]
      rcases W8 a1 a2 with rfl | rfl | rfl | rfl | rfl | rfl | rfl | rfl <;> (split <;> split <;> omega)
  · rintro (e | e)
    · omega
    · exact Or.inr (Or.inr (oth_hit h b0 b1 h0 e))
theorem djt_tch {W H b i : Int} : ¬ djt W H b i ↔ (tch W H (i / 2) b ∨ tch W H (oth W H i) b) := by
  unfold djt tch
  omega
theorem dropOthers_s {M : Mem} {W H : Int} {op : Int → Bool} (hy : YC M W H op) {c i : Int} (h0 : 0 ≤ c) (hc : c < W * H) (hi : wr i = i) : ∃ M2, m_X7_dropOthers M c i = some M2 ∧ ∀ b, 0 ≤ b → b < 2 * (W * H) → (b ≠ i ∧ tch W H c b → gI M2 11 b = 0) ∧ (¬ (b ≠ i ∧ tch W H c b) → gI M2 11 b = gI M 11 b) := by
  have hW := hy.2.2.1
  have h8 := WH_le hW
  unfold m_X7_dropOthers
  rw [wr_id (x := c) (by omega) (by omega), if_pos h0]
  obtain ⟨M2, e2, h2, f2⟩ := for_M (f := fun s => m_X7_dropOthers_L8 s.2 c i s.1) 0 4 (fun k M' => (∀ b, 0 ≤ b → b < 128 → ((∃ q, 0 ≤ q ∧ q < k ∧ bro W c q = b) ∧ b ≠ i → gI M' 11 b = 0) ∧ (¬ ((∃ q, 0 ≤ q ∧ q < k ∧ bro W c q = b) ∧ b ≠ i) → gI M' 11 b = gI M 11 b)) ∧ Fr [11] M M') (fun k M' k0 k1 hI => by
    show ∃ M2, m_X7_dropOthers_L8 M' c i k = _ ∧ _
    unfold m_X7_dropOthers_L8
    rw [show wr 4 = 4 by decide, wr_id (x := k) (by omega) (by omega), if_neg (by omega), brickOn_s (hy.fr hI.2 (by decide) (by decide)) h0 (by omega) k0 k1, bd1_q, hi]
    rcases bro_r (k := k) hW h0 hc with q | ⟨q, q2⟩
    · rw [q, show wr (-1) = -1 by decide, if_pos (by decide), bd1_q]
      refine ⟨M', rfl, fun b b0 b1 => ?_, hI.2⟩
      have : (∃ q, 0 ≤ q ∧ q < k + 1 ∧ bro W c q = b) ↔ (∃ q, 0 ≤ q ∧ q < k ∧ bro W c q = b) := by
        constructor
        · rintro ⟨z, z0, z1, z2⟩
          have : z ≠ k := fun e => by rw [e, q] at z2; omega
          exact ⟨z, z0, by omega, z2⟩
        · rintro ⟨z, z0, z1, z2⟩; exact ⟨z, z0, by omega, z2⟩
      rw [this]
      exact hI.1 b b0 b1
    · rw [wr_id (x := bro W c k) (by omega) (by omega), if_neg (by omega)]
      by_cases ei : bro W c k = i
      · rw [if_pos ei, bd1_q]
        refine ⟨M', rfl, fun b b0 b1 => ?_, hI.2⟩
        have : ((∃ q, 0 ≤ q ∧ q < k + 1 ∧ bro W c q = b) ∧ b ≠ i) ↔ ((∃ q, 0 ≤ q ∧ q < k ∧ bro W c q = b) ∧ b ≠ i) := by
          constructor
          · rintro ⟨⟨z, z0, z1, z2⟩, z3⟩
            have : z ≠ k := fun e => by rw [e, ei] at z2; exact z3 z2.symm
            exact ⟨⟨z, z0, by omega, z2⟩, z3⟩
          · rintro ⟨⟨z, z0, z1, z2⟩, z3⟩; exact ⟨⟨z, z0, by omega, z2⟩, z3⟩
        rw [this]
        exact hI.1 b b0 b1
      · rw [if_neg ei, if_pos (by omega), lt_q, bd1_q]
        refine ⟨_, rfl, fun b b0 b1 => ⟨fun hz => ?_, fun hz => ?_⟩, hI.2.sI (by decide) rfl⟩
        · rw [gI_sI]
          by_cases e : b = bro W c k
          · rw [if_pos ⟨rfl, e⟩]
          · rw [if_neg (fun z => e z.2)]
            obtain ⟨⟨z, z0, z1, z2⟩, z3⟩ := hz
            have : z ≠ k := fun e2 => by rw [e2] at z2; exact e z2.symm
            exact (hI.1 b b0 b1).1 ⟨⟨z, z0, by omega, z2⟩, z3⟩
        · have e : b ≠ bro W c k := fun e => hz ⟨⟨k, k0, by omega, e.symm⟩, fun z => ei (by rw [← e]; exact z)⟩
          rw [gI_sI, if_neg (fun z => e z.2)]
          exact (hI.1 b b0 b1).2 (fun ⟨⟨z, z0, z1, z2⟩, z3⟩ => hz ⟨⟨z, z0, by omega, z2⟩, z3⟩)) (fun M' hI => by
    show m_X7_dropOthers_L8 M' c i 4 = _
    unfold m_X7_dropOthers_L8
    rw [if_pos (by decide)]) (by omega) (by omega) (M0 := M) ⟨fun b b0 b1 => ⟨fun ⟨⟨z, z0, z1, z2⟩, z3⟩ => by omega, fun _ => rfl⟩, Fr.rf⟩
  rw [e2, bd2_q]
  refine ⟨M2, rfl, fun b b0 b1 => ?_⟩
  have := h2 b b0 (by omega)
  rw [hit_tch hW h0 hc b0 b1] at this
  exact ⟨fun z => this.1 ⟨z.2, z.1⟩, fun z => this.2 (fun y => z ⟨y.2, y.1⟩)⟩
theorem findFits_s {M : Mem} {W H : Int} {op : Int → Bool} {wa pr : Int → Int} (hy : YSc M W H op wa pr) (hw : WFy W H op wa pr) : ∃ M2, m_X7_findFits M = some M2 ∧ FTc M2 W H (fit W H op wa) := by
  have hW := hw.1
  have h8 := WH_le hW
  have ec : 2 * m_X10_cells M = 2 * (W * H) := by unfold m_X10_cells; rw [hy.1.1, hy.1.2.1]
  unfold m_X7_findFits
  rw [ec]
  obtain ⟨M1, e1, h1, f1⟩ := for_M (f := fun s => m_X7_findFits_L9 s.2 (2 * (W * H)) s.1) 0 (2 * (W * H)) (fun i M' => (∀ b, 0 ≤ b → b < i → gI M' 11 b = bI (ftk W H op wa 0 b)) ∧ Fr [11] M M') (fun i M' i0 i1 hI => by
    show ∃ M2, m_X7_findFits_L9 M' (2 * (W * H)) i = _ ∧ _
    unfold m_X7_findFits_L9
    have hwi := hw.2 i i0 (by omega)
    rw [wr_id (x := 2 * (W * H)) (by omega) (by omega), wr_id (x := i) (by omega) (by omega), if_neg (by omega), stands_s (hy.1.fr hI.2 (by decide) (by decide)) (by omega) (by omega), bd1_q, if_pos (c := 0 ≤ i ∧ i < 128) (by omega), fI hI.2 (by decide), (hy.2 i i0 (by omega)).1, wr_id (x := wa i) (by omega) (by omega), show wr 2 = 2 by decide]
    have ev : (if wr (bI (stn W H op i)) = 0 then some 0 else if wa i = 2 then some 0 else some 1) = some (bI (ftk W H op wa 0 i)) := by
      simp only [wrb]
      rw [ftk_0]
      cases stn W H op i
      · rfl
      · rw [if_tf]
        by_cases z : wa i = 2
        · rw [if_pos z, decide_eq_false (fun q => q z)]; rfl
        · rw [if_neg z, decide_eq_true z]; rfl
    rw [ev, bd1_q, if_pos (c := 0 ≤ i ∧ i < 128) (by omega), if_pos (bI_01 _), lt_q]
    refine ⟨_, rfl, fun b b0 b1 => ?_, hI.2.sI (by decide) rfl⟩
    rw [gI_sI]
    by_cases e : b = i
    · rw [if_pos ⟨rfl, e⟩, e]
    · rw [if_neg (fun z => e z.2)]; exact hI.1 b b0 (by omega)) (fun M' hI => by
    show m_X7_findFits_L9 M' (2 * (W * H)) (2 * (W * H)) = _
    unfold m_X7_findFits_L9
    rw [if_pos (by omega)]) (by omega) (by omega) (M0 := M) ⟨fun b b0 b1 => by omega, Fr.rf⟩
  obtain ⟨M2, e2, h2, f2⟩ := for_M (f := fun s => m_X7_findFits_L51 s.2 (2 * (W * H)) s.1) 0 (2 * (W * H)) (fun i M' => (∀ b, 0 ≤ b → b < 2 * (W * H) → gI M' 11 b = bI (ftk W H op wa i b)) ∧ Fr [11] M M') (fun i M' i0 i1 hI => by
    show ∃ M2, m_X7_findFits_L51 M' (2 * (W * H)) i = _ ∧ _
    unfold m_X7_findFits_L51
    have hwi := hw.2 i i0 (by omega)
    have hy' := hy.fr hI.2 (by decide) (by decide) (by decide) (by decide)
    rw [wr_id (x := 2 * (W * H)) (by omega) (by omega), wr_id (x := i) (by omega) (by omega), if_neg (by omega), if_pos (c := 0 ≤ i ∧ i < 128) (by omega), (hy'.2 i i0 (by omega)).1, wr_id (x := wa i) (by omega) (by omega), show wr 1 = 1 by decide]
    by_cases c : wa i = 1
    · rw [if_pos c, idv_p i0 (by omega) (by omega) (by omega)]
      obtain ⟨s1, s2, s3, s4, s5, s6, s7, s8⟩ := stn_t hW (hwi.2.2.2.2 (by omega))
      obtain ⟨M3, e3, h3⟩ := dropOthers_s hy'.1 (c := i / 2) (i := i) (by omega) (by omega) (wr_id (by omega) (by omega))
      have f3 := fr_X7_dropOthers e3
      have hy3 := hy'.fr f3 (by decide) (by decide) (by decide) (by decide)
      obtain ⟨M4, e4, h4⟩ := dropOthers_s hy3.1 (c := oth W H i) (i := i) s4 s6 (wr_id (by omega) (by omega))
      have f4 := fr_X7_dropOthers e4
      rw [e3, bd1_q, secondCell_s hy3.1 i0 (by omega), bd1_q, s8, e4, bd1_q, bd1_q]
      refine ⟨M4, rfl, fun b b0 b1 => ?_, (hI.2.trans f3 (by decide)).trans f4 (by decide)⟩
      rw [ftk_s1 i0 c]
      by_cases z : i = b ∨ djt W H b i
      · rw [bp_t.mpr z, Bool.and_true]
        have n1 : ¬ (b ≠ i ∧ tch W H (i / 2) b) := by
          rintro ⟨y1, y2⟩
          rcases z with z | z
          · exact y1 z.symm
          · exact (djt_tch.mpr (Or.inl y2)) z
        have n2 : ¬ (b ≠ i ∧ tch W H (oth W H i) b) := by
          rintro ⟨y1, y2⟩
          rcases z with z | z
          · exact y1 z.symm
          · exact (djt_tch.mpr (Or.inr y2)) z
        rw [(h4 b b0 b1).2 n2, (h3 b b0 b1).2 n1]
        exact hI.1 b b0 b1
      · rw [bp_f.mpr z, Bool.and_false]
        have hb : b ≠ i := fun e => z (Or.inl e.symm)
        rcases djt_tch.mp (fun y => z (Or.inr y)) with y | y
        · by_cases y2 : b ≠ i ∧ tch W H (oth W H i) b
          · exact (h4 b b0 b1).1 y2
          · rw [(h4 b b0 b1).2 y2]; exact (h3 b b0 b1).1 ⟨hb, y⟩
        · exact (h4 b b0 b1).1 ⟨hb, y⟩
    · rw [if_neg c, bd1_q]
      refine ⟨M', rfl, fun b b0 b1 => ?_, hI.2⟩
      rw [ftk_s0 c]
      exact hI.1 b b0 b1) (fun M' hI => by
    show m_X7_findFits_L51 M' (2 * (W * H)) (2 * (W * H)) = _
    unfold m_X7_findFits_L51
    rw [if_pos (by omega)]) (by omega) (by omega) (M0 := M1) ⟨h1, f1⟩
  rw [e1, bd2_q, e2, bd2_q]
  refine ⟨M2, rfl, fun b b0 b1 => ?_⟩
  rw [h2 b b0 b1, ftk_all hw (by omega) (by omega)]
/-- the reference's may -/
def MY (M : Mem) (W H : Int) (f : Int → Bool) : Prop := ∀ b : Int, 0 ≤ b → b < 2 * (W * H) → gI M 63 b = bI (f b)
theorem musts_s {M : Mem} {W H : Int} {op f : Int → Bool} (hy : YR M W H op) (hm : MY M W H f) {d : Int} (h0 : 0 ≤ d) (h1 : d < 2 * (W * H)) : ∃ M2, m_X12_musts M d = some M2 ∧ MY M2 W H (fmu W H f d) := by
  have hW := hy.2.2.1
  have h8 := WH_le hW
  have hod := oth_r hW h0 h1
  have ec : (2 * gI M 55 0) * gI M 55 1 = 2 * (W * H) := by rw [hy.1, hy.2.1, Int.mul_assoc]
  unfold m_X12_musts
  rw [otherOf_s hy h0 (by omega), bd1_q, idv_p h0 (by omega) (by omega) (by omega)]
  obtain ⟨M2, e2, h2, h2', f2⟩ := for_M (f := fun s => m_X12_musts_L13 s.2 d (d / 2) (oth W H d) s.1) 0 (2 * (W * H)) (fun i M' => (∀ b, 0 ≤ b → b < i → gI M' 63 b = bI (fmu W H f d b)) ∧ (∀ b, i ≤ b → b < 2 * (W * H) → gI M' 63 b = bI (f b)) ∧ Fr [63] M M') (fun i M' i0 i1 hI => by
    show ∃ M2, m_X12_musts_L13 M' d (d / 2) (oth W H d) i = _ ∧ _
    unfold m_X12_musts_L13
    have hy' := hy.fr hI.2.2 (by decide) (by decide)
    have hoi := oth_r hW i0 i1
    rw [fI hI.2.2 (by decide), fI hI.2.2 (by decide), ec, wr_id (x := 2 * (W * H)) (by omega) (by omega), wr_id (x := i) (by omega) (by omega), if_neg (by omega), otherOf_s hy' i0 (by omega), bd1_q, if_pos (c := 0 ≤ i ∧ i < 128) (by omega), hI.2.1 i (by omega) i1, wr_id (x := d) (by omega) (by omega), idv_p i0 (by omega) (by omega) (by omega), wr_id (x := i / 2) (by omega) (by omega), wr_id (x := d / 2) (by omega) (by omega), wr_id (x := oth W H d) (by omega) (by omega), wr_id (x := oth W H i) (by omega) (by omega), lt_q]
    have ev : (if wr (bI (f i)) = 0 then (0 : Int) else if i = d then 1 else if i / 2 = d / 2 then 0 else if i / 2 = oth W H d then 0 else if oth W H i = d / 2 then 0 else if oth W H i = oth W H d then 0 else 1) = bI (fmu W H f d i) := by
      simp only [wrb]
      unfold fmu djt
      cases f i
      · rfl
      · rw [if_tf, Bool.true_and]
        by_cases z : i = d
        · rw [if_pos z, bp_t.mpr (Or.inl z)]; rfl
        rw [if_neg z]
        by_cases z1 : i / 2 = d / 2
        · rw [if_pos z1, bp_f.mpr (by rintro (y | y); exact z y; exact y.1 z1)]; rfl
        rw [if_neg z1]
        by_cases z2 : i / 2 = oth W H d
        · rw [if_pos z2, bp_f.mpr (by rintro (y | y); exact z y; exact y.2.1 z2)]; rfl
        rw [if_neg z2]
        by_cases z3 : oth W H i = d / 2
        · rw [if_pos z3, bp_f.mpr (by rintro (y | y); exact z y; exact y.2.2.1 z3)]; rfl
        rw [if_neg z3]
        by_cases z4 : oth W H i = oth W H d
        · rw [if_pos z4, bp_f.mpr (by rintro (y | y); exact z y; exact y.2.2.2 z4)]; rfl
        rw [if_neg z4, bp_t.mpr (Or.inr ⟨z1, z2, z3, z4⟩)]; rfl
    rw [ev, if_pos (bI_01 _), lt_q]
    refine ⟨_, rfl, fun b b0 b1 => ?_, fun b b0 b1 => ?_, hI.2.2.sI (by decide) rfl⟩
    · rw [gI_sI]
      by_cases e : b = i
      · rw [if_pos ⟨rfl, e⟩, e]
      · rw [if_neg (fun z => e z.2)]; exact hI.1 b b0 (by omega)
    · rw [gI_sI, if_neg (by omega)]; exact hI.2.1 b (by omega) b1) (fun M' hI => by
    show m_X12_musts_L13 M' d (d / 2) (oth W H d) (2 * (W * H)) = _
    unfold m_X12_musts_L13
    rw [fI hI.2.2 (by decide), fI hI.2.2 (by decide), ec, if_pos (by omega)]) (by omega) (by omega) (M0 := M) ⟨fun b b0 b1 => by omega, fun b b0 b1 => hm b b0 b1, Fr.rf⟩
  rw [e2, bd2_q]
  exact ⟨M2, rfl, h2⟩
theorem allows_s {M : Mem} {W H : Int} {op : Int → Bool} {wa pr : Int → Int} (hy : YSr M W H op wa pr) (hw : WFy W H op wa pr) : ∃ M2, m_X12_allows M 1 = some M2 ∧ MY M2 W H (fit W H op wa) := by
  have hW := hw.1
  have h8 := WH_le hW
  unfold m_X12_allows
  obtain ⟨M1, e1, h1, f1⟩ := for_M (f := fun s => m_X12_allows_L2 s.2 1 s.1) 0 128 (fun i M' => (∀ b, 0 ≤ b → b < i → gI M' 63 b = bI (ftk W H op wa 0 b)) ∧ Fr [63] M M') (fun i M' i0 i1 hI => by
    show ∃ M2, m_X12_allows_L2 M' 1 i = _ ∧ _
    unfold m_X12_allows_L2
    have hwi := hw.2 i i0 (by omega)
    rw [show wr 128 = 128 by decide, wr_id (x := i) (by omega) (by omega), if_neg (by omega), isBrick_s (hy.1.fr hI.2 (by decide) (by decide)) (by omega) (by omega), bd1_q, if_neg (c := wr 1 = 0) (by decide), if_pos (c := 0 ≤ i ∧ i < 128) (by omega), fI hI.2 (by decide), (hy.2 i i0 (by omega)).1, wr_id (x := wa i) (by omega) (by omega), show wr 2 = 2 by decide]
    have ev : (if wr (bI (stn W H op i)) = 0 then some 0 else if wa i = 2 then some 0 else some 1) = some (bI (ftk W H op wa 0 i)) := by
      simp only [wrb]
      rw [ftk_0]
      cases stn W H op i
      · rfl
      · rw [if_tf]
        by_cases z : wa i = 2
        · rw [if_pos z, decide_eq_false (fun q => q z)]; rfl
        · rw [if_neg z, decide_eq_true z]; rfl
    rw [ev, bd1_q, if_pos (c := 0 ≤ i ∧ i < 128) (by omega), if_pos (bI_01 _), lt_q]
    refine ⟨_, rfl, fun b b0 b1 => ?_, hI.2.sI (by decide) rfl⟩
    rw [gI_sI]
    by_cases e : b = i
    · rw [if_pos ⟨rfl, e⟩, e]
    · rw [if_neg (fun z => e z.2)]; exact hI.1 b b0 (by omega)) (fun M' hI => by
    show m_X12_allows_L2 M' 1 128 = _
    unfold m_X12_allows_L2
    rw [if_pos (by decide)]) (by omega) (by omega) (M0 := M) ⟨fun b b0 b1 => by omega, Fr.rf⟩
  obtain ⟨M2, e2, h2, f2⟩ := for_M (f := fun s => m_X12_allows_L50 s.2 1 s.1) 0 128 (fun i M' => MY M' W H (ftk W H op wa i) ∧ Fr [63] M M') (fun i M' i0 i1 hI => by
    show ∃ M2, m_X12_allows_L50 M' 1 i = _ ∧ _
    unfold m_X12_allows_L50
    have hwi := hw.2 i i0 (by omega)
    have hy' := hy.fr hI.2 (by decide) (by decide) (by decide) (by decide)
    rw [show wr 128 = 128 by decide, wr_id (x := i) (by omega) (by omega), if_neg (by omega), if_neg (c := wr 1 = 0) (by decide), isBrick_s hy'.1 (by omega) (by omega), bd1_q, if_pos (c := 0 ≤ i ∧ i < 128) (by omega), (hy'.2 i i0 (by omega)).1, wr_id (x := wa i) (by omega) (by omega), show wr 1 = 1 by decide]
    simp only [wrb]
    by_cases c : wa i = 1
    · have hs := hwi.2.2.2.2 (by omega)
      obtain ⟨s1, s2, -⟩ := stn_t hW hs
      obtain ⟨M3, e3, h3⟩ := musts_s hy'.1 hI.1 s1 s2
      rw [hs, if_tf, if_pos c, e3, bd1_q, bd1_q]
      refine ⟨M3, rfl, fun b b0 b1 => ?_, hI.2.trans (fr_X12_musts e3) (by decide)⟩
      rw [ftk_s1 i0 c, h3 b b0 b1]
      unfold fmu
      congr 2
      apply bp_congr
      constructor <;> (rintro (z | z); exact Or.inl z.symm; exact Or.inr z)
    · rw [if_neg c]
      have ev : (if stn W H op i = false then some M' else some M') = some M' := by split <;> rfl
      rw [ev, bd1_q]
      refine ⟨M', rfl, fun b b0 b1 => ?_, hI.2⟩
      rw [ftk_s0 c]
      exact hI.1 b b0 b1) (fun M' hI => by
    show m_X12_allows_L50 M' 1 128 = _
    unfold m_X12_allows_L50
    rw [if_pos (by decide)]) (by omega) (by omega) (M0 := M1) ⟨fun b b0 b1 => h1 b b0 (by omega), f1⟩
  rw [e1, bd2_q, e2, bd2_q]
  refine ⟨M2, rfl, fun b b0 b1 => ?_⟩
  rw [h2 b b0 b1, ftk_all hw (by omega) (by omega)]
