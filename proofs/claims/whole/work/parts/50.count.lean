/-! count -/
theorem ite_ex {α : Type} {c : Prop} [Decidable c] {a b : Option α} (h1 : ∃ r, a = some r) (h2 : ∃ r, b = some r) : ∃ r, (if c then a else b) = some r := by
  by_cases h : c
  · rw [if_pos h]; exact h1
  · rw [if_neg h]; exact h2
def nOp (W H : Int) (op : Int → Bool) : Int := sI' (W * H) (fun c => bI (op c))
def nDk (W H : Int) (op : Int → Bool) : Int := sI' (W * H) (fun c => bI (op c && drk W c))
def nSt (W H : Int) (op : Int → Bool) : Int := sI' (2 * (W * H)) (fun b => bI (stn W H op b))
def nWt (W H : Int) (wa : Int → Int) (k : Int) : Int := sI' (2 * (W * H)) (fun b => bI (decide (wa b = k)))
def nHd (hd : Int → Bool) : Int := sI' 4 (fun s => bI (hd s))
theorem openCells_s {M : Mem} {W H : Int} {op : Int → Bool} (hy : YC M W H op) : m_X10_openCells M = some (nOp W H op) := by
  have h8 := WH_le hy.2.2.1
  unfold m_X10_openCells
  rw [for_S (W * H) (fun c => bI (op c)) ?_ ?_ (by omega) (by omega), bd2_q]
  · rfl
  · intro i s i0 i1
    show m_X10_openCells_L4 M s i = _
    unfold m_X10_openCells_L4
    rw [hy.1, hy.2.1, wr_id (x := W * H) (by omega) (by omega), wr_id (x := i) (by omega) (by omega), if_neg (by omega), if_pos (by omega), hy.2.2.2 i i0 (by omega), bit_e]
  · intro s
    show m_X10_openCells_L4 M s (W * H) = _
    unfold m_X10_openCells_L4
    rw [hy.1, hy.2.1, if_pos (by omega)]
theorem openManyR_s {M : Mem} {W H : Int} {op : Int → Bool} (hy : YR M W H op) : m_X12_openMany M = some (nOp W H op) := by
  have h8 := WH_le hy.2.2.1
  unfold m_X12_openMany
  rw [for_S (W * H) (fun c => bI (op c)) ?_ ?_ (by omega) (by omega), bd2_q]
  · rfl
  · intro i s i0 i1
    show m_X12_openMany_L4 M s i = _
    unfold m_X12_openMany_L4
    rw [hy.1, hy.2.1, wr_id (x := W * H) (by omega) (by omega), wr_id (x := i) (by omega) (by omega), if_neg (by omega), if_pos (by omega), hy.2.2.2 i i0 (by omega), lt_q]
    simp only [wrb]
    cases op i <;> rfl
  · intro s
    show m_X12_openMany_L4 M s (W * H) = _
    unfold m_X12_openMany_L4
    rw [hy.1, hy.2.1, if_pos (by omega)]
theorem darkCells_s {M : Mem} {W H : Int} {op : Int → Bool} (hy : YC M W H op) : m_X10_darkCells M = some (nDk W H op) := by
  have h8 := WH_le hy.2.2.1
  unfold m_X10_darkCells
  rw [for_S (W * H) (fun c => bI (op c && drk W c)) ?_ ?_ (by omega) (by omega), bd2_q]
  · rfl
  · intro i s i0 i1
    show m_X10_darkCells_L4 M s i = _
    unfold m_X10_darkCells_L4
    rw [hy.1, hy.2.1, wr_id (x := W * H) (by omega) (by omega), wr_id (x := i) (by omega) (by omega), if_neg (by omega), if_pos (c := 0 ≤ i ∧ i < 64) (by omega), hy.2.2.2 i i0 (by omega), isDark_s hy i0 (by omega)]
    simp only [wrb, bd1_q]
    cases op i
    · rfl
    · rw [if_tf]
      cases drk W i <;> rfl
  · intro s
    show m_X10_darkCells_L4 M s (W * H) = _
    unfold m_X10_darkCells_L4
    rw [hy.1, hy.2.1, if_pos (by omega)]
theorem standingBricks_s {M : Mem} {W H : Int} {op : Int → Bool} (hy : YC M W H op) : m_X10_standingBricks M = some (nSt W H op) := by
  have h8 := WH_le hy.2.2.1
  have e : (2 * gI M 1 0) * gI M 1 1 = 2 * (W * H) := by rw [hy.1, hy.2.1, Int.mul_assoc]
  unfold m_X10_standingBricks
  rw [for_S (2 * (W * H)) (fun b => bI (stn W H op b)) ?_ ?_ (by omega) (by omega), bd2_q]
  · rfl
  · intro i s i0 i1
    show m_X10_standingBricks_L4 M s i = _
    unfold m_X10_standingBricks_L4
    rw [e, wr_id (x := 2 * (W * H)) (by omega) (by omega), wr_id (x := i) (by omega) (by omega), if_neg (by omega), stands_s hy (by omega) (by omega), bd1_q, bit_e]
  · intro s
    show m_X10_standingBricks_L4 M s (2 * (W * H)) = _
    unfold m_X10_standingBricks_L4
    rw [e, if_pos (by omega)]
theorem wantedBricks_s {M : Mem} {W H : Int} {op : Int → Bool} {wa pr : Int → Int} (hy : YSc M W H op wa pr) (hw : WFy W H op wa pr) {k : Int} (hk : wr k = k) : m_X10_wantedBricks M k = some (nWt W H wa k) := by
  have h8 := WH_le hy.1.2.2.1
  have e : (2 * gI M 1 0) * gI M 1 1 = 2 * (W * H) := by rw [hy.1.1, hy.1.2.1, Int.mul_assoc]
  unfold m_X10_wantedBricks
  rw [for_S (2 * (W * H)) (fun b => bI (decide (wa b = k))) ?_ ?_ (by omega) (by omega), bd2_q]
  · rfl
  · intro i s i0 i1
    show m_X10_wantedBricks_L4 M k s i = _
    unfold m_X10_wantedBricks_L4
    have hwi := hw.2 i i0 (by omega)
    rw [e, wr_id (x := 2 * (W * H)) (by omega) (by omega), wr_id (x := i) (by omega) (by omega), if_neg (by omega), if_pos (c := 0 ≤ i ∧ i < 128) (by omega), (hy.2 i i0 (by omega)).1, wr_id (x := wa i) (by omega) (by omega), hk, lt_q]
    by_cases q : wa i = k
    · rw [if_pos q, decide_eq_true q]; rfl
    · rw [if_neg q, decide_eq_false q]; rfl
  · intro s
    show m_X10_wantedBricks_L4 M k s (2 * (W * H)) = _
    unfold m_X10_wantedBricks_L4
    rw [e, if_pos (by omega)]
theorem heldSlots_s {M : Mem} {hd : Int → Bool} (h : HDc M hd) : m_X11_heldSlots M = some (nHd hd) := by
  unfold m_X11_heldSlots
  rw [for_S 4 (fun s => bI (hd s)) ?_ ?_ (by omega) (by omega), bd2_q]
  · rfl
  · intro i s i0 i1
    show m_X11_heldSlots_L4 M s i = _
    unfold m_X11_heldSlots_L4
    rw [show wr 4 = 4 by decide, wr_id (x := i) (by omega) (by omega), if_neg (by omega), if_pos (by omega), h i i0 i1, bit_e]
  · intro s
    show m_X11_heldSlots_L4 M s 4 = _
    unfold m_X11_heldSlots_L4
    rw [if_pos (by decide)]
theorem op_count {M : Mem} (hI : Inv M) {a : Int} (ha : -2147483648 ≤ a) (ha2 : a ≤ 2147483647) : ∃ r, m_X11_count M a = some r ∧ m_X12_count M a = some r := by
  obtain ⟨W, H, op, wa, pr, hd, on, ts, tp, ln, sz, it, hC, hR, hwf, hD, hS⟩ := hI
  have hW := hC.1.1.2.2.1
  have h8 := WH_le hW
  have e : (2 * gI M 55 0) * gI M 55 1 = 2 * (W * H) := by rw [hR.1.1.1, hR.1.1.2.1, Int.mul_assoc]
  have l1 : itr (fun s => m_X12_count_L4 M a s.1 s.2) FU (0, 0) = some (nDk W H op, W * H) := by
    refine for_S (W * H) (fun c => bI (op c && drk W c)) ?_ ?_ (by omega) (by omega)
    · intro i s i0 i1
      show m_X12_count_L4 M a s i = _
      unfold m_X12_count_L4
      rw [hR.1.1.1, hR.1.1.2.1, wr_id (x := W * H) (by omega) (by omega), wr_id (x := i) (by omega) (by omega), if_neg (by omega), if_pos (c := 0 ≤ i ∧ i < 64) (by omega), hR.1.1.2.2.2 i i0 (by omega), isDarkCellR_s hR.1.1 i0 (by omega)]
      simp only [wrb, bd1_q]
      cases op i
      · rfl
      · rw [if_tf]
        cases drk W i <;> rfl
    · intro s
      show m_X12_count_L4 M a s (W * H) = _
      unfold m_X12_count_L4
      rw [hR.1.1.1, hR.1.1.2.1, if_pos (by omega)]
  have l2 : ∃ y, itr (fun s => m_X12_count_L59 M a (nDk W H op) s.1 s.2.1 s.2.2.1 s.2.2.2) FU (0, 0, 0, 0) = some (nSt W H op, nWt W H wa 1, nWt W H wa 2, y) := by
    have := for_g (f := fun s => m_X12_count_L59 M a (nDk W H op) s.1 s.2.1 s.2.2.1 s.2.2.2) 0 (2 * (W * H)) (fun i s => s = (sI' i (fun b => bI (stn W H op b)), sI' i (fun b => bI (decide (wa b = 1))), sI' i (fun b => bI (decide (wa b = 2))), i)) (fun r => r = (nSt W H op, nWt W H wa 1, nWt W H wa 2, 2 * (W * H))) ?_ ?_ (by omega) (by omega) (s0 := (0, 0, 0, 0)) rfl
    · obtain ⟨r, e, rfl⟩ := this
      exact ⟨_, e⟩
    · rintro i s i0 i1 rfl
      left
      show ∃ s2, m_X12_count_L59 M a (nDk W H op) _ _ _ i = _ ∧ _
      unfold m_X12_count_L59
      have hwi := hwf.1.2 i i0 (by omega)
      rw [e, wr_id (x := 2 * (W * H)) (by omega) (by omega), wr_id (x := i) (by omega) (by omega), if_neg (by omega), isBrick_s hR.1.1 (by omega) (by omega), bd1_q, lt_q, if_pos (c := 0 ≤ i ∧ i < 128) (by omega), (hR.1.2 i i0 (by omega)).1, wr_id (x := wa i) (by omega) (by omega), show wr 1 = 1 by decide, show wr 2 = 2 by decide, lt_q, lt_q]
      refine ⟨_, rfl, ?_⟩
      rw [sI'_s i0, sI'_s i0, sI'_s i0]
      simp only [wrb]
      have z1 : (if stn W H op i = false then (0 : Int) else 1) = bI (stn W H op i) := by cases stn W H op i <;> rfl
      have z2 : (if wa i = 1 then (1 : Int) else 0) = bI (decide (wa i = 1)) := by by_cases q : wa i = 1 <;> simp [q, bI]
      have z3 : (if wa i = 2 then (1 : Int) else 0) = bI (decide (wa i = 2)) := by by_cases q : wa i = 2 <;> simp [q, bI]
      rw [z1, z2, z3]
    · rintro s rfl
      refine ⟨_, ?_, rfl⟩
      show m_X12_count_L59 M a (nDk W H op) _ _ _ (2 * (W * H)) = _
      unfold m_X12_count_L59
      rw [e, if_pos (by omega)]
      rfl
  obtain ⟨y, l2⟩ := l2
  have l3 : itr (fun s => m_X12_count_L146 M a (nDk W H op) (nSt W H op) (nWt W H wa 1) (nWt W H wa 2) s.1 s.2) FU (0, 0) = some (nHd hd, 4) := by
    refine for_S 4 (fun s => bI (hd s)) ?_ ?_ (by omega) (by omega)
    · intro i s i0 i1
      show m_X12_count_L146 M a _ _ _ _ s i = _
      unfold m_X12_count_L146
      rw [show wr 4 = 4 by decide, wr_id (x := i) (by omega) (by omega), if_neg (by omega), if_pos (by omega), hR.2.1.1 i i0 i1, lt_q]
      simp only [wrb]
      cases hd i <;> rfl
    · intro s
      show m_X12_count_L146 M a _ _ _ _ s 4 = _
      unfold m_X12_count_L146
      rw [if_pos (by decide)]
  unfold m_X11_count m_X12_count
  rw [l1, bd2_q, l2, bd4_q, l3, bd2_q, wr_id ha ha2, openManyR_s hR.1.1, openCells_s hC.1.1, darkCells_s hC.1.1, standingBricks_s hC.1.1, wantedBricks_s hC.1 hwf.1 (k := 1) (by decide), wantedBricks_s hC.1 hwf.1 (k := 2) (by decide), heldSlots_s hC.2.1.1, hR.1.1.1, hR.1.1.2.1, hC.1.1.1, hC.1.1.2.1]
  simp only [bd1_q]
  refine (fun ⟨r, h⟩ => ⟨r, h, h⟩) (?_ : ∃ r, _ = some r)
  exact ite_ex ⟨_, rfl⟩ (ite_ex ⟨_, rfl⟩ (ite_ex ⟨_, rfl⟩ (ite_ex ⟨_, rfl⟩ (ite_ex ⟨_, rfl⟩ (ite_ex ⟨_, rfl⟩ (ite_ex ⟨_, rfl⟩ (ite_ex ⟨_, rfl⟩ ⟨_, rfl⟩)))))))
