set_option maxRecDepth 10000 in
theorem fl_X12_sound_L73 (p1 : Int64) (p3 : Int) (p4 : Int) (p5 : Int) (p6 : Int) {M0 : Mem} : ∀ (nn : Nat) (x7 : Int) (M : Mem) (out : Int × Mem), itr (fun s => m_X12_sound_L73 s.2 p1 p3 p4 p5 p6 s.1) nn (x7, M) = some out → Fr [63] M0 M → Fr [63] M0 out.2 := by
  intro nn
  induction nn with
  | zero =>
    intro x7 M out h _
    cases h
  | succ nn ih =>
    intro x7 M out h0 F
    obtain ⟨w, h, k1, k2⟩ := itr_inv h0
    have h : m_X12_sound_L73 M p1 p3 p4 p5 p6 x7 = some w := h
    unfold m_X12_sound_L73 at h
    by_cases c9 : wr (gI M 55 1) ≤ wr x7
    · rw [if_pos c9] at h
      cases h
      cases k2 _ rfl
      exact F
    · rw [if_neg c9] at h
      by_cases c10 : wr p6 = 0
      · rw [if_pos c10] at h
        cases h
        cases k2 _ rfl
        exact F
      · rw [if_neg c10] at h
        obtain ⟨c11, h⟩ := of_ck h
        obtain ⟨M12, eM12, h⟩ := of_lt h
        have F := F.sI (by decide) eM12
        cases h
        exact ih _ _  _ (k1 _ rfl) F

set_option maxRecDepth 10000 in
theorem fl_X12_sound_L27 (p1 : Int64) (p3 : Int) {M0 : Mem} : ∀ (nn : Nat) (x4 : Int) (x5 : Int) (M : Mem) (out : Int × Int × Mem), itr (fun s => m_X12_sound_L27 s.2.2 p1 p3 s.1 s.2.1) nn (x4, x5, M) = some out → Fr [63] M0 M → Fr [63] M0 out.2.2 := by
  intro nn
  induction nn with
  | zero =>
    intro x4 x5 M out h _
    cases h
  | succ nn ih =>
    intro x4 x5 M out h0 F
    obtain ⟨w, h, k1, k2⟩ := itr_inv h0
    have h : m_X12_sound_L27 M p1 p3 x4 x5 = some w := h
    unfold m_X12_sound_L27 at h
    by_cases c4 : wr (gI M 55 0) ≤ wr x5
    · rw [if_pos c4] at h
      cases h
      cases k2 _ rfl
      exact F
    · rw [if_neg c4] at h
      obtain ⟨v6, ev6, h⟩ := of_lt h
      obtain ⟨v8, ev8, h⟩ := of_lt h
      obtain ⟨y13, M14, h9, h⟩ := of_bd2 h
      have F := F.trans (fl_X12_sound_L73 p1 p3 (x4 + v8) x5 v6 FU _ _ _ h9 Fr.rf) (by decide)
      clear h9
      cases h
      exact ih _ _ _  _ (k1 _ rfl) F

set_option maxRecDepth 10000 in
theorem fl_X12_sound_L4  {M0 : Mem} : ∀ (nn : Nat) (x1 : Int64) (x3 : Int) (M : Mem) (out : Int64 × Int × Mem), itr (fun s => m_X12_sound_L4 s.2.2  s.1 s.2.1) nn (x1, x3, M) = some out → Fr [63, 64] M0 M → Fr [63, 64] M0 out.2.2 := by
  intro nn
  induction nn with
  | zero =>
    intro x1 x3 M out h _
    cases h
  | succ nn ih =>
    intro x1 x3 M out h0 F
    obtain ⟨w, h, k1, k2⟩ := itr_inv h0
    have h : m_X12_sound_L4 M  x1 x3 = some w := h
    unfold m_X12_sound_L4 at h
    by_cases c1 : wr (shl 1 ((gI M 55 0) - 1)) ≤ wr x3
    · rw [if_pos c1] at h
      cases h
      cases k2 _ rfl
      exact F
    · rw [if_neg c1] at h
      obtain ⟨M3, hc2, h⟩ := of_bd1 h
      have F := F.trans (fr_X12_allows hc2) (by decide)
      obtain ⟨y15, y16, M17, h9, h⟩ := of_bd3 h
      have F := F.trans (fl_X12_sound_L27 x1 x3 FU _ _ _ _ h9 Fr.rf) (by decide)
      clear h9
      obtain ⟨v25, M26, h9, h⟩ := of_bd2 h
      have F : Fr [63, 64] M0 M26 := by
        have h := h9
        by_cases c18 : wr (irm y15 2) = 0
        · rw [if_pos c18] at h
          obtain ⟨r23, M24, hc22, h⟩ := of_bd2 h
          have F := F.trans (fr_X12_countAll hc22) (by decide)
          cases h
          exact F
        · rw [if_neg c18] at h
          obtain ⟨r20, M21, hc19, h⟩ := of_bd2 h
          have F := F.trans (fr_X12_countAll hc19) (by decide)
          cases h
          exact F
      clear h9
      cases h
      exact ih _ _ _  _ (k1 _ rfl) F

set_option maxRecDepth 10000 in
theorem fr_X12_sound {M : Mem} {M2 : Mem}  {r : Int64} (h : m_X12_sound M = some (r, M2)) : Fr [63, 64] M M2 := by
  unfold m_X12_sound at h
  have F : Fr [63, 64] M M := Fr.rf
  obtain ⟨y27, y28, M29, h9, h⟩ := of_bd3 h
  have F := F.trans (fl_X12_sound_L4  FU _ _ _ _ h9 Fr.rf) (by decide)
  clear h9
  cases h
  exact F

set_option maxRecDepth 10000 in
theorem fl_X12_ringMany_L2 (p1 : Int) (p2 : Int) {M0 : Mem} : ∀ (nn : Nat) (x3 : Int) (M : Mem) (out : Int × Mem), itr (fun s => m_X12_ringMany_L2 s.2 p1 p2 s.1) nn (x3, M) = some out → Fr [75] M0 M → Fr [75] M0 out.2 := by
  intro nn
  induction nn with
  | zero =>
    intro x3 M out h _
    cases h
  | succ nn ih =>
    intro x3 M out h0 F
    obtain ⟨w, h, k1, k2⟩ := itr_inv h0
    have h : m_X12_ringMany_L2 M p1 p2 x3 = some w := h
    unfold m_X12_ringMany_L2 at h
    by_cases c1 : wr 64 ≤ wr x3
    · rw [if_pos c1] at h
      cases h
      cases k2 _ rfl
      exact F
    · rw [if_neg c1] at h
      obtain ⟨c2, h⟩ := of_ck h
      obtain ⟨M3, eM3, h⟩ := of_lt h
      have F := F.sI (by decide) eM3
      cases h
      exact ih _ _  _ (k1 _ rfl) F

set_option maxRecDepth 10000 in
theorem fl_X12_ringMany_L91 (p1 : Int) (p2 : Int) (p3 : Int) (p4 : Int) {M0 : Mem} : ∀ (nn : Nat) (x5 : Int) (M : Mem) (out : Int × Mem), itr (fun s => m_X12_ringMany_L91 s.2 p1 p2 p3 p4 s.1) nn (x5, M) = some out → Fr [75] M0 M → Fr [75] M0 out.2 := by
  intro nn
  induction nn with
  | zero =>
    intro x5 M out h _
    cases h
  | succ nn ih =>
    intro x5 M out h0 F
    obtain ⟨w, h, k1, k2⟩ := itr_inv h0
    have h : m_X12_ringMany_L91 M p1 p2 p3 p4 x5 = some w := h
    unfold m_X12_ringMany_L91 at h
    obtain ⟨c13, h⟩ := of_ck h
    by_cases c14 : 0 ≤ wr (gI M 75 (wr x5))
    · rw [if_pos c14] at h
      cases h
      cases k2 _ rfl
      exact F
    · rw [if_neg c14] at h
      obtain ⟨M15, eM15, h⟩ := of_lt h
      have F := F.sI (by decide) eM15
      obtain ⟨r17, hc16, h⟩ := of_bd1 h
      obtain ⟨c18, h⟩ := of_ck h
      obtain ⟨M19, eM19, h⟩ := of_lt h
      have F := F.sI (by decide) eM19
      obtain ⟨r21, hc20, h⟩ := of_bd1 h
      cases h
      exact ih _ _  _ (k1 _ rfl) F

set_option maxRecDepth 10000 in
theorem fl_X12_ringMany_L26 (p1 : Int) (p2 : Int) {M0 : Mem} : ∀ (nn : Nat) (x3 : Int) (x4 : Int) (M : Mem) (out : Int × Int × Mem), itr (fun s => m_X12_ringMany_L26 s.2.2 p1 p2 s.1 s.2.1) nn (x3, x4, M) = some out → Fr [75] M0 M → Fr [75] M0 out.2.2 := by
  intro nn
  induction nn with
  | zero =>
    intro x3 x4 M out h _
    cases h
  | succ nn ih =>
    intro x3 x4 M out h0 F
    obtain ⟨w, h, k1, k2⟩ := itr_inv h0
    have h : m_X12_ringMany_L26 M p1 p2 x3 x4 = some w := h
    unfold m_X12_ringMany_L26 at h
    by_cases c6 : wr ((gI M 55 0) * (gI M 55 1)) ≤ wr x4
    · rw [if_pos c6] at h
      cases h
      cases k2 _ rfl
      exact F
    · rw [if_neg c6] at h
      obtain ⟨c7, h⟩ := of_ck h
      obtain ⟨v24, M25, h9, h⟩ := of_bd2 h
      have F : Fr [75] M0 M25 := by
        have h := h9
        by_cases c8 : wr (gI M 56 (wr x4)) = 0
        · rw [if_pos c8] at h
          cases h
          exact F
        · rw [if_neg c8] at h
          by_cases c9 : 0 ≤ wr (gI M 75 (wr x4))
          · rw [if_pos c9] at h
            cases h
            exact F
          · rw [if_neg c9] at h
            obtain ⟨c10, h⟩ := of_ck h
            obtain ⟨c11, h⟩ := of_ck h
            by_cases c12 : wr (gI M 60 (wr ((64 * p1) + x4))) = wr (gI M 60 (wr ((64 * p2) + x4)))
            · rw [if_pos c12] at h
              cases h
              exact F
            · rw [if_neg c12] at h
              obtain ⟨y22, M23, h9, h⟩ := of_bd2 h
              have F := F.trans (fl_X12_ringMany_L91 p1 p2 x3 x4 FU _ _ _ h9 Fr.rf) (by decide)
              clear h9
              cases h
              exact F
      clear h9
      cases h
      exact ih _ _ _  _ (k1 _ rfl) F

set_option maxRecDepth 10000 in
theorem fr_X12_ringMany {M : Mem} {M2 : Mem} {a1 : Int} {a2 : Int} {r : Int} (h : m_X12_ringMany M a1 a2 = some (r, M2)) : Fr [75] M M2 := by
  unfold m_X12_ringMany at h
  have F : Fr [75] M M := Fr.rf
  obtain ⟨y4, M5, h9, h⟩ := of_bd2 h
  have F := F.trans (fl_X12_ringMany_L2 a1 a2 FU _ _ _ h9 Fr.rf) (by decide)
  clear h9
  obtain ⟨y26, y27, M28, h9, h⟩ := of_bd3 h
  have F := F.trans (fl_X12_ringMany_L26 a1 a2 FU _ _ _ _ h9 Fr.rf) (by decide)
  clear h9
  cases h
  exact F

set_option maxRecDepth 10000 in
theorem fr_X12_rings {M : Mem} {M2 : Mem} {a1 : Int} {a2 : Int} {r : Int} (h : m_X12_rings M a1 a2 = some (r, M2)) : Fr [75] M M2 := by
  unfold m_X12_rings at h
  have F : Fr [75] M M := Fr.rf
  obtain ⟨r2, hc1, h⟩ := of_bd1 h
  obtain ⟨v7, M8, h9, h⟩ := of_bd2 h
  have F : Fr [75] M M8 := by
    have h := h9
    by_cases c3 : 0 ≤ wr r2
    · rw [if_pos c3] at h
      obtain ⟨r5, M6, hc4, h⟩ := of_bd2 h
      have F := F.trans (fr_X12_ringMany hc4) (by decide)
      cases h
      exact F
    · rw [if_neg c3] at h
      cases h
      exact F
  clear h9
  cases h
  exact F

set_option maxRecDepth 10000 in
theorem fr_X12_ring {M : Mem} {M2 : Mem} {a1 : Int} {a2 : Int} {a3 : Int} {r : Int} (h : m_X12_ring M a1 a2 a3 = some (r, M2)) : Fr [75] M M2 := by
  unfold m_X12_ring at h
  have F : Fr [75] M M := Fr.rf
  obtain ⟨b2, hc1, h⟩ := of_bd1 h
  by_cases c3 : wr (bI b2) = 0
  · rw [if_pos c3] at h
    cases h
    exact F
  · rw [if_neg c3] at h
    obtain ⟨b5, hc4, h⟩ := of_bd1 h
    by_cases c6 : wr (bI b5) = 0
    · rw [if_pos c6] at h
      cases h
      exact F
    · rw [if_neg c6] at h
      by_cases c7 : 0 ≤ wr a3
      · rw [if_pos c7] at h
        obtain ⟨r9, hc8, h⟩ := of_bd1 h
        by_cases c10 : 0 ≤ wr r9
        · rw [if_pos c10] at h
          obtain ⟨r12, M13, hc11, h⟩ := of_bd2 h
          have F := F.trans (fr_X12_ringMany hc11) (by decide)
          obtain ⟨v17, h9, h⟩ := of_bd1 h
          clear h9
          cases h
          exact F
        · rw [if_neg c10] at h
          cases h
          exact F
      · rw [if_neg c7] at h
        cases h
        exact F

set_option maxRecDepth 10000 in
theorem fl_X12_wind_L51 (p1 : Int) (p2 : Int) (p3 : Int) {M0 : Mem} : ∀ (nn : Nat) (x5 : Int) (M : Mem) (out : Int × Mem), itr (fun s => m_X12_wind_L51 s.2 p1 p2 p3 s.1) nn (x5, M) = some out → Fr [60] M0 M → Fr [60] M0 out.2 := by
  intro nn
  induction nn with
  | zero =>
    intro x5 M out h _
    cases h
  | succ nn ih =>
    intro x5 M out h0 F
    obtain ⟨w, h, k1, k2⟩ := itr_inv h0
    have h : m_X12_wind_L51 M p1 p2 p3 x5 = some w := h
    unfold m_X12_wind_L51 at h
    by_cases c15 : wr ((gI M 55 0) * (gI M 55 1)) ≤ wr x5
    · rw [if_pos c15] at h
      cases h
      cases k2 _ rfl
      exact F
    · rw [if_neg c15] at h
      obtain ⟨c16, h⟩ := of_ck h
      obtain ⟨v22, h9, h⟩ := of_bd1 h
      clear h9
      obtain ⟨c23, h⟩ := of_ck h
      obtain ⟨M24, eM24, h⟩ := of_lt h
      have F := F.sI (by decide) eM24
      cases h
      exact ih _ _  _ (k1 _ rfl) F

set_option maxRecDepth 10000 in
theorem fr_X12_wind {M : Mem} {M2 : Mem} {a1 : Int} {a2 : Int} {a3 : Int} {r : Int} (h : m_X12_wind M a1 a2 a3 = some (r, M2)) : Fr [60, 75] M M2 := by
  unfold m_X12_wind at h
  have F : Fr [60, 75] M M := Fr.rf
  obtain ⟨b2, hc1, h⟩ := of_bd1 h
  by_cases c3 : wr (bI b2) = 0
  · rw [if_pos c3] at h
    cases h
    exact F
  · rw [if_neg c3] at h
    obtain ⟨b5, hc4, h⟩ := of_bd1 h
    by_cases c6 : wr (bI b5) = 0
    · rw [if_pos c6] at h
      cases h
      exact F
    · rw [if_neg c6] at h
      by_cases c7 : 0 ≤ wr a3
      · rw [if_pos c7] at h
        obtain ⟨r9, hc8, h⟩ := of_bd1 h
        by_cases c10 : 0 ≤ wr r9
        · rw [if_pos c10] at h
          obtain ⟨r12, M13, hc11, h⟩ := of_bd2 h
          have F := F.trans (fr_X12_ringMany hc11) (by decide)
          by_cases c14 : wr a3 < wr r12
          · rw [if_pos c14] at h
            obtain ⟨y25, M26, h9, h⟩ := of_bd2 h
            have F := F.trans (fl_X12_wind_L51 a1 a2 a3 FU _ _ _ h9 Fr.rf) (by decide)
            clear h9
            obtain ⟨r28, hc27, h⟩ := of_bd1 h
            cases h
            exact F
          · rw [if_neg c14] at h
            cases h
            exact F
        · rw [if_neg c10] at h
          cases h
          exact F
      · rw [if_neg c7] at h
        cases h
        exact F

set_option maxRecDepth 10000 in
theorem fl_X12_sheet_L46 (p1 : Int) (p3 : Int) {M0 : Mem} : ∀ (nn : Nat) (x4 : Int) (M : Mem) (out : Int × Mem), itr (fun s => m_X12_sheet_L46 s.2 p1 p3 s.1) nn (x4, M) = some out → Fr [78] M0 M → Fr [78] M0 out.2 := by
  intro nn
  induction nn with
  | zero =>
    intro x4 M out h _
    cases h
  | succ nn ih =>
    intro x4 M out h0 F
    obtain ⟨w, h, k1, k2⟩ := itr_inv h0
    have h : m_X12_sheet_L46 M p1 p3 x4 = some w := h
    unfold m_X12_sheet_L46 at h
    by_cases c12 : wr 64 ≤ wr x4
    · rw [if_pos c12] at h
      cases h
      cases k2 _ rfl
      exact F
    · rw [if_neg c12] at h
      obtain ⟨c13, h⟩ := of_ck h
      obtain ⟨M14, eM14, h⟩ := of_lt h
      have F := F.sI (by decide) eM14
      cases h
      exact ih _ _  _ (k1 _ rfl) F

set_option maxRecDepth 10000 in
theorem fr_X12_sheet {M : Mem} {M2 : Mem} {a1 : Int} {a2 : Int} {a3 : Int} {r : Int} (h : m_X12_sheet M a1 a2 a3 = some (r, M2)) : Fr [76, 77, 78] M M2 := by
  unfold m_X12_sheet at h
  have F : Fr [76, 77, 78] M M := Fr.rf
  obtain ⟨b2, hc1, h⟩ := of_bd1 h
  by_cases c3 : wr (bI b2) = 0
  · rw [if_pos c3] at h
    cases h
    exact F
  · rw [if_neg c3] at h
    obtain ⟨b5, hc4, h⟩ := of_bd1 h
    by_cases c6 : wr (bI b5) = 0
    · rw [if_pos c6] at h
      cases h
      exact F
    · rw [if_neg c6] at h
      by_cases c7 : wr a3 ≤ wr 64
      · rw [if_pos c7] at h
        by_cases c8 : 0 ≤ wr a3
        · rw [if_pos c8] at h
          obtain ⟨c9, h⟩ := of_ck h
          obtain ⟨M10, eM10, h⟩ := of_lt h
          have F := F.sI (by decide) eM10
          obtain ⟨M11, eM11, h⟩ := of_lt h
          have F := F.sI (by decide) eM11
          obtain ⟨y15, M16, h9, h⟩ := of_bd2 h
          have F := F.trans (fl_X12_sheet_L46 a1 a3 FU _ _ _ h9 Fr.rf) (by decide)
          clear h9
          cases h
          exact F
        · rw [if_neg c8] at h
          cases h
          exact F
      · rw [if_neg c7] at h
        cases h
        exact F

set_option maxRecDepth 10000 in
theorem fr_X12_drop {M : Mem} {M2 : Mem} {a1 : Int} {r : Int} (h : m_X12_drop M a1 = some (r, M2)) : Fr [76] M M2 := by
  unfold m_X12_drop at h
  have F : Fr [76] M M := Fr.rf
  obtain ⟨b2, hc1, h⟩ := of_bd1 h
  by_cases c3 : wr (bI b2) = 0
  · rw [if_pos c3] at h
    cases h
    exact F
  · rw [if_neg c3] at h
    obtain ⟨c4, h⟩ := of_ck h
    by_cases c5 : 0 ≤ wr (gI M 76 (wr a1))
    · rw [if_pos c5] at h
      obtain ⟨M6, eM6, h⟩ := of_lt h
      have F := F.sI (by decide) eM6
      cases h
      exact F
    · rw [if_neg c5] at h
      cases h
      exact F

set_option maxRecDepth 10000 in
theorem fr_X12_item {M : Mem} {M2 : Mem} {a1 : Int} {a2 : Int} {a3 : Int} {a4 : Int} {r : Int} (h : m_X12_item M a1 a2 a3 a4 = some (r, M2)) : Fr [78] M M2 := by
  unfold m_X12_item at h
  have F : Fr [78] M M := Fr.rf
  obtain ⟨b2, hc1, h⟩ := of_bd1 h
  by_cases c3 : wr (bI b2) = 0
  · rw [if_pos c3] at h
    cases h
    exact F
  · rw [if_neg c3] at h
    obtain ⟨b5, hc4, h⟩ := of_bd1 h
    by_cases c6 : wr (bI b5) = 0
    · rw [if_pos c6] at h
      cases h
      exact F
    · rw [if_neg c6] at h
      obtain ⟨r8, hc7, h⟩ := of_bd1 h
      by_cases c9 : 0 ≤ wr r8
      · rw [if_pos c9] at h
        obtain ⟨v13, ev13, h⟩ := of_lt h
        obtain ⟨c14, h⟩ := of_ck h
        obtain ⟨M15, eM15, h⟩ := of_lt h
        have F := F.sI (by decide) eM15
        cases h
        exact F
      · rw [if_neg c9] at h
        cases h
        exact F

set_option maxRecDepth 10000 in
theorem fl_X12_copy_L101 (p1 : Int) (p2 : Int) (p3 : Int) (p4 : Int) (p5 : Int) {M0 : Mem} : ∀ (nn : Nat) (x6 : Int) (M : Mem) (out : Int × Mem), itr (fun s => m_X12_copy_L101 s.2 p1 p2 p3 p4 p5 s.1) nn (x6, M) = some out → Fr [79] M0 M → Fr [79] M0 out.2 := by
  intro nn
  induction nn with
  | zero =>
    intro x6 M out h _
    cases h
  | succ nn ih =>
    intro x6 M out h0 F
    obtain ⟨w, h, k1, k2⟩ := itr_inv h0
    have h : m_X12_copy_L101 M p1 p2 p3 p4 p5 x6 = some w := h
    unfold m_X12_copy_L101 at h
    by_cases c19 : wr p5 ≤ wr x6
    · rw [if_pos c19] at h
      cases h
      cases k2 _ rfl
      exact F
    · rw [if_neg c19] at h
      obtain ⟨c20, h⟩ := of_ck h
      obtain ⟨c21, h⟩ := of_ck h
      obtain ⟨M22, eM22, h⟩ := of_lt h
      have F := F.sI (by decide) eM22
      cases h
      exact ih _ _  _ (k1 _ rfl) F

set_option maxRecDepth 10000 in
theorem fl_X12_copy_L138 (p3 : Int) (p4 : Int) (p5 : Int) {M0 : Mem} : ∀ (nn : Nat) (x6 : Int) (M : Mem) (out : Int × Mem), itr (fun s => m_X12_copy_L138 s.2 p3 p4 p5 s.1) nn (x6, M) = some out → Fr [78] M0 M → Fr [78] M0 out.2 := by
  intro nn
  induction nn with
  | zero =>
    intro x6 M out h _
    cases h
  | succ nn ih =>
    intro x6 M out h0 F
    obtain ⟨w, h, k1, k2⟩ := itr_inv h0
    have h : m_X12_copy_L138 M p3 p4 p5 x6 = some w := h
    unfold m_X12_copy_L138 at h
    by_cases c25 : wr p5 ≤ wr x6
    · rw [if_pos c25] at h
      cases h
      cases k2 _ rfl
      exact F
    · rw [if_neg c25] at h
      obtain ⟨c26, h⟩ := of_ck h
      obtain ⟨c27, h⟩ := of_ck h
      obtain ⟨M28, eM28, h⟩ := of_lt h
      have F := F.sI (by decide) eM28
      cases h
      exact ih _ _  _ (k1 _ rfl) F

set_option maxRecDepth 10000 in
theorem fr_X12_copy {M : Mem} {M2 : Mem} {a1 : Int} {a2 : Int} {a3 : Int} {a4 : Int} {a5 : Int} {r : Int} (h : m_X12_copy M a1 a2 a3 a4 a5 = some (r, M2)) : Fr [78, 79] M M2 := by
  unfold m_X12_copy at h
  have F : Fr [78, 79] M M := Fr.rf
  obtain ⟨b2, hc1, h⟩ := of_bd1 h
  by_cases c3 : wr (bI b2) = 0
  · rw [if_pos c3] at h
    cases h
    exact F
  · rw [if_neg c3] at h
    obtain ⟨b5, hc4, h⟩ := of_bd1 h
    by_cases c6 : wr (bI b5) = 0
    · rw [if_pos c6] at h
      cases h
      exact F
    · rw [if_neg c6] at h
      obtain ⟨c7, h⟩ := of_ck h
      by_cases c8 : wr (gI M 76 (wr a1)) < 0
      · rw [if_pos c8] at h
        cases h
        exact F
      · rw [if_neg c8] at h
        obtain ⟨c9, h⟩ := of_ck h
        by_cases c10 : 0 ≤ wr (gI M 76 (wr a3))
        · rw [if_pos c10] at h
          by_cases c11 : wr (gI M 76 (wr a1)) = wr (gI M 76 (wr a3))
          · rw [if_pos c11] at h
            by_cases c12 : wr a5 < 0
            · rw [if_pos c12] at h
              cases h
              exact F
            · rw [if_neg c12] at h
              obtain ⟨r14, hc13, h⟩ := of_bd1 h
              by_cases c15 : wr r14 < 0
              · rw [if_pos c15] at h
                cases h
                exact F
              · rw [if_neg c15] at h
                obtain ⟨r17, hc16, h⟩ := of_bd1 h
                by_cases c18 : 0 ≤ wr r17
                · rw [if_pos c18] at h
                  obtain ⟨y23, M24, h9, h⟩ := of_bd2 h
                  have F := F.trans (fl_X12_copy_L101 a1 a2 a3 a4 a5 FU _ _ _ h9 Fr.rf) (by decide)
                  clear h9
                  obtain ⟨y29, M30, h9, h⟩ := of_bd2 h
                  have F := F.trans (fl_X12_copy_L138 a3 a4 a5 FU _ _ _ h9 Fr.rf) (by decide)
                  clear h9
                  cases h
                  exact F
                · rw [if_neg c18] at h
                  cases h
                  exact F
          · rw [if_neg c11] at h
            cases h
            exact F
        · rw [if_neg c10] at h
          cases h
          exact F

