set_option maxRecDepth 10000 in
theorem fr_X11_cheapest {M : Mem} {M2 : Mem} {a1 : Int} {r : Int} (h : m_X11_cheapest M a1 = some (r, M2)) : Fr [8, 9, 11, 39, 40, 41, 42, 43, 44, 45, 46] M M2 := by
  unfold m_X11_cheapest at h
  have F : Fr [8, 9, 11, 39, 40, 41, 42, 43, 44, 45, 46] M M := Fr.rf
  obtain ⟨b2, hc1, h⟩ := of_bd1 h
  by_cases c3 : wr (bI b2) = 0
  · rw [if_pos c3] at h
    cases h
    exact F
  · rw [if_neg c3] at h
    obtain ⟨r5, M6, hc4, h⟩ := of_bd2 h
    have F := F.trans (fr_X7_leastCost hc4) (by decide)
    by_cases c7 : r5 < (1099511627776)
    · rw [if_pos c7] at h
      obtain ⟨c8, h⟩ := of_ck h
      obtain ⟨M10, hc9, h⟩ := of_bd1 h
      have F := F.trans (fr_X7_layCheapest hc9) (List.forall_mem_cons.mpr ⟨(by decide), List.forall_mem_cons.mpr ⟨(by decide), List.forall_mem_cons.mpr ⟨(by decide), List.forall_mem_cons.mpr ⟨(slo_in1 (by with_reducible assumption) (by decide)), List.forall_mem_cons.mpr ⟨(slo_in (by with_reducible assumption) (by decide)), fun _ h => absurd h List.not_mem_nil⟩⟩⟩⟩⟩)
      cases h
      exact F
    · rw [if_neg c7] at h
      cases h
      exact F

set_option maxRecDepth 10000 in
theorem fr_X11_keep {M : Mem} {M2 : Mem} {a1 : Int} {a2 : Int} {r : Int} (h : m_X11_keep M a1 a2 = some (r, M2)) : Fr [39, 40, 41, 42, 43, 44, 45, 46] M M2 := by
  unfold m_X11_keep at h
  have F : Fr [39, 40, 41, 42, 43, 44, 45, 46] M M := Fr.rf
  obtain ⟨b2, hc1, h⟩ := of_bd1 h
  by_cases c3 : wr (bI b2) = 0
  · rw [if_pos c3] at h
    cases h
    exact F
  · rw [if_neg c3] at h
    obtain ⟨b5, hc4, h⟩ := of_bd1 h
    by_cases c6 : wr (bI b5) = 0
    · rw [if_pos c6] at h
      cases h
      exact F
    · rw [if_neg c6] at h
      obtain ⟨c7, h⟩ := of_ck h
      by_cases c8 : wr (gI M (39 + 2 * (wr a1).toNat) 0) = 0
      · rw [if_pos c8] at h
        cases h
        exact F
      · rw [if_neg c8] at h
        obtain ⟨c9, h⟩ := of_ck h
        obtain ⟨M11, hc10, h⟩ := of_bd1 h
        have F := F.trans (fr_X3_take hc10) (List.forall_mem_cons.mpr ⟨(slo_in1 (by with_reducible assumption) (by decide)), List.forall_mem_cons.mpr ⟨(slo_in (by with_reducible assumption) (by decide)), fun _ h => absurd h List.not_mem_nil⟩⟩)
        cases h
        exact F

set_option maxRecDepth 10000 in
theorem fr_X11_bricks {M : Mem} {M2 : Mem} {a1 : Int} {a2 : Int} {a3 : Int} {r : Int} (h : m_X11_bricks M a1 a2 a3 = some (r, M2)) : Fr [39, 40, 41, 42, 43, 44, 45, 46] M M2 := by
  unfold m_X11_bricks at h
  have F : Fr [39, 40, 41, 42, 43, 44, 45, 46] M M := Fr.rf
  obtain ⟨b2, hc1, h⟩ := of_bd1 h
  by_cases c3 : wr (bI b2) = 0
  · rw [if_pos c3] at h
    cases h
    exact F
  · rw [if_neg c3] at h
    obtain ⟨b5, hc4, h⟩ := of_bd1 h
    by_cases c6 : wr (bI b5) = 0
    · rw [if_pos c6] at h
      cases h
      exact F
    · rw [if_neg c6] at h
      by_cases c7 : wr a3 = wr 1
      · rw [if_pos c7] at h
        obtain ⟨r9, hc8, h⟩ := of_bd1 h
        by_cases c10 : 0 ≤ wr r9
        · rw [if_pos c10] at h
          obtain ⟨c11, h⟩ := of_ck h
          obtain ⟨c12, h⟩ := of_ck h
          obtain ⟨b14, M15, hc13, h⟩ := of_bd2 h
          have F := F.trans (fr_X3_takeBricks hc13) (List.forall_mem_cons.mpr ⟨(slo_in1 (by with_reducible assumption) (by decide)), List.forall_mem_cons.mpr ⟨(slo_in (by with_reducible assumption) (by decide)), fun _ h => absurd h List.not_mem_nil⟩⟩)
          obtain ⟨v17, ev17, h⟩ := of_lt h
          cases h
          exact F
        · rw [if_neg c10] at h
          cases h
          exact F
      · rw [if_neg c7] at h
        by_cases c18 : wr a3 = wr 2
        · rw [if_pos c18] at h
          obtain ⟨r20, hc19, h⟩ := of_bd1 h
          by_cases c21 : 0 ≤ wr r20
          · rw [if_pos c21] at h
            obtain ⟨c22, h⟩ := of_ck h
            obtain ⟨c23, h⟩ := of_ck h
            obtain ⟨b25, M26, hc24, h⟩ := of_bd2 h
            have F := F.trans (fr_X3_takeBricks hc24) (List.forall_mem_cons.mpr ⟨(slo_in1 (by with_reducible assumption) (by decide)), List.forall_mem_cons.mpr ⟨(slo_in (by with_reducible assumption) (by decide)), fun _ h => absurd h List.not_mem_nil⟩⟩)
            obtain ⟨v28, ev28, h⟩ := of_lt h
            cases h
            exact F
          · rw [if_neg c21] at h
            cases h
            exact F
        · rw [if_neg c18] at h
          cases h
          exact F

set_option maxRecDepth 10000 in
theorem fr_X11_most {M : Mem} {M2 : Mem}  {r : Int} (h : m_X11_most M = some (r, M2)) : Fr [18, 19, 21, (21 + 1), (21 + 2)] M M2 := by
  unfold m_X11_most at h
  have F : Fr [18, 19, 21, (21 + 1), (21 + 2)] M M := Fr.rf
  obtain ⟨r2, M3, hc1, h⟩ := of_bd2 h
  have F := F.trans (fr_X2_find hc1) (List.forall_mem_cons.mpr ⟨(by simp), List.forall_mem_cons.mpr ⟨(by simp), List.forall_mem_cons.mpr ⟨(by simp), List.forall_mem_cons.mpr ⟨(by simp), List.forall_mem_cons.mpr ⟨(by simp), fun _ h => absurd h List.not_mem_nil⟩⟩⟩⟩⟩)
  cases h
  exact F

set_option maxRecDepth 10000 in
theorem fr_X11_bar {M : Mem} {M2 : Mem} {a1 : Int} {a2 : Int} {r : Int} (h : m_X11_bar M a1 a2 = some (r, M2)) : Fr [18, 19, 20, 21, (21 + 1), (21 + 2)] M M2 := by
  unfold m_X11_bar at h
  have F : Fr [18, 19, 20, 21, (21 + 1), (21 + 2)] M M := Fr.rf
  by_cases c1 : wr a1 = 0
  · rw [if_pos c1] at h
    by_cases c2 : wr a2 = 0
    · rw [if_pos c2] at h
      obtain ⟨v4, ev4, h⟩ := of_lt h
      obtain ⟨M6, hc5, h⟩ := of_bd1 h
      have F := F.trans (fr_X2_markBar hc5) (List.forall_mem_cons.mpr ⟨(by simp), List.forall_mem_cons.mpr ⟨(by simp), List.forall_mem_cons.mpr ⟨(by simp), List.forall_mem_cons.mpr ⟨(by simp), List.forall_mem_cons.mpr ⟨(by simp), List.forall_mem_cons.mpr ⟨(by simp), fun _ h => absurd h List.not_mem_nil⟩⟩⟩⟩⟩⟩)
      obtain ⟨v8, ev8, h⟩ := of_lt h
      obtain ⟨r10, hc9, h⟩ := of_bd1 h
      cases h
      exact F
    · rw [if_neg c2] at h
      by_cases c11 : wr a2 = wr 1
      · rw [if_pos c11] at h
        obtain ⟨v13, ev13, h⟩ := of_lt h
        obtain ⟨M15, hc14, h⟩ := of_bd1 h
        have F := F.trans (fr_X2_markBar hc14) (List.forall_mem_cons.mpr ⟨(by simp), List.forall_mem_cons.mpr ⟨(by simp), List.forall_mem_cons.mpr ⟨(by simp), List.forall_mem_cons.mpr ⟨(by simp), List.forall_mem_cons.mpr ⟨(by simp), List.forall_mem_cons.mpr ⟨(by simp), fun _ h => absurd h List.not_mem_nil⟩⟩⟩⟩⟩⟩)
        obtain ⟨v17, ev17, h⟩ := of_lt h
        obtain ⟨r19, hc18, h⟩ := of_bd1 h
        cases h
        exact F
      · rw [if_neg c11] at h
        cases h
        exact F
  · rw [if_neg c1] at h
    by_cases c20 : wr a1 = wr 1
    · rw [if_pos c20] at h
      by_cases c21 : wr a2 = 0
      · rw [if_pos c21] at h
        obtain ⟨v23, ev23, h⟩ := of_lt h
        obtain ⟨M25, hc24, h⟩ := of_bd1 h
        have F := F.trans (fr_X2_markBar hc24) (List.forall_mem_cons.mpr ⟨(by simp), List.forall_mem_cons.mpr ⟨(by simp), List.forall_mem_cons.mpr ⟨(by simp), List.forall_mem_cons.mpr ⟨(by simp), List.forall_mem_cons.mpr ⟨(by simp), List.forall_mem_cons.mpr ⟨(by simp), fun _ h => absurd h List.not_mem_nil⟩⟩⟩⟩⟩⟩)
        obtain ⟨v27, ev27, h⟩ := of_lt h
        obtain ⟨r29, hc28, h⟩ := of_bd1 h
        cases h
        exact F
      · rw [if_neg c21] at h
        by_cases c30 : wr a2 = wr 1
        · rw [if_pos c30] at h
          obtain ⟨v32, ev32, h⟩ := of_lt h
          obtain ⟨M34, hc33, h⟩ := of_bd1 h
          have F := F.trans (fr_X2_markBar hc33) (List.forall_mem_cons.mpr ⟨(by simp), List.forall_mem_cons.mpr ⟨(by simp), List.forall_mem_cons.mpr ⟨(by simp), List.forall_mem_cons.mpr ⟨(by simp), List.forall_mem_cons.mpr ⟨(by simp), List.forall_mem_cons.mpr ⟨(by simp), fun _ h => absurd h List.not_mem_nil⟩⟩⟩⟩⟩⟩)
          obtain ⟨v36, ev36, h⟩ := of_lt h
          obtain ⟨r38, hc37, h⟩ := of_bd1 h
          cases h
          exact F
        · rw [if_neg c30] at h
          cases h
          exact F
    · rw [if_neg c20] at h
      cases h
      exact F

set_option maxRecDepth 10000 in
theorem fr_X11_bars {M : Mem} {M2 : Mem} {a1 : Int} {a2 : Int} {r : Int} (h : m_X11_bars M a1 a2 = some (r, M2)) : Fr [18, 19, 20, 21, (21 + 1), (21 + 2)] M M2 := by
  unfold m_X11_bars at h
  have F : Fr [18, 19, 20, 21, (21 + 1), (21 + 2)] M M := Fr.rf
  by_cases c1 : wr a1 = 0
  · rw [if_pos c1] at h
    obtain ⟨b3, hc2, h⟩ := of_bd1 h
    by_cases c4 : wr (bI b3) = 0
    · rw [if_pos c4] at h
      cases h
      exact F
    · rw [if_neg c4] at h
      obtain ⟨v6, ev6, h⟩ := of_lt h
      obtain ⟨M8, hc7, h⟩ := of_bd1 h
      have F := F.trans (fr_X2_markBar hc7) (List.forall_mem_cons.mpr ⟨(by simp), List.forall_mem_cons.mpr ⟨(by simp), List.forall_mem_cons.mpr ⟨(by simp), List.forall_mem_cons.mpr ⟨(by simp), List.forall_mem_cons.mpr ⟨(by simp), List.forall_mem_cons.mpr ⟨(by simp), fun _ h => absurd h List.not_mem_nil⟩⟩⟩⟩⟩⟩)
      obtain ⟨c9, h⟩ := of_ck h
      cases h
      exact F
  · rw [if_neg c1] at h
    by_cases c10 : wr a1 = wr 1
    · rw [if_pos c10] at h
      obtain ⟨b12, hc11, h⟩ := of_bd1 h
      by_cases c13 : wr (bI b12) = 0
      · rw [if_pos c13] at h
        cases h
        exact F
      · rw [if_neg c13] at h
        obtain ⟨v15, ev15, h⟩ := of_lt h
        obtain ⟨M17, hc16, h⟩ := of_bd1 h
        have F := F.trans (fr_X2_markBar hc16) (List.forall_mem_cons.mpr ⟨(by simp), List.forall_mem_cons.mpr ⟨(by simp), List.forall_mem_cons.mpr ⟨(by simp), List.forall_mem_cons.mpr ⟨(by simp), List.forall_mem_cons.mpr ⟨(by simp), List.forall_mem_cons.mpr ⟨(by simp), fun _ h => absurd h List.not_mem_nil⟩⟩⟩⟩⟩⟩)
        obtain ⟨c18, h⟩ := of_ck h
        cases h
        exact F
    · rw [if_neg c10] at h
      cases h
      exact F

set_option maxRecDepth 10000 in
theorem fr_X11_whole {M : Mem} {M2 : Mem}  {r : Int} (h : m_X11_whole M = some (r, M2)) : Fr [25, (25 + 1), (25 + 2)] M M2 := by
  unfold m_X11_whole at h
  have F : Fr [25, (25 + 1), (25 + 2)] M M := Fr.rf
  obtain ⟨b2, M3, hc1, h⟩ := of_bd2 h
  have F := F.trans (fr_X5_isWhole hc1) (List.forall_mem_cons.mpr ⟨(by simp), List.forall_mem_cons.mpr ⟨(by simp), List.forall_mem_cons.mpr ⟨(by simp), fun _ h => absurd h List.not_mem_nil⟩⟩⟩)
  cases h
  exact F

set_option maxRecDepth 10000 in
theorem fr_X11_wholeFault {M : Mem} {M2 : Mem} {a1 : Int} {a2 : Int} {r : Int} (h : m_X11_wholeFault M a1 a2 = some (r, M2)) : Fr [25, (25 + 1), (25 + 2)] M M2 := by
  unfold m_X11_wholeFault at h
  have F : Fr [25, (25 + 1), (25 + 2)] M M := Fr.rf
  obtain ⟨r2, hc1, h⟩ := of_bd1 h
  by_cases c3 : 0 ≤ wr r2
  · rw [if_pos c3] at h
    obtain ⟨b5, M6, hc4, h⟩ := of_bd2 h
    have F := F.trans (fr_X5_isWhole hc4) (List.forall_mem_cons.mpr ⟨(by simp), List.forall_mem_cons.mpr ⟨(by simp), List.forall_mem_cons.mpr ⟨(by simp), fun _ h => absurd h List.not_mem_nil⟩⟩⟩)
    obtain ⟨v8, ev8, h⟩ := of_lt h
    cases h
    exact F
  · rw [if_neg c3] at h
    cases h
    exact F

set_option maxRecDepth 10000 in
theorem fr_X11_height {M : Mem} {M2 : Mem} {a1 : Int} {a2 : Int} {a3 : Int} {r : Int} (h : m_X11_height M a1 a2 a3 = some (r, M2)) : Fr [25, 29, 31, (25 + 1), (25 + 2), (31 + 1), (31 + 2)] M M2 := by
  unfold m_X11_height at h
  have F : Fr [25, 29, 31, (25 + 1), (25 + 2), (31 + 1), (31 + 2)] M M := Fr.rf
  obtain ⟨b2, hc1, h⟩ := of_bd1 h
  by_cases c3 : wr (bI b2) = 0
  · rw [if_pos c3] at h
    cases h
    exact F
  · rw [if_neg c3] at h
    obtain ⟨b5, hc4, h⟩ := of_bd1 h
    by_cases c6 : wr (bI b5) = 0
    · rw [if_pos c6] at h
      cases h
      exact F
    · rw [if_neg c6] at h
      obtain ⟨r8, M9, hc7, h⟩ := of_bd2 h
      have F := F.trans (fr_X11_wholeFault hc7) (List.forall_mem_cons.mpr ⟨(by simp), List.forall_mem_cons.mpr ⟨(by simp), List.forall_mem_cons.mpr ⟨(by simp), fun _ h => absurd h List.not_mem_nil⟩⟩⟩)
      by_cases c10 : 0 ≤ wr r8
      · rw [if_pos c10] at h
        obtain ⟨c11, h⟩ := of_ck h
        obtain ⟨M13, hc12, h⟩ := of_bd1 h
        have F := F.trans (fr_X1_measure hc12) (List.forall_mem_cons.mpr ⟨(by simp), List.forall_mem_cons.mpr ⟨(by simp), List.forall_mem_cons.mpr ⟨(by simp), List.forall_mem_cons.mpr ⟨(by simp), fun _ h => absurd h List.not_mem_nil⟩⟩⟩⟩)
        obtain ⟨c14, h⟩ := of_ck h
        cases h
        exact F
      · rw [if_neg c10] at h
        cases h
        exact F

set_option maxRecDepth 10000 in
theorem fr_X11_turn {M : Mem} {M2 : Mem} {a1 : Int} {a2 : Int} {a3 : Int} {r : Int} (h : m_X11_turn M a1 a2 a3 = some (r, M2)) : Fr [25, 39, 40, 41, 42, 43, 44, 45, 46, (25 + 1), (25 + 2)] M M2 := by
  unfold m_X11_turn at h
  have F : Fr [25, 39, 40, 41, 42, 43, 44, 45, 46, (25 + 1), (25 + 2)] M M := Fr.rf
  obtain ⟨b2, hc1, h⟩ := of_bd1 h
  by_cases c3 : wr (bI b2) = 0
  · rw [if_pos c3] at h
    cases h
    exact F
  · rw [if_neg c3] at h
    by_cases c4 : wr a2 < 0
    · rw [if_pos c4] at h
      cases h
      exact F
    · rw [if_neg c4] at h
      by_cases c5 : wr (gI M 1 0) < wr a2
      · rw [if_pos c5] at h
        cases h
        exact F
      · rw [if_neg c5] at h
        by_cases c6 : wr a3 < 0
        · rw [if_pos c6] at h
          cases h
          exact F
        · rw [if_neg c6] at h
          by_cases c7 : wr a3 ≤ wr (gI M 1 1)
          · rw [if_pos c7] at h
            obtain ⟨r9, M10, hc8, h⟩ := of_bd2 h
            have F := F.trans (fr_X11_wholeFault hc8) (List.forall_mem_cons.mpr ⟨(by simp), List.forall_mem_cons.mpr ⟨(by simp), List.forall_mem_cons.mpr ⟨(by simp), fun _ h => absurd h List.not_mem_nil⟩⟩⟩)
            by_cases c11 : 0 ≤ wr r9
            · rw [if_pos c11] at h
              obtain ⟨c12, h⟩ := of_ck h
              obtain ⟨r14, hc13, h⟩ := of_bd1 h
              by_cases c15 : 0 ≤ wr r14
              · rw [if_pos c15] at h
                obtain ⟨M17, hc16, h⟩ := of_bd1 h
                have F := F.trans (fr_X1_makeTurn hc16) (List.forall_mem_cons.mpr ⟨(slo_in1 (by with_reducible assumption) (by simp)), fun _ h => absurd h List.not_mem_nil⟩)
                cases h
                exact F
              · rw [if_neg c15] at h
                cases h
                exact F
            · rw [if_neg c11] at h
              cases h
              exact F
          · rw [if_neg c7] at h
            cases h
            exact F

set_option maxRecDepth 10000 in
theorem fr_X11_turns {M : Mem} {M2 : Mem} {a1 : Int} {a2 : Int} {r : Int} (h : m_X11_turns M a1 a2 = some (r, M2)) : Fr [25, (25 + 1), (25 + 2)] M M2 := by
  unfold m_X11_turns at h
  have F : Fr [25, (25 + 1), (25 + 2)] M M := Fr.rf
  obtain ⟨b2, hc1, h⟩ := of_bd1 h
  by_cases c3 : wr (bI b2) = 0
  · rw [if_pos c3] at h
    cases h
    exact F
  · rw [if_neg c3] at h
    by_cases c4 : wr a2 = 0
    · rw [if_pos c4] at h
      obtain ⟨r6, M7, hc5, h⟩ := of_bd2 h
      have F := F.trans (fr_X11_wholeFault hc5) (List.forall_mem_cons.mpr ⟨(by simp), List.forall_mem_cons.mpr ⟨(by simp), List.forall_mem_cons.mpr ⟨(by simp), fun _ h => absurd h List.not_mem_nil⟩⟩⟩)
      obtain ⟨v12, h9, h⟩ := of_bd1 h
      clear h9
      cases h
      exact F
    · rw [if_neg c4] at h
      by_cases c13 : wr a2 = wr 1
      · rw [if_pos c13] at h
        obtain ⟨r15, M16, hc14, h⟩ := of_bd2 h
        have F := F.trans (fr_X11_wholeFault hc14) (List.forall_mem_cons.mpr ⟨(by simp), List.forall_mem_cons.mpr ⟨(by simp), List.forall_mem_cons.mpr ⟨(by simp), fun _ h => absurd h List.not_mem_nil⟩⟩⟩)
        obtain ⟨v21, h9, h⟩ := of_bd1 h
        clear h9
        cases h
        exact F
      · rw [if_neg c13] at h
        cases h
        exact F

set_option maxRecDepth 10000 in
theorem fr_X11_settle {M : Mem} {M2 : Mem} {a1 : Int} {a2 : Int} {r : Int} (h : m_X11_settle M a1 a2 = some (r, M2)) : Fr [25, 39, 40, 41, 42, 43, 44, 45, 46, (25 + 1), (25 + 2)] M M2 := by
  unfold m_X11_settle at h
  have F : Fr [25, 39, 40, 41, 42, 43, 44, 45, 46, (25 + 1), (25 + 2)] M M := Fr.rf
  obtain ⟨b2, hc1, h⟩ := of_bd1 h
  by_cases c3 : wr (bI b2) = 0
  · rw [if_pos c3] at h
    cases h
    exact F
  · rw [if_neg c3] at h
    by_cases c4 : wr a2 = 0
    · rw [if_pos c4] at h
      obtain ⟨r6, M7, hc5, h⟩ := of_bd2 h
      have F := F.trans (fr_X11_wholeFault hc5) (List.forall_mem_cons.mpr ⟨(by simp), List.forall_mem_cons.mpr ⟨(by simp), List.forall_mem_cons.mpr ⟨(by simp), fun _ h => absurd h List.not_mem_nil⟩⟩⟩)
      obtain ⟨v13, M14, h9, h⟩ := of_bd2 h
      have F : Fr [25, 39, 40, 41, 42, 43, 44, 45, 46, (25 + 1), (25 + 2)] M M14 := by
        have h := h9
        by_cases c8 : 0 ≤ wr r6
        · rw [if_pos c8] at h
          obtain ⟨c9, h⟩ := of_ck h
          obtain ⟨r11, M12, hc10, h⟩ := of_bd2 h
          have F := F.trans (fr_X1_turnAll hc10) (List.forall_mem_cons.mpr ⟨(slo_in1 (by with_reducible assumption) (by simp)), fun _ h => absurd h List.not_mem_nil⟩)
          cases h
          exact F
        · rw [if_neg c8] at h
          cases h
          exact F
      clear h9
      cases h
      exact F
    · rw [if_neg c4] at h
      by_cases c15 : wr a2 = wr 1
      · rw [if_pos c15] at h
        obtain ⟨r17, M18, hc16, h⟩ := of_bd2 h
        have F := F.trans (fr_X11_wholeFault hc16) (List.forall_mem_cons.mpr ⟨(by simp), List.forall_mem_cons.mpr ⟨(by simp), List.forall_mem_cons.mpr ⟨(by simp), fun _ h => absurd h List.not_mem_nil⟩⟩⟩)
        obtain ⟨v24, M25, h9, h⟩ := of_bd2 h
        have F : Fr [25, 39, 40, 41, 42, 43, 44, 45, 46, (25 + 1), (25 + 2)] M M25 := by
          have h := h9
          by_cases c19 : 0 ≤ wr r17
          · rw [if_pos c19] at h
            obtain ⟨c20, h⟩ := of_ck h
            obtain ⟨r22, M23, hc21, h⟩ := of_bd2 h
            have F := F.trans (fr_X1_turnAll hc21) (List.forall_mem_cons.mpr ⟨(slo_in1 (by with_reducible assumption) (by simp)), fun _ h => absurd h List.not_mem_nil⟩)
            cases h
            exact F
          · rw [if_neg c19] at h
            cases h
            exact F
        clear h9
        cases h
        exact F
      · rw [if_neg c15] at h
        cases h
        exact F

set_option maxRecDepth 10000 in
theorem fr_X11_far {M : Mem} {M2 : Mem} {a1 : Int} {a2 : Int} {r : Int} (h : m_X11_far M a1 a2 = some (r, M2)) : Fr [25, 29, 30, 31, (25 + 1), (25 + 2), (31 + 1), (31 + 2)] M M2 := by
  unfold m_X11_far at h
  have F : Fr [25, 29, 30, 31, (25 + 1), (25 + 2), (31 + 1), (31 + 2)] M M := Fr.rf
  obtain ⟨r2, M3, hc1, h⟩ := of_bd2 h
  have F := F.trans (fr_X11_wholeFault hc1) (List.forall_mem_cons.mpr ⟨(by simp), List.forall_mem_cons.mpr ⟨(by simp), List.forall_mem_cons.mpr ⟨(by simp), fun _ h => absurd h List.not_mem_nil⟩⟩⟩)
  obtain ⟨v10, M11, h9, h⟩ := of_bd2 h
  have F : Fr [25, 29, 30, 31, (25 + 1), (25 + 2), (31 + 1), (31 + 2)] M M11 := by
    have h := h9
    by_cases c4 : 0 ≤ wr r2
    · rw [if_pos c4] at h
      obtain ⟨c5, h⟩ := of_ck h
      obtain ⟨c6, h⟩ := of_ck h
      obtain ⟨r8, M9, hc7, h⟩ := of_bd2 h
      have F := F.trans (fr_X1_distance hc7) (List.forall_mem_cons.mpr ⟨(by simp), List.forall_mem_cons.mpr ⟨(by simp), List.forall_mem_cons.mpr ⟨(by simp), List.forall_mem_cons.mpr ⟨(by simp), List.forall_mem_cons.mpr ⟨(by simp), fun _ h => absurd h List.not_mem_nil⟩⟩⟩⟩⟩)
      cases h
      exact F
    · rw [if_neg c4] at h
      cases h
      exact F
  clear h9
  cases h
  exact F

set_option maxRecDepth 10000 in
theorem fr_X11_toward {M : Mem} {M2 : Mem} {a1 : Int} {a2 : Int} {r : Int} (h : m_X11_toward M a1 a2 = some (r, M2)) : Fr [25, 29, 30, 31, 39, 40, 41, 42, 43, 44, 45, 46, (25 + 1), (25 + 2), (31 + 1), (31 + 2)] M M2 := by
  unfold m_X11_toward at h
  have F : Fr [25, 29, 30, 31, 39, 40, 41, 42, 43, 44, 45, 46, (25 + 1), (25 + 2), (31 + 1), (31 + 2)] M M := Fr.rf
  obtain ⟨r2, M3, hc1, h⟩ := of_bd2 h
  have F := F.trans (fr_X11_wholeFault hc1) (List.forall_mem_cons.mpr ⟨(by simp), List.forall_mem_cons.mpr ⟨(by simp), List.forall_mem_cons.mpr ⟨(by simp), fun _ h => absurd h List.not_mem_nil⟩⟩⟩)
  by_cases c4 : 0 ≤ wr r2
  · rw [if_pos c4] at h
    obtain ⟨c5, h⟩ := of_ck h
    obtain ⟨c6, h⟩ := of_ck h
    obtain ⟨r8, M9, hc7, h⟩ := of_bd2 h
    have F := F.trans (fr_X1_turnToward hc7) (List.forall_mem_cons.mpr ⟨(by simp), List.forall_mem_cons.mpr ⟨(by simp), List.forall_mem_cons.mpr ⟨(by simp), List.forall_mem_cons.mpr ⟨(by simp), List.forall_mem_cons.mpr ⟨(by simp), List.forall_mem_cons.mpr ⟨(slo_in1 (by with_reducible assumption) (by simp)), fun _ h => absurd h List.not_mem_nil⟩⟩⟩⟩⟩⟩)
    obtain ⟨v11, ev11, h⟩ := of_lt h
    cases h
    exact F
  · rw [if_neg c4] at h
    cases h
    exact F

set_option maxRecDepth 10000 in
theorem fr_X11_sound {M : Mem} {M2 : Mem}  {r : Int64} (h : m_X11_sound M = some (r, M2)) : Fr [12, 13, 14, 15, 16] M M2 := by
  unfold m_X11_sound at h
  have F : Fr [12, 13, 14, 15, 16] M M := Fr.rf
  obtain ⟨r2, M3, hc1, h⟩ := of_bd2 h
  have F := F.trans (fr_X0_countSound hc1) (by decide)
  cases h
  exact F

set_option maxRecDepth 10000 in
theorem fr_X11_rings {M : Mem} {M2 : Mem} {a1 : Int} {a2 : Int} {r : Int} (h : m_X11_rings M a1 a2 = some (r, M2)) : Fr [35, 36] M M2 := by
  unfold m_X11_rings at h
  have F : Fr [35, 36] M M := Fr.rf
  obtain ⟨r2, hc1, h⟩ := of_bd1 h
  obtain ⟨v9, M10, h9, h⟩ := of_bd2 h
  have F : Fr [35, 36] M M10 := by
    have h := h9
    by_cases c3 : 0 ≤ wr r2
    · rw [if_pos c3] at h
      obtain ⟨c4, h⟩ := of_ck h
      obtain ⟨c5, h⟩ := of_ck h
      obtain ⟨r7, M8, hc6, h⟩ := of_bd2 h
      have F := F.trans (fr_X4_trace hc6) (by decide)
      cases h
      exact F
    · rw [if_neg c3] at h
      cases h
      exact F
  clear h9
  cases h
  exact F

set_option maxRecDepth 10000 in
theorem fr_X11_ringFault {M : Mem} {M2 : Mem} {a1 : Int} {a2 : Int} {a3 : Int} {r : Int} (h : m_X11_ringFault M a1 a2 a3 = some (r, M2)) : Fr [35, 36] M M2 := by
  unfold m_X11_ringFault at h
  have F : Fr [35, 36] M M := Fr.rf
  by_cases c1 : 0 ≤ wr a3
  · rw [if_pos c1] at h
    obtain ⟨r3, hc2, h⟩ := of_bd1 h
    by_cases c4 : 0 ≤ wr r3
    · rw [if_pos c4] at h
      obtain ⟨c5, h⟩ := of_ck h
      obtain ⟨c6, h⟩ := of_ck h
      obtain ⟨r8, M9, hc7, h⟩ := of_bd2 h
      have F := F.trans (fr_X4_trace hc7) (by decide)
      obtain ⟨v11, ev11, h⟩ := of_lt h
      cases h
      exact F
    · rw [if_neg c4] at h
      cases h
      exact F
  · rw [if_neg c1] at h
    cases h
    exact F

set_option maxRecDepth 10000 in
theorem fr_X11_ring {M : Mem} {M2 : Mem} {a1 : Int} {a2 : Int} {a3 : Int} {r : Int} (h : m_X11_ring M a1 a2 a3 = some (r, M2)) : Fr [35, 36] M M2 := by
  unfold m_X11_ring at h
  have F : Fr [35, 36] M M := Fr.rf
  obtain ⟨r2, M3, hc1, h⟩ := of_bd2 h
  have F := F.trans (fr_X11_ringFault hc1) (by decide)
  obtain ⟨v6, h9, h⟩ := of_bd1 h
  clear h9
  cases h
  exact F

set_option maxRecDepth 10000 in
theorem fr_X11_wind {M : Mem} {M2 : Mem} {a1 : Int} {a2 : Int} {a3 : Int} {r : Int} (h : m_X11_wind M a1 a2 a3 = some (r, M2)) : Fr [35, 36, 39, 40, 41, 42, 43, 44, 45, 46] M M2 := by
  unfold m_X11_wind at h
  have F : Fr [35, 36, 39, 40, 41, 42, 43, 44, 45, 46] M M := Fr.rf
  obtain ⟨r2, M3, hc1, h⟩ := of_bd2 h
  have F := F.trans (fr_X11_ringFault hc1) (by decide)
  by_cases c4 : 0 ≤ wr r2
  · rw [if_pos c4] at h
    obtain ⟨c5, h⟩ := of_ck h
    obtain ⟨c6, h⟩ := of_ck h
    obtain ⟨M8, hc7, h⟩ := of_bd1 h
    have F := F.trans (fr_X4_takeOver hc7) (List.forall_mem_cons.mpr ⟨(slo_in1 (by with_reducible assumption) (by decide)), fun _ h => absurd h List.not_mem_nil⟩)
    obtain ⟨c9, h⟩ := of_ck h
    cases h
    exact F
  · rw [if_neg c4] at h
    cases h
    exact F

set_option maxRecDepth 10000 in
theorem fr_X11_sheet {M : Mem} {M2 : Mem} {a1 : Int} {a2 : Int} {a3 : Int} {r : Int} (h : m_X11_sheet M a1 a2 a3 = some (r, M2)) : Fr [47, 48, 49, 50, 51, 52, 53, 54] M M2 := by
  unfold m_X11_sheet at h
  have F : Fr [47, 48, 49, 50, 51, 52, 53, 54] M M := Fr.rf
  obtain ⟨b2, hc1, h⟩ := of_bd1 h
  by_cases c3 : wr (bI b2) = 0
  · rw [if_pos c3] at h
    cases h
    exact F
  · rw [if_neg c3] at h
    obtain ⟨b5, hc4, h⟩ := of_bd1 h
    by_cases c6 : wr (bI b5) = 0
    · rw [if_pos c6] at h
      cases h
      exact F
    · rw [if_neg c6] at h
      by_cases c7 : wr a3 ≤ wr 64
      · rw [if_pos c7] at h
        by_cases c8 : 0 ≤ wr a3
        · rw [if_pos c8] at h
          obtain ⟨c9, h⟩ := of_ck h
          obtain ⟨M11, hc10, h⟩ := of_bd1 h
          have F := F.trans (fr_X6_start hc10) (List.forall_mem_cons.mpr ⟨(she_in1 (by with_reducible assumption) (by decide)), List.forall_mem_cons.mpr ⟨(she_in (by with_reducible assumption) (by decide)), fun _ h => absurd h List.not_mem_nil⟩⟩)
          cases h
          exact F
        · rw [if_neg c8] at h
          cases h
          exact F
      · rw [if_neg c7] at h
        cases h
        exact F

set_option maxRecDepth 10000 in
theorem fr_X11_drop {M : Mem} {M2 : Mem} {a1 : Int} {r : Int} (h : m_X11_drop M a1 = some (r, M2)) : Fr [47, 48, 49, 50, 51, 52, 53, 54] M M2 := by
  unfold m_X11_drop at h
  have F : Fr [47, 48, 49, 50, 51, 52, 53, 54] M M := Fr.rf
  obtain ⟨b2, hc1, h⟩ := of_bd1 h
  by_cases c3 : wr (bI b2) = 0
  · rw [if_pos c3] at h
    cases h
    exact F
  · rw [if_neg c3] at h
    obtain ⟨c4, h⟩ := of_ck h
    by_cases c5 : wr (gI M (47 + 2 * (wr a1).toNat) 0) = 0
    · rw [if_pos c5] at h
      cases h
      exact F
    · rw [if_neg c5] at h
      obtain ⟨M6, eM6, h⟩ := of_lt h
      have F := F.sI (she_in (by with_reducible assumption) (by decide)) eM6
      cases h
      exact F

set_option maxRecDepth 10000 in
theorem fr_X11_item {M : Mem} {M2 : Mem} {a1 : Int} {a2 : Int} {a3 : Int} {a4 : Int} {r : Int} (h : m_X11_item M a1 a2 a3 a4 = some (r, M2)) : Fr [47, 48, 49, 50, 51, 52, 53, 54] M M2 := by
  unfold m_X11_item at h
  have F : Fr [47, 48, 49, 50, 51, 52, 53, 54] M M := Fr.rf
  obtain ⟨b2, hc1, h⟩ := of_bd1 h
  by_cases c3 : wr (bI b2) = 0
  · rw [if_pos c3] at h
    cases h
    exact F
  · rw [if_neg c3] at h
    obtain ⟨b5, hc4, h⟩ := of_bd1 h
    by_cases c6 : wr (bI b5) = 0
    · rw [if_pos c6] at h
      cases h
      exact F
    · rw [if_neg c6] at h
      obtain ⟨r8, hc7, h⟩ := of_bd1 h
      by_cases c9 : 0 ≤ wr r8
      · rw [if_pos c9] at h
        by_cases c10 : wr a3 < 0
        · rw [if_pos c10] at h
          cases h
          exact F
        · rw [if_neg c10] at h
          obtain ⟨c11, h⟩ := of_ck h
          by_cases c12 : wr a3 < wr (gI M (47 + 2 * (wr a1).toNat) 2)
          · rw [if_pos c12] at h
            obtain ⟨M14, hc13, h⟩ := of_bd1 h
            have F := F.trans (fr_X6_put hc13) (List.forall_mem_cons.mpr ⟨(she_in1 (by with_reducible assumption) (by decide)), fun _ h => absurd h List.not_mem_nil⟩)
            cases h
            exact F
          · rw [if_neg c12] at h
            cases h
            exact F
      · rw [if_neg c9] at h
        cases h
        exact F

set_option maxRecDepth 10000 in
theorem fr_X11_copy {M : Mem} {M2 : Mem} {a1 : Int} {a2 : Int} {a3 : Int} {a4 : Int} {a5 : Int} {r : Int} (h : m_X11_copy M a1 a2 a3 a4 a5 = some (r, M2)) : Fr [47, 48, 49, 50, 51, 52, 53, 54] M M2 := by
  unfold m_X11_copy at h
  have F : Fr [47, 48, 49, 50, 51, 52, 53, 54] M M := Fr.rf
  obtain ⟨b2, hc1, h⟩ := of_bd1 h
  by_cases c3 : wr (bI b2) = 0
  · rw [if_pos c3] at h
    cases h
    exact F
  · rw [if_neg c3] at h
    obtain ⟨b5, hc4, h⟩ := of_bd1 h
    by_cases c6 : wr (bI b5) = 0
    · rw [if_pos c6] at h
      cases h
      exact F
    · rw [if_neg c6] at h
      obtain ⟨c7, h⟩ := of_ck h
      obtain ⟨c8, h⟩ := of_ck h
      by_cases c9 : wr (gI M (47 + 2 * (wr a1).toNat) 0) = 0
      · rw [if_pos c9] at h
        cases h
        exact F
      · rw [if_neg c9] at h
        by_cases c10 : wr (gI M (47 + 2 * (wr a3).toNat) 0) = 0
        · rw [if_pos c10] at h
          cases h
          exact F
        · rw [if_neg c10] at h
          by_cases c11 : wr (gI M (47 + 2 * (wr a1).toNat) 1) = wr (gI M (47 + 2 * (wr a3).toNat) 1)
          · rw [if_pos c11] at h
            obtain ⟨b13, hc12, h⟩ := of_bd1 h
            by_cases c14 : wr (bI b13) = 0
            · rw [if_pos c14] at h
              cases h
              exact F
            · rw [if_neg c14] at h
              obtain ⟨b16, hc15, h⟩ := of_bd1 h
              by_cases c17 : wr (bI b16) = 0
              · rw [if_pos c17] at h
                cases h
                exact F
              · rw [if_neg c17] at h
                obtain ⟨c18, h⟩ := of_ck h
                obtain ⟨M19, eM19, h⟩ := of_lt h
                have F := F.cpI (she_in1 (by with_reducible assumption) (by decide)) eM19
                cases h
                exact F
          · rw [if_neg c11] at h
            cases h
            exact F

set_option maxRecDepth 10000 in
theorem fl_X12_emptySlots_L2  {M0 : Mem} : ∀ (nn : Nat) (x1 : Int) (M : Mem) (out : Int × Mem), itr (fun s => m_X12_emptySlots_L2 s.2  s.1) nn (x1, M) = some out → Fr [59] M0 M → Fr [59] M0 out.2 := by
  intro nn
  induction nn with
  | zero =>
    intro x1 M out h _
    cases h
  | succ nn ih =>
    intro x1 M out h0 F
    obtain ⟨w, h, k1, k2⟩ := itr_inv h0
    have h : m_X12_emptySlots_L2 M  x1 = some w := h
    unfold m_X12_emptySlots_L2 at h
    by_cases c1 : wr 4 ≤ wr x1
    · rw [if_pos c1] at h
      cases h
      cases k2 _ rfl
      exact F
    · rw [if_neg c1] at h
      obtain ⟨c2, h⟩ := of_ck h
      obtain ⟨M3, eM3, h⟩ := of_lt h
      have F := F.sI (by decide) eM3
      cases h
      exact ih _ _  _ (k1 _ rfl) F

set_option maxRecDepth 10000 in
theorem fr_X12_emptySlots {M : Mem} {M2 : Mem}  (h : m_X12_emptySlots M = some (M2)) : Fr [59] M M2 := by
  unfold m_X12_emptySlots at h
  have F : Fr [59] M M := Fr.rf
  obtain ⟨y4, M5, h9, h⟩ := of_bd2 h
  have F := F.trans (fl_X12_emptySlots_L2  FU _ _ _ h9 Fr.rf) (by decide)
  clear h9
  cases h
  exact F

set_option maxRecDepth 10000 in
theorem fl_X12_begins_L12  {M0 : Mem} : ∀ (nn : Nat) (x3 : Int) (M : Mem) (out : Int × Mem), itr (fun s => m_X12_begins_L12 s.2  s.1) nn (x3, M) = some out → Fr [56] M0 M → Fr [56] M0 out.2 := by
  intro nn
  induction nn with
  | zero =>
    intro x3 M out h _
    cases h
  | succ nn ih =>
    intro x3 M out h0 F
    obtain ⟨w, h, k1, k2⟩ := itr_inv h0
    have h : m_X12_begins_L12 M  x3 = some w := h
    unfold m_X12_begins_L12 at h
    by_cases c3 : wr 64 ≤ wr x3
    · rw [if_pos c3] at h
      cases h
      cases k2 _ rfl
      exact F
    · rw [if_neg c3] at h
      obtain ⟨c4, h⟩ := of_ck h
      obtain ⟨M5, eM5, h⟩ := of_lt h
      have F := F.sI (by decide) eM5
      cases h
      exact ih _ _  _ (k1 _ rfl) F

set_option maxRecDepth 10000 in
theorem fl_X12_begins_L33  {M0 : Mem} : ∀ (nn : Nat) (x3 : Int) (M : Mem) (out : Int × Mem), itr (fun s => m_X12_begins_L33 s.2  s.1) nn (x3, M) = some out → Fr [57, 58] M0 M → Fr [57, 58] M0 out.2 := by
  intro nn
  induction nn with
  | zero =>
    intro x3 M out h _
    cases h
  | succ nn ih =>
    intro x3 M out h0 F
    obtain ⟨w, h, k1, k2⟩ := itr_inv h0
    have h : m_X12_begins_L33 M  x3 = some w := h
    unfold m_X12_begins_L33 at h
    by_cases c8 : wr 128 ≤ wr x3
    · rw [if_pos c8] at h
      cases h
      cases k2 _ rfl
      exact F
    · rw [if_neg c8] at h
      obtain ⟨c9, h⟩ := of_ck h
      obtain ⟨M10, eM10, h⟩ := of_lt h
      have F := F.sI (by decide) eM10
      obtain ⟨M11, eM11, h⟩ := of_lt h
      have F := F.sI (by decide) eM11
      cases h
      exact ih _ _  _ (k1 _ rfl) F

set_option maxRecDepth 10000 in
theorem fr_X12_begins {M : Mem} {M2 : Mem} {a1 : Int} {a2 : Int} (h : m_X12_begins M a1 a2 = some (M2)) : Fr [55, 56, 57, 58, 59] M M2 := by
  unfold m_X12_begins at h
  have F : Fr [55, 56, 57, 58, 59] M M := Fr.rf
  obtain ⟨M1, eM1, h⟩ := of_lt h
  have F := F.sI (by decide) eM1
  obtain ⟨M2, eM2, h⟩ := of_lt h
  have F := F.sI (by decide) eM2
  obtain ⟨y6, M7, h9, h⟩ := of_bd2 h
  have F := F.trans (fl_X12_begins_L12  FU _ _ _ h9 Fr.rf) (by decide)
  clear h9
  obtain ⟨y12, M13, h9, h⟩ := of_bd2 h
  have F := F.trans (fl_X12_begins_L33  FU _ _ _ h9 Fr.rf) (by decide)
  clear h9
  obtain ⟨M15, hc14, h⟩ := of_bd1 h
  have F := F.trans (fr_X12_emptySlots hc14) (by decide)
  cases h
  exact F

set_option maxRecDepth 10000 in
theorem fr_X12_yard {M : Mem} {M2 : Mem} {a1 : Int} {a2 : Int} {r : Int} (h : m_X12_yard M a1 a2 = some (r, M2)) : Fr [55, 56, 57, 58, 59] M M2 := by
  unfold m_X12_yard at h
  have F : Fr [55, 56, 57, 58, 59] M M := Fr.rf
  obtain ⟨b2, hc1, h⟩ := of_bd1 h
  by_cases c3 : wr (bI b2) = 0
  · rw [if_pos c3] at h
    cases h
    exact F
  · rw [if_neg c3] at h
    obtain ⟨b5, hc4, h⟩ := of_bd1 h
    by_cases c6 : wr (bI b5) = 0
    · rw [if_pos c6] at h
      cases h
      exact F
    · rw [if_neg c6] at h
      obtain ⟨M8, hc7, h⟩ := of_bd1 h
      have F := F.trans (fr_X12_begins hc7) (by decide)
      cases h
      exact F

set_option maxRecDepth 10000 in
theorem fr_X12_frees {M : Mem} {M2 : Mem} {a1 : Int} (h : m_X12_frees M a1 = some (M2)) : Fr [57, 58] M M2 := by
  unfold m_X12_frees at h
  have F : Fr [57, 58] M M := Fr.rf
  obtain ⟨c1, h⟩ := of_ck h
  obtain ⟨M2, eM2, h⟩ := of_lt h
  have F := F.sI (by decide) eM2
  obtain ⟨M3, eM3, h⟩ := of_lt h
  have F := F.sI (by decide) eM3
  cases h
  exact F

set_option maxRecDepth 10000 in
theorem fr_X12_sets {M : Mem} {M2 : Mem} {a1 : Int} {a2 : Int} (h : m_X12_sets M a1 a2 = some (M2)) : Fr [56, 57, 58, 59] M M2 := by
  unfold m_X12_sets at h
  have F : Fr [56, 57, 58, 59] M M := Fr.rf
  obtain ⟨c1, h⟩ := of_ck h
  by_cases c2 : wr (gI M 56 (wr a1)) = wr a2
  · rw [if_pos c2] at h
    cases h
    exact F
  · rw [if_neg c2] at h
    obtain ⟨c3, h⟩ := of_ck h
    obtain ⟨M4, eM4, h⟩ := of_lt h
    have F := F.sI (by decide) eM4
    obtain ⟨M6, hc5, h⟩ := of_bd1 h
    have F := F.trans (fr_X12_frees hc5) (by decide)
    obtain ⟨M8, hc7, h⟩ := of_bd1 h
    have F := F.trans (fr_X12_frees hc7) (by decide)
    obtain ⟨c9, h⟩ := of_ck h
    obtain ⟨M13, h9, h⟩ := of_bd1 h
    have F : Fr [56, 57, 58, 59] M M13 := by
      have h := h9
      by_cases c10 : wr (irm a1 (gI M8 55 0)) ≤ 0
      · rw [if_pos c10] at h
        cases h
        exact F
      · rw [if_neg c10] at h
        obtain ⟨M12, hc11, h⟩ := of_bd1 h
        have F := F.trans (fr_X12_frees hc11) (by decide)
        cases h
        exact F
    clear h9
    obtain ⟨M17, h9, h⟩ := of_bd1 h
    have F : Fr [56, 57, 58, 59] M M17 := by
      have h := h9
      by_cases c14 : wr a1 < wr (gI M13 55 0)
      · rw [if_pos c14] at h
        cases h
        exact F
      · rw [if_neg c14] at h
        obtain ⟨M16, hc15, h⟩ := of_bd1 h
        have F := F.trans (fr_X12_frees hc15) (by decide)
        cases h
        exact F
    clear h9
    obtain ⟨M19, hc18, h⟩ := of_bd1 h
    have F := F.trans (fr_X12_emptySlots hc18) (by decide)
    cases h
    exact F

set_option maxRecDepth 10000 in
theorem fr_X12_cell {M : Mem} {M2 : Mem} {a1 : Int} {a2 : Int} {r : Int} (h : m_X12_cell M a1 a2 = some (r, M2)) : Fr [56, 57, 58, 59] M M2 := by
  unfold m_X12_cell at h
  have F : Fr [56, 57, 58, 59] M M := Fr.rf
  obtain ⟨b2, hc1, h⟩ := of_bd1 h
  by_cases c3 : wr (bI b2) = 0
  · rw [if_pos c3] at h
    cases h
    exact F
  · rw [if_neg c3] at h
    obtain ⟨c4, h⟩ := of_ck h
    obtain ⟨M6, hc5, h⟩ := of_bd1 h
    have F := F.trans (fr_X12_sets hc5) (by decide)
    obtain ⟨v8, ev8, h⟩ := of_lt h
    cases h
    exact F

set_option maxRecDepth 10000 in
theorem fl_X12_type_L17 (M : Mem) (p1 : Int64) (p3 : Int) {M0 : Mem} : ∀ (nn : Nat) (x4 : Int) (out : (Int) ⊕ (Int × Mem)), itr (fun s => m_X12_type_L17 M p1 p3 s) nn (x4) = some out → Fr [] M0 M → (match out with | .inl s => True | .inr r => Fr [] M0 r.2) := by
  intro nn
  induction nn with
  | zero =>
    intro x4 out h _
    cases h
  | succ nn ih =>
    intro x4 out h0 F
    obtain ⟨w, h, k1, k2⟩ := itr_inv h0
    have h : m_X12_type_L17 M p1 p3 x4 = some w := h
    unfold m_X12_type_L17 at h
    by_cases c4 : wr p3 ≤ wr x4
    · rw [if_pos c4] at h
      cases h
      cases k2 _ rfl
      exact trivial
    · rw [if_neg c4] at h
      obtain ⟨b6, hc5, h⟩ := of_bd1 h
      by_cases c7 : wr (bI b6) = 0
      · rw [if_pos c7] at h
        cases h
        cases k2 _ rfl
        exact F
      · rw [if_neg c7] at h
        cases h
        exact ih _  _ (k1 _ rfl) F

set_option maxRecDepth 10000 in
theorem fl_X12_type_L73 (p1 : Int64) {M0 : Mem} : ∀ (nn : Nat) (x4 : Int) (M : Mem) (out : Int × Mem), itr (fun s => m_X12_type_L73 s.2 p1 s.1) nn (x4, M) = some out → Fr [55, 61] M0 M → Fr [55, 61] M0 out.2 := by
  intro nn
  induction nn with
  | zero =>
    intro x4 M out h _
    cases h
  | succ nn ih =>
    intro x4 M out h0 F
    obtain ⟨w, h, k1, k2⟩ := itr_inv h0
    have h : m_X12_type_L73 M p1 x4 = some w := h
    unfold m_X12_type_L73 at h
    by_cases c10 : wr x4 < 0
    · rw [if_pos c10] at h
      cases h
      cases k2 _ rfl
      exact F
    · rw [if_neg c10] at h
      obtain ⟨c11, h⟩ := of_ck h
      obtain ⟨M12, eM12, h⟩ := of_lt h
      have F := F.sI (by decide) eM12
      obtain ⟨M13, eM13, h⟩ := of_lt h
      have F := F.sI (by decide) eM13
      cases h
      exact ih _ _  _ (k1 _ rfl) F

set_option maxRecDepth 10000 in
theorem fr_X12_type {M : Mem} {M2 : Mem} {a1 : Int64} {a2 : Int} {r : Int} (h : m_X12_type M a1 a2 = some (r, M2)) : Fr [55, 61] M M2 := by
  unfold m_X12_type at h
  have F : Fr [55, 61] M M := Fr.rf
  obtain ⟨b2, hc1, h⟩ := of_bd1 h
  by_cases c3 : wr (bI b2) = 0
  · rw [if_pos c3] at h
    cases h
    exact F
  · rw [if_neg c3] at h
    obtain ⟨w9, h9, h⟩ := of_be1 h
    have F9 := fl_X12_type_L17 M a1 a2 FU _ w9 h9 Fr.rf
    rcases w9 with ⟨y8⟩ | ⟨r9, M9⟩
    · have h := h.1 _  rfl
      by_cases c9 : wr ((gI M 55 8) + a2) ≤ wr 90
      · rw [if_pos c9] at h
        obtain ⟨y14, M15, h9, h⟩ := of_bd2 h
        have F := F.trans (fl_X12_type_L73 a1 FU _ _ _ h9 Fr.rf) (by decide)
        clear h9
        cases h
        exact F
      · rw [if_neg c9] at h
        cases h
        exact F
    · have h := h.2 _ rfl
      have F := F.trans F9 (by decide)
      cases h
      exact F

set_option maxRecDepth 10000 in
theorem fl_X12_next_L0  {M0 : Mem} : ∀ (nn : Nat)  (M : Mem) (out : Mem), itr (fun s => m_X12_next_L0 s  ) nn (M) = some out → Fr [55] M0 M → Fr [55] M0 out := by
  intro nn
  induction nn with
  | zero =>
    intro M out h _
    cases h
  | succ nn ih =>
    intro M out h0 F
    obtain ⟨w, h, k1, k2⟩ := itr_inv h0
    have h : m_X12_next_L0 M   = some w := h
    unfold m_X12_next_L0 at h
    by_cases c1 : wr (gI M 55 8) ≤ wr (gI M 55 9)
    · rw [if_pos c1] at h
      cases h
      cases k2 _ rfl
      exact F
    · rw [if_neg c1] at h
      obtain ⟨c2, h⟩ := of_ck h
      by_cases c3 : wr (gI M 61 (wr (gI M 55 9))) = wr 32
      · rw [if_pos c3] at h
        obtain ⟨M4, eM4, h⟩ := of_lt h
        have F := F.sI (by decide) eM4
        cases h
        exact ih _  _ (k1 _ rfl) F
      · rw [if_neg c3] at h
        cases h
        cases k2 _ rfl
        exact F

set_option maxRecDepth 10000 in
theorem fr_X12_next {M : Mem} {M2 : Mem}  {r : Int} (h : m_X12_next M = some (r, M2)) : Fr [55] M M2 := by
  unfold m_X12_next at h
  have F : Fr [55] M M := Fr.rf
  obtain ⟨M5, h9, h⟩ := of_bd1 h
  have F := F.trans (fl_X12_next_L0  FU _ _ h9 Fr.rf) (by decide)
  clear h9
  obtain ⟨v8, h9, h⟩ := of_bd1 h
  clear h9
  cases h
  exact F

set_option maxRecDepth 10000 in
theorem fl_X12_read_L38 (p1 : Int) (p2 : Int) (p6 : Int) {M0 : Mem} : ∀ (nn : Nat) (x5 : Int) (M : Mem) (out : Int × Mem), itr (fun s => m_X12_read_L38 s.2 p1 p2 p6 s.1) nn (x5, M) = some out → Fr [55, 62] M0 M → Fr [55, 62] M0 out.2 := by
  intro nn
  induction nn with
  | zero =>
    intro x5 M out h _
    cases h
  | succ nn ih =>
    intro x5 M out h0 F
    obtain ⟨w, h, k1, k2⟩ := itr_inv h0
    have h : m_X12_read_L38 M p1 p2 p6 x5 = some w := h
    unfold m_X12_read_L38 at h
    by_cases c6 : wr p6 ≤ wr x5
    · rw [if_pos c6] at h
      cases h
      cases k2 _ rfl
      exact F
    · rw [if_neg c6] at h
      obtain ⟨r8, M9, hc7, h⟩ := of_bd2 h
      have F := F.trans (fr_X12_next hc7) (by decide)
      by_cases c10 : wr r8 = wr 46
      · rw [if_pos c10] at h
        obtain ⟨r12, M13, hc11, h⟩ := of_bd2 h
        have F := F.trans (fr_X12_next hc11) (by decide)
        obtain ⟨v15, ev15, h⟩ := of_lt h
        obtain ⟨c16, h⟩ := of_ck h
        obtain ⟨c17, h⟩ := of_ck h
        obtain ⟨M18, eM18, h⟩ := of_lt h
        have F := F.sI (by decide) eM18
        obtain ⟨M19, eM19, h⟩ := of_lt h
        have F := F.sI (by decide) eM19
        cases h
        exact ih _ _  _ (k1 _ rfl) F
      · rw [if_neg c10] at h
        obtain ⟨r21, M22, hc20, h⟩ := of_bd2 h
        have F := F.trans (fr_X12_next hc20) (by decide)
        by_cases c23 : wr r21 = wr 35
        · rw [if_pos c23] at h
          obtain ⟨r25, M26, hc24, h⟩ := of_bd2 h
          have F := F.trans (fr_X12_next hc24) (by decide)
          obtain ⟨v28, ev28, h⟩ := of_lt h
          obtain ⟨c29, h⟩ := of_ck h
          obtain ⟨c30, h⟩ := of_ck h
          obtain ⟨M31, eM31, h⟩ := of_lt h
          have F := F.sI (by decide) eM31
          obtain ⟨M32, eM32, h⟩ := of_lt h
          have F := F.sI (by decide) eM32
          cases h
          exact ih _ _  _ (k1 _ rfl) F
        · rw [if_neg c23] at h
          cases h
          cases k2 _ rfl
          exact F

set_option maxRecDepth 10000 in
theorem fl_X12_read_L14  {M0 : Mem} : ∀ (nn : Nat) (x1 : Int) (x2 : Int) (x3 : Int) (x4 : Int) (M : Mem) (out : Int × Int × Int × Int × Mem), itr (fun s => m_X12_read_L14 s.2.2.2.2  s.1 s.2.1 s.2.2.1 s.2.2.2.1) nn (x1, x2, x3, x4, M) = some out → Fr [55, 62] M0 M → Fr [55, 62] M0 out.2.2.2.2 := by
  intro nn
  induction nn with
  | zero =>
    intro x1 x2 x3 x4 M out h _
    cases h
  | succ nn ih =>
    intro x1 x2 x3 x4 M out h0 F
    obtain ⟨w, h, k1, k2⟩ := itr_inv h0
    have h : m_X12_read_L14 M  x1 x2 x3 x4 = some w := h
    unfold m_X12_read_L14 at h
    by_cases c2 : wr x4 = 0
    · rw [if_pos c2] at h
      cases h
      cases k2 _ rfl
      exact F
    · rw [if_neg c2] at h
      by_cases c3 : wr x3 = 0
      · rw [if_pos c3] at h
        obtain ⟨v5, ev5, h⟩ := of_lt h
        obtain ⟨y33, M34, h9, h⟩ := of_bd2 h
        have F := F.trans (fl_X12_read_L38 x1 x2 v5 FU _ _ _ h9 Fr.rf) (by decide)
        clear h9
        obtain ⟨v38, ev38, h⟩ := of_lt h
        obtain ⟨v40, ev40, h⟩ := of_lt h
        obtain ⟨v42, ev42, h⟩ := of_lt h
        obtain ⟨v49, M50, h9, h⟩ := of_bd2 h
        have F : Fr [55, 62] M0 M50 := by
          have h := h9
          by_cases c43 : wr v38 = 0
          · rw [if_pos c43] at h
            by_cases c44 : wr 8 ≤ wr (x2 + v42)
            · rw [if_pos c44] at h
              cases h
              exact F
            · rw [if_neg c44] at h
              obtain ⟨r46, M47, hc45, h⟩ := of_bd2 h
              have F := F.trans (fr_X12_next hc45) (by decide)
              by_cases c48 : wr r46 = wr 59
              · rw [if_pos c48] at h
                cases h
                exact F
              · rw [if_neg c48] at h
                cases h
                exact F
          · rw [if_neg c43] at h
            cases h
            exact F
        clear h9
        obtain ⟨v52, ev52, h⟩ := of_lt h
        obtain ⟨M53, eM53, h⟩ := of_lt h
        have F := F.sI (by decide) eM53
        cases h
        exact ih _ _ _ _ _  _ (k1 _ rfl) F
      · rw [if_neg c3] at h
        cases h
        cases k2 _ rfl
        exact F

set_option maxRecDepth 10000 in
theorem fl_X12_read_L240  {M0 : Mem} : ∀ (nn : Nat) (x5 : Int) (M : Mem) (out : Int × Mem), itr (fun s => m_X12_read_L240 s.2  s.1) nn (x5, M) = some out → Fr [56] M0 M → Fr [56] M0 out.2 := by
  intro nn
  induction nn with
  | zero =>
    intro x5 M out h _
    cases h
  | succ nn ih =>
    intro x5 M out h0 F
    obtain ⟨w, h, k1, k2⟩ := itr_inv h0
    have h : m_X12_read_L240 M  x5 = some w := h
    unfold m_X12_read_L240 at h
    by_cases c70 : wr ((gI M 55 0) * (gI M 55 1)) ≤ wr x5
    · rw [if_pos c70] at h
      cases h
      cases k2 _ rfl
      exact F
    · rw [if_neg c70] at h
      obtain ⟨c71, h⟩ := of_ck h
      obtain ⟨c72, h⟩ := of_ck h
      obtain ⟨c73, h⟩ := of_ck h
      obtain ⟨c74, h⟩ := of_ck h
      obtain ⟨M75, eM75, h⟩ := of_lt h
      have F := F.sI (by decide) eM75
      cases h
      exact ih _ _  _ (k1 _ rfl) F

set_option maxRecDepth 10000 in
theorem fr_X12_read {M : Mem} {M2 : Mem}  {r : Int} (h : m_X12_read M = some (r, M2)) : Fr [55, 56, 57, 58, 59, 62] M M2 := by
  unfold m_X12_read at h
  have F : Fr [55, 56, 57, 58, 59, 62] M M := Fr.rf
  obtain ⟨M1, eM1, h⟩ := of_lt h
  have F := F.sI (by decide) eM1
  obtain ⟨y54, y55, y56, y57, M58, h9, h⟩ := of_bd5 h
  have F := F.trans (fl_X12_read_L14  FU _ _ _ _ _ _ h9 Fr.rf) (by decide)
  clear h9
  obtain ⟨v64, M65, h9, h⟩ := of_bd2 h
  have F : Fr [55, 56, 57, 58, 59, 62] M M65 := by
    have h := h9
    by_cases c59 : wr y56 = 0
    · rw [if_pos c59] at h
      obtain ⟨r61, M62, hc60, h⟩ := of_bd2 h
      have F := F.trans (fr_X12_next hc60) (by decide)
      by_cases c63 : wr r61 = 0
      · rw [if_pos c63] at h
        cases h
        exact F
      · rw [if_neg c63] at h
        cases h
        exact F
    · rw [if_neg c59] at h
      cases h
      exact F
  clear h9
  obtain ⟨M66, eM66, h⟩ := of_lt h
  have F := F.sI (by decide) eM66
  by_cases c67 : wr v64 = 0
  · rw [if_pos c67] at h
    obtain ⟨M69, hc68, h⟩ := of_bd1 h
    have F := F.trans (fr_X12_begins hc68) (by decide)
    obtain ⟨y76, M77, h9, h⟩ := of_bd2 h
    have F := F.trans (fl_X12_read_L240  FU _ _ _ h9 Fr.rf) (by decide)
    clear h9
    obtain ⟨r79, hc78, h⟩ := of_bd1 h
    cases h
    exact F
  · rw [if_neg c67] at h
    cases h
    exact F

set_option maxRecDepth 10000 in
theorem fl_X12_lay_L77 (p1 : Int) (p2 : Int) (p3 : Int) (p5 : Int) {M0 : Mem} : ∀ (nn : Nat) (x6 : Int) (M : Mem) (out : Int × Mem), itr (fun s => m_X12_lay_L77 s.2 p1 p2 p3 p5 s.1) nn (x6, M) = some out → Fr [56, 57, 58, 59] M0 M → Fr [56, 57, 58, 59] M0 out.2 := by
  intro nn
  induction nn with
  | zero =>
    intro x6 M out h _
    cases h
  | succ nn ih =>
    intro x6 M out h0 F
    obtain ⟨w, h, k1, k2⟩ := itr_inv h0
    have h : m_X12_lay_L77 M p1 p2 p3 p5 x6 = some w := h
    unfold m_X12_lay_L77 at h
    by_cases c12 : wr p5 ≤ wr x6
    · rw [if_pos c12] at h
      cases h
      cases k2 _ rfl
      exact F
    · rw [if_neg c12] at h
      obtain ⟨c13, h⟩ := of_ck h
      obtain ⟨v15, ev15, h⟩ := of_lt h
      obtain ⟨M17, hc16, h⟩ := of_bd1 h
      have F := F.trans (fr_X12_sets hc16) (by decide)
      cases h
      exact ih _ _  _ (k1 _ rfl) F

set_option maxRecDepth 10000 in
theorem fr_X12_lay {M : Mem} {M2 : Mem} {a1 : Int} {a2 : Int} {a3 : Int} {r : Int} (h : m_X12_lay M a1 a2 a3 = some (r, M2)) : Fr [56, 57, 58, 59] M M2 := by
  unfold m_X12_lay at h
  have F : Fr [56, 57, 58, 59] M M := Fr.rf
  obtain ⟨b2, hc1, h⟩ := of_bd1 h
  by_cases c3 : wr (bI b2) = 0
  · rw [if_pos c3] at h
    cases h
    exact F
  · rw [if_neg c3] at h
    obtain ⟨b5, hc4, h⟩ := of_bd1 h
    by_cases c6 : wr (bI b5) = 0
    · rw [if_pos c6] at h
      cases h
      exact F
    · rw [if_neg c6] at h
      obtain ⟨r8, hc7, h⟩ := of_bd1 h
      by_cases c9 : 0 ≤ wr r8
      · rw [if_pos c9] at h
        obtain ⟨c10, h⟩ := of_ck h
        by_cases c11 : wr (a1 + ((gI M 77 (wr a2)) - a3)) ≤ wr ((gI M 55 0) * (gI M 55 1))
        · rw [if_pos c11] at h
          obtain ⟨y18, M19, h9, h⟩ := of_bd2 h
          have F := F.trans (fl_X12_lay_L77 a1 a2 a3 ((gI M 77 (wr a2)) - a3) FU _ _ _ h9 Fr.rf) (by decide)
          clear h9
          cases h
          exact F
        · rw [if_neg c11] at h
          cases h
          exact F
      · rw [if_neg c9] at h
        cases h
        exact F

set_option maxRecDepth 10000 in
theorem fr_X12_want {M : Mem} {M2 : Mem} {a1 : Int} {a2 : Int} {r : Int} (h : m_X12_want M a1 a2 = some (r, M2)) : Fr [57] M M2 := by
  unfold m_X12_want at h
  have F : Fr [57] M M := Fr.rf
  obtain ⟨b2, hc1, h⟩ := of_bd1 h
  by_cases c3 : wr (bI b2) = 0
  · rw [if_pos c3] at h
    cases h
    exact F
  · rw [if_neg c3] at h
    obtain ⟨b5, hc4, h⟩ := of_bd1 h
    by_cases c6 : wr (bI b5) = 0
    · rw [if_pos c6] at h
      cases h
      exact F
    · rw [if_neg c6] at h
      obtain ⟨c7, h⟩ := of_ck h
      obtain ⟨M8, eM8, h⟩ := of_lt h
      have F := F.sI (by decide) eM8
      cases h
      exact F

set_option maxRecDepth 10000 in
theorem fr_X12_price {M : Mem} {M2 : Mem} {a1 : Int} {a2 : Int} {r : Int} (h : m_X12_price M a1 a2 = some (r, M2)) : Fr [58] M M2 := by
  unfold m_X12_price at h
  have F : Fr [58] M M := Fr.rf
  obtain ⟨b2, hc1, h⟩ := of_bd1 h
  by_cases c3 : wr (bI b2) = 0
  · rw [if_pos c3] at h
    cases h
    exact F
  · rw [if_neg c3] at h
    obtain ⟨b5, hc4, h⟩ := of_bd1 h
    by_cases c6 : wr (bI b5) = 0
    · rw [if_pos c6] at h
      cases h
      exact F
    · rw [if_neg c6] at h
      obtain ⟨c7, h⟩ := of_ck h
      obtain ⟨M8, eM8, h⟩ := of_lt h
      have F := F.sI (by decide) eM8
      cases h
      exact F

set_option maxRecDepth 10000 in
theorem fl_X12_musts_L13 (p1 : Int) (p2 : Int) (p3 : Int) {M0 : Mem} : ∀ (nn : Nat) (x4 : Int) (M : Mem) (out : Int × Mem), itr (fun s => m_X12_musts_L13 s.2 p1 p2 p3 s.1) nn (x4, M) = some out → Fr [63] M0 M → Fr [63] M0 out.2 := by
  intro nn
  induction nn with
  | zero =>
    intro x4 M out h _
    cases h
  | succ nn ih =>
    intro x4 M out h0 F
    obtain ⟨w, h, k1, k2⟩ := itr_inv h0
    have h : m_X12_musts_L13 M p1 p2 p3 x4 = some w := h
    unfold m_X12_musts_L13 at h
    by_cases c3 : wr ((2 * (gI M 55 0)) * (gI M 55 1)) ≤ wr x4
    · rw [if_pos c3] at h
      cases h
      cases k2 _ rfl
      exact F
    · rw [if_neg c3] at h
      obtain ⟨r5, hc4, h⟩ := of_bd1 h
      obtain ⟨c6, h⟩ := of_ck h
      obtain ⟨v13, ev13, h⟩ := of_lt h
      obtain ⟨c14, h⟩ := of_ck h
      obtain ⟨M15, eM15, h⟩ := of_lt h
      have F := F.sI (by decide) eM15
      cases h
      exact ih _ _  _ (k1 _ rfl) F

set_option maxRecDepth 10000 in
theorem fr_X12_musts {M : Mem} {M2 : Mem} {a1 : Int} (h : m_X12_musts M a1 = some (M2)) : Fr [63] M M2 := by
  unfold m_X12_musts at h
  have F : Fr [63] M M := Fr.rf
  obtain ⟨r2, hc1, h⟩ := of_bd1 h
  obtain ⟨y16, M17, h9, h⟩ := of_bd2 h
  have F := F.trans (fl_X12_musts_L13 a1 (idv a1 2) r2 FU _ _ _ h9 Fr.rf) (by decide)
  clear h9
  cases h
  exact F

set_option maxRecDepth 10000 in
theorem fl_X12_allows_L2 (p1 : Int) {M0 : Mem} : ∀ (nn : Nat) (x2 : Int) (M : Mem) (out : Int × Mem), itr (fun s => m_X12_allows_L2 s.2 p1 s.1) nn (x2, M) = some out → Fr [63] M0 M → Fr [63] M0 out.2 := by
  intro nn
  induction nn with
  | zero =>
    intro x2 M out h _
    cases h
  | succ nn ih =>
    intro x2 M out h0 F
    obtain ⟨w, h, k1, k2⟩ := itr_inv h0
    have h : m_X12_allows_L2 M p1 x2 = some w := h
    unfold m_X12_allows_L2 at h
    by_cases c1 : wr 128 ≤ wr x2
    · rw [if_pos c1] at h
      cases h
      cases k2 _ rfl
      exact F
    · rw [if_neg c1] at h
      obtain ⟨b3, hc2, h⟩ := of_bd1 h
      obtain ⟨v8, h9, h⟩ := of_bd1 h
      clear h9
      obtain ⟨c9, h⟩ := of_ck h
      obtain ⟨c10, h⟩ := of_ck h
      obtain ⟨M11, eM11, h⟩ := of_lt h
      have F := F.sI (by decide) eM11
      cases h
      exact ih _ _  _ (k1 _ rfl) F

set_option maxRecDepth 10000 in
theorem fl_X12_allows_L50 (p1 : Int) {M0 : Mem} : ∀ (nn : Nat) (x2 : Int) (M : Mem) (out : Int × Mem), itr (fun s => m_X12_allows_L50 s.2 p1 s.1) nn (x2, M) = some out → Fr [63] M0 M → Fr [63] M0 out.2 := by
  intro nn
  induction nn with
  | zero =>
    intro x2 M out h _
    cases h
  | succ nn ih =>
    intro x2 M out h0 F
    obtain ⟨w, h, k1, k2⟩ := itr_inv h0
    have h : m_X12_allows_L50 M p1 x2 = some w := h
    unfold m_X12_allows_L50 at h
    by_cases c14 : wr 128 ≤ wr x2
    · rw [if_pos c14] at h
      cases h
      cases k2 _ rfl
      exact F
    · rw [if_neg c14] at h
      by_cases c15 : wr p1 = 0
      · rw [if_pos c15] at h
        cases h
        cases k2 _ rfl
        exact F
      · rw [if_neg c15] at h
        obtain ⟨b17, hc16, h⟩ := of_bd1 h
        obtain ⟨M23, h9, h⟩ := of_bd1 h
        have F : Fr [63] M0 M23 := by
          have h := h9
          by_cases c18 : wr (bI b17) = 0
          · rw [if_pos c18] at h
            cases h
            exact F
          · rw [if_neg c18] at h
            obtain ⟨c19, h⟩ := of_ck h
            by_cases c20 : wr (gI M 57 (wr x2)) = wr 1
            · rw [if_pos c20] at h
              obtain ⟨M22, hc21, h⟩ := of_bd1 h
              have F := F.trans (fr_X12_musts hc21) (by decide)
              cases h
              exact F
            · rw [if_neg c20] at h
              cases h
              exact F
        clear h9
        cases h
        exact ih _ _  _ (k1 _ rfl) F

set_option maxRecDepth 10000 in
theorem fr_X12_allows {M : Mem} {M2 : Mem} {a1 : Int} (h : m_X12_allows M a1 = some (M2)) : Fr [63] M M2 := by
  unfold m_X12_allows at h
  have F : Fr [63] M M := Fr.rf
  obtain ⟨y12, M13, h9, h⟩ := of_bd2 h
  have F := F.trans (fl_X12_allows_L2 a1 FU _ _ _ h9 Fr.rf) (by decide)
  clear h9
  obtain ⟨y24, M25, h9, h⟩ := of_bd2 h
  have F := F.trans (fl_X12_allows_L50 a1 FU _ _ _ h9 Fr.rf) (by decide)
  clear h9
  cases h
  exact F

set_option maxRecDepth 10000 in
theorem fl_X12_countOn_L12 (p1 : Int) {M0 : Mem} : ∀ (nn : Nat) (x2 : Int) (M : Mem) (out : Int × Mem), itr (fun s => m_X12_countOn_L12 s.2 p1 s.1) nn (x2, M) = some out → Fr [64] M0 M → Fr [64] M0 out.2 := by
  intro nn
  induction nn with
  | zero =>
    intro x2 M out h _
    cases h
  | succ nn ih =>
    intro x2 M out h0 F
    obtain ⟨w, h, k1, k2⟩ := itr_inv h0
    have h : m_X12_countOn_L12 M p1 x2 = some w := h
    unfold m_X12_countOn_L12 at h
    by_cases c1 : wr (shl 1 (gI M 55 0)) ≤ wr x2
    · rw [if_pos c1] at h
      cases h
      cases k2 _ rfl
      exact F
    · rw [if_neg c1] at h
      obtain ⟨v3, ev3, h⟩ := of_lt h
      obtain ⟨c4, h⟩ := of_ck h
      obtain ⟨M5, eM5, h⟩ := of_lt h
      have F := F.sL (by decide) eM5
      cases h
      exact ih _ _  _ (k1 _ rfl) F

set_option maxRecDepth 10000 in
theorem fl_X12_countOn_L59 (p2 : Int) {M0 : Mem} : ∀ (nn : Nat) (x3 : Int) (M : Mem) (out : Int × Mem), itr (fun s => m_X12_countOn_L59 s.2 p2 s.1) nn (x3, M) = some out → Fr [64] M0 M → Fr [64] M0 out.2 := by
  intro nn
  induction nn with
  | zero =>
    intro x3 M out h _
    cases h
  | succ nn ih =>
    intro x3 M out h0 F
    obtain ⟨w, h, k1, k2⟩ := itr_inv h0
    have h : m_X12_countOn_L59 M p2 x3 = some w := h
    unfold m_X12_countOn_L59 at h
    by_cases c9 : wr (shl 1 (gI M 55 0)) ≤ wr x3
    · rw [if_pos c9] at h
      cases h
      cases k2 _ rfl
      exact F
    · rw [if_neg c9] at h
      obtain ⟨c10, h⟩ := of_ck h
      obtain ⟨v26, h9, h⟩ := of_bd1 h
      clear h9
      obtain ⟨c27, h⟩ := of_ck h
      obtain ⟨M28, eM28, h⟩ := of_lt h
      have F := F.sL (by decide) eM28
      cases h
      exact ih _ _  _ (k1 _ rfl) F

set_option maxRecDepth 10000 in
theorem fl_X12_countOn_L53  {M0 : Mem} : ∀ (nn : Nat) (x2 : Int) (M : Mem) (out : Int × Mem), itr (fun s => m_X12_countOn_L53 s.2  s.1) nn (x2, M) = some out → Fr [64] M0 M → Fr [64] M0 out.2 := by
  intro nn
  induction nn with
  | zero =>
    intro x2 M out h _
    cases h
  | succ nn ih =>
    intro x2 M out h0 F
    obtain ⟨w, h, k1, k2⟩ := itr_inv h0
    have h : m_X12_countOn_L53 M  x2 = some w := h
    unfold m_X12_countOn_L53 at h
    by_cases c8 : wr x2 < 0
    · rw [if_pos c8] at h
      cases h
      cases k2 _ rfl
      exact F
    · rw [if_neg c8] at h
      obtain ⟨y29, M30, h9, h⟩ := of_bd2 h
      have F := F.trans (fl_X12_countOn_L59 x2 FU _ _ _ h9 Fr.rf) (by decide)
      clear h9
      cases h
      exact ih _ _  _ (k1 _ rfl) F

set_option maxRecDepth 10000 in
theorem fr_X12_countOn {M : Mem} {M2 : Mem}  (h : m_X12_countOn M = some (M2)) : Fr [64] M M2 := by
  unfold m_X12_countOn at h
  have F : Fr [64] M M := Fr.rf
  obtain ⟨y6, M7, h9, h⟩ := of_bd2 h
  have F := F.trans (fl_X12_countOn_L12 ((gI M 55 0) * (gI M 55 1)) FU _ _ _ h9 Fr.rf) (by decide)
  clear h9
  obtain ⟨y31, M32, h9, h⟩ := of_bd2 h
  have F := F.trans (fl_X12_countOn_L53  FU _ _ _ h9 Fr.rf) (by decide)
  clear h9
  cases h
  exact F

set_option maxRecDepth 10000 in
theorem fr_X12_countAll {M : Mem} {M2 : Mem}  {r : Int64} (h : m_X12_countAll M = some (r, M2)) : Fr [64] M M2 := by
  unfold m_X12_countAll at h
  have F : Fr [64] M M := Fr.rf
  obtain ⟨M2, hc1, h⟩ := of_bd1 h
  have F := F.trans (fr_X12_countOn hc1) (by decide)
  cases h
  exact F

set_option maxRecDepth 10000 in
theorem fr_X12_pavings {M : Mem} {M2 : Mem}  {r : Int64} (h : m_X12_pavings M = some (r, M2)) : Fr [63, 64] M M2 := by
  unfold m_X12_pavings at h
  have F : Fr [63, 64] M M := Fr.rf
  obtain ⟨M2, hc1, h⟩ := of_bd1 h
  have F := F.trans (fr_X12_allows hc1) (by decide)
  obtain ⟨r4, M5, hc3, h⟩ := of_bd2 h
  have F := F.trans (fr_X12_countAll hc3) (by decide)
  cases h
  exact F

set_option maxRecDepth 10000 in
theorem fr_X12_shareOf {M : Mem} {M2 : Mem} {a1 : Int} {r : Int64} (h : m_X12_shareOf M a1 = some (r, M2)) : Fr [63, 64] M M2 := by
  unfold m_X12_shareOf at h
  have F : Fr [63, 64] M M := Fr.rf
  obtain ⟨M2, hc1, h⟩ := of_bd1 h
  have F := F.trans (fr_X12_allows hc1) (by decide)
  obtain ⟨c3, h⟩ := of_ck h
  by_cases c4 : wr (gI M2 63 (wr a1)) = 0
  · rw [if_pos c4] at h
    cases h
    exact F
  · rw [if_neg c4] at h
    obtain ⟨M6, hc5, h⟩ := of_bd1 h
    have F := F.trans (fr_X12_musts hc5) (by decide)
    obtain ⟨r8, M9, hc7, h⟩ := of_bd2 h
    have F := F.trans (fr_X12_countAll hc7) (by decide)
    cases h
    exact F

set_option maxRecDepth 10000 in
theorem fr_X12_share {M : Mem} {M2 : Mem} {a1 : Int} {r : Int64} (h : m_X12_share M a1 = some (r, M2)) : Fr [63, 64] M M2 := by
  unfold m_X12_share at h
  have F : Fr [63, 64] M M := Fr.rf
  obtain ⟨b2, hc1, h⟩ := of_bd1 h
  obtain ⟨v7, M8, h9, h⟩ := of_bd2 h
  have F : Fr [63, 64] M M8 := by
    have h := h9
    by_cases c3 : wr (bI b2) = 0
    · rw [if_pos c3] at h
      cases h
      exact F
    · rw [if_neg c3] at h
      obtain ⟨r5, M6, hc4, h⟩ := of_bd2 h
      have F := F.trans (fr_X12_shareOf hc4) (by decide)
      cases h
      exact F
  clear h9
  cases h
  exact F

set_option maxRecDepth 10000 in
theorem fl_X12_sure_L32 (p1 : Int) (p2 : Int64) {M0 : Mem} : ∀ (nn : Nat) (x4 : Int) (x5 : Int) (M : Mem) (out : Int × Int × Mem), itr (fun s => m_X12_sure_L32 s.2.2 p1 p2 s.1 s.2.1) nn (x4, x5, M) = some out → Fr [63, 64] M0 M → Fr [63, 64] M0 out.2.2 := by
  intro nn
  induction nn with
  | zero =>
    intro x4 x5 M out h _
    cases h
  | succ nn ih =>
    intro x4 x5 M out h0 F
    obtain ⟨w, h, k1, k2⟩ := itr_inv h0
    have h : m_X12_sure_L32 M p1 p2 x4 x5 = some w := h
    unfold m_X12_sure_L32 at h
    by_cases c8 : wr ((2 * (gI M 55 0)) * (gI M 55 1)) ≤ wr x5
    · rw [if_pos c8] at h
      cases h
      cases k2 _ rfl
      exact F
    · rw [if_neg c8] at h
      obtain ⟨b10, hc9, h⟩ := of_bd1 h
      obtain ⟨v18, M19, h9, h⟩ := of_bd2 h
      have F : Fr [63, 64] M0 M19 := by
        have h := h9
        by_cases c11 : wr (bI b10) = 0
        · rw [if_pos c11] at h
          cases h
          exact F
        · rw [if_neg c11] at h
          obtain ⟨r13, M14, hc12, h⟩ := of_bd2 h
          have F := F.trans (fr_X12_shareOf hc12) (by decide)
          obtain ⟨v16, ev16, h⟩ := of_lt h
          by_cases c17 : r13 = v16
          · rw [if_pos c17] at h
            cases h
            exact F
          · rw [if_neg c17] at h
            cases h
            exact F
      clear h9
      cases h
      exact ih _ _ _  _ (k1 _ rfl) F

set_option maxRecDepth 10000 in
theorem fr_X12_sure {M : Mem} {M2 : Mem} {a1 : Int} {r : Int} (h : m_X12_sure M a1 = some (r, M2)) : Fr [63, 64] M M2 := by
  unfold m_X12_sure at h
  have F : Fr [63, 64] M M := Fr.rf
  obtain ⟨b2, hc1, h⟩ := of_bd1 h
  by_cases c3 : wr (bI b2) = 0
  · rw [if_pos c3] at h
    cases h
    exact F
  · rw [if_neg c3] at h
    obtain ⟨r5, M6, hc4, h⟩ := of_bd2 h
    have F := F.trans (fr_X12_pavings hc4) (by decide)
    by_cases c7 : r5 = (0 : Int64)
    · rw [if_pos c7] at h
      cases h
      exact F
    · rw [if_neg c7] at h
      obtain ⟨y20, y21, M22, h9, h⟩ := of_bd3 h
      have F := F.trans (fl_X12_sure_L32 a1 r5 FU _ _ _ _ h9 Fr.rf) (by decide)
      clear h9
      cases h
      exact F

set_option maxRecDepth 10000 in
theorem fr_X12_lays {M : Mem} {M2 : Mem} {a1 : Int} {a2 : Int} (h : m_X12_lays M a1 a2 = some (M2)) : Fr [60] M M2 := by
  unfold m_X12_lays at h
  have F : Fr [60] M M := Fr.rf
  obtain ⟨c1, h⟩ := of_ck h
  obtain ⟨M2, eM2, h⟩ := of_lt h
  have F := F.sI (by decide) eM2
  obtain ⟨r4, hc3, h⟩ := of_bd1 h
  obtain ⟨c5, h⟩ := of_ck h
  obtain ⟨M6, eM6, h⟩ := of_lt h
  have F := F.sI (by decide) eM6
  cases h
  exact F

set_option maxRecDepth 10000 in
theorem fl_X12_place_L42 (p1 : Int) {M0 : Mem} : ∀ (nn : Nat) (x6 : Int64) (x8 : Int) (x9 : Int) (x10 : Int) (M : Mem) (out : Int64 × Int × Int × Int × Mem), itr (fun s => m_X12_place_L42 s.2.2.2.2 p1 s.1 s.2.1 s.2.2.1 s.2.2.2.1) nn (x6, x8, x9, x10, M) = some out → Fr [60] M0 M → Fr [60] M0 out.2.2.2.2 := by
  intro nn
  induction nn with
  | zero =>
    intro x6 x8 x9 x10 M out h _
    cases h
  | succ nn ih =>
    intro x6 x8 x9 x10 M out h0 F
    obtain ⟨w, h, k1, k2⟩ := itr_inv h0
    have h : m_X12_place_L42 M p1 x6 x8 x9 x10 = some w := h
    unfold m_X12_place_L42 at h
    by_cases c9 : wr ((gI M 55 0) * (gI M 55 1)) ≤ wr x10
    · rw [if_pos c9] at h
      cases h
      cases k2 _ rfl
      exact F
    · rw [if_neg c9] at h
      obtain ⟨c10, h⟩ := of_ck h
      obtain ⟨v28, v29, v30, M31, h9, h⟩ := of_bd4 h
      have F : Fr [60] M0 M31 := by
        have h := h9
        by_cases c11 : wr (gI M 56 (wr x10)) = 0
        · rw [if_pos c11] at h
          cases h
          exact F
        · rw [if_neg c11] at h
          by_cases c12 : wr (iand x8 1) = 0
          · rw [if_pos c12] at h
            obtain ⟨b14, hc13, h⟩ := of_bd1 h
            obtain ⟨v17, h9, h⟩ := of_bd1 h
            clear h9
            obtain ⟨v19, ev19, h⟩ := of_lt h
            obtain ⟨v21, ev21, h⟩ := of_lt h
            obtain ⟨v23, ev23, h⟩ := of_lt h
            obtain ⟨v25, ev25, h⟩ := of_lt h
            obtain ⟨M27, hc26, h⟩ := of_bd1 h
            have F := F.trans (fr_X12_lays hc26) (by decide)
            cases h
            exact F
          · rw [if_neg c12] at h
            cases h
            exact F
      clear h9
      cases h
      exact ih _ _ _ _ _  _ (k1 _ rfl) F

set_option maxRecDepth 10000 in
theorem fr_X12_place {M : Mem} {M2 : Mem} {a1 : Int} {a2 : Int64} {r : Int} (h : m_X12_place M a1 a2 = some (r, M2)) : Fr [59, 60, 63, 64] M M2 := by
  unfold m_X12_place at h
  have F : Fr [59, 60, 63, 64] M M := Fr.rf
  obtain ⟨b2, hc1, h⟩ := of_bd1 h
  by_cases c3 : wr (bI b2) = 0
  · rw [if_pos c3] at h
    cases h
    exact F
  · rw [if_neg c3] at h
    obtain ⟨r5, M6, hc4, h⟩ := of_bd2 h
    have F := F.trans (fr_X12_pavings hc4) (by decide)
    by_cases c7 : a2 < (0 : Int64)
    · rw [if_pos c7] at h
      cases h
      exact F
    · rw [if_neg c7] at h
      by_cases c8 : a2 < r5
      · rw [if_pos c8] at h
        obtain ⟨y32, y33, y34, y35, M36, h9, h⟩ := of_bd5 h
        have F := F.trans (fl_X12_place_L42 a1 FU _ _ _ _ _ _ h9 Fr.rf) (by decide)
        clear h9
        obtain ⟨c37, h⟩ := of_ck h
        obtain ⟨M38, eM38, h⟩ := of_lt h
        have F := F.sI (by decide) eM38
        cases h
        exact F
      · rw [if_neg c8] at h
        cases h
        exact F

set_option maxRecDepth 10000 in
theorem fl_X12_rank_L38 (M : Mem) (p1 : Int) (p2 : Int64) {M0 : Mem} : ∀ (nn : Nat) (x4 : Int64) (x6 : Int) (x7 : Int) (out : (Int64 × Int × Int) ⊕ (Int64 × Mem)), itr (fun s => m_X12_rank_L38 M p1 p2 s.1 s.2.1 s.2.2) nn (x4, x6, x7) = some out → Fr [] M0 M → (match out with | .inl s => True | .inr r => Fr [] M0 r.2) := by
  intro nn
  induction nn with
  | zero =>
    intro x4 x6 x7 out h _
    cases h
  | succ nn ih =>
    intro x4 x6 x7 out h0 F
    obtain ⟨w, h, k1, k2⟩ := itr_inv h0
    have h : m_X12_rank_L38 M p1 p2 x4 x6 x7 = some w := h
    unfold m_X12_rank_L38 at h
    by_cases c9 : wr ((gI M 55 0) * (gI M 55 1)) ≤ wr x7
    · rw [if_pos c9] at h
      cases h
      cases k2 _ rfl
      exact trivial
    · rw [if_neg c9] at h
      obtain ⟨c10, h⟩ := of_ck h
      by_cases c11 : wr (gI M 56 (wr x7)) = 0
      · rw [if_pos c11] at h
        cases h
        exact ih _ _ _  _ (k1 _ rfl) F
      · rw [if_neg c11] at h
        by_cases c12 : wr (iand x6 1) = 0
        · rw [if_pos c12] at h
          obtain ⟨c13, h⟩ := of_ck h
          obtain ⟨c14, h⟩ := of_ck h
          by_cases c15 : wr (gI M 63 (wr (gI M 60 (wr ((64 * p1) + x7))))) = 0
          · rw [if_pos c15] at h
            cases h
            cases k2 _ rfl
            exact F
          · rw [if_neg c15] at h
            obtain ⟨v17, ev17, h⟩ := of_lt h
            obtain ⟨v23, h9, h⟩ := of_bd1 h
            clear h9
            obtain ⟨v25, ev25, h⟩ := of_lt h
            cases h
            exact ih _ _ _  _ (k1 _ rfl) F
        · rw [if_neg c12] at h
          cases h
          exact ih _ _ _  _ (k1 _ rfl) F

set_option maxRecDepth 10000 in
theorem fr_X12_rank {M : Mem} {M2 : Mem} {a1 : Int} {r : Int64} (h : m_X12_rank M a1 = some (r, M2)) : Fr [63, 64] M M2 := by
  unfold m_X12_rank at h
  have F : Fr [63, 64] M M := Fr.rf
  obtain ⟨b2, hc1, h⟩ := of_bd1 h
  by_cases c3 : wr (bI b2) = 0
  · rw [if_pos c3] at h
    cases h
    exact F
  · rw [if_neg c3] at h
    obtain ⟨c4, h⟩ := of_ck h
    by_cases c5 : wr (gI M 59 (wr a1)) = 0
    · rw [if_pos c5] at h
      cases h
      exact F
    · rw [if_neg c5] at h
      obtain ⟨r7, M8, hc6, h⟩ := of_bd2 h
      have F := F.trans (fr_X12_pavings hc6) (by decide)
      obtain ⟨w9, h9, h⟩ := of_be3 h
      have F9 := fl_X12_rank_L38 M8 a1 r7 FU _ _ _ w9 h9 Fr.rf
      rcases w9 with ⟨y26, y27, y28⟩ | ⟨r9, M9⟩
      · have h := h.1 _ _ _  rfl
        obtain ⟨v30, ev30, h⟩ := of_lt h
        cases h
        exact F
      · have h := h.2 _ rfl
        have F := F.trans F9 (by decide)
        cases h
        exact F

set_option maxRecDepth 10000 in
theorem fl_X12_sums_L12 (p1 : Int) {M0 : Mem} : ∀ (nn : Nat) (x2 : Int) (M : Mem) (out : Int × Mem), itr (fun s => m_X12_sums_L12 s.2 p1 s.1) nn (x2, M) = some out → Fr [65] M0 M → Fr [65] M0 out.2 := by
  intro nn
  induction nn with
  | zero =>
    intro x2 M out h _
    cases h
  | succ nn ih =>
    intro x2 M out h0 F
    obtain ⟨w, h, k1, k2⟩ := itr_inv h0
    have h : m_X12_sums_L12 M p1 x2 = some w := h
    unfold m_X12_sums_L12 at h
    by_cases c1 : wr (shl 1 (gI M 55 0)) ≤ wr x2
    · rw [if_pos c1] at h
      cases h
      cases k2 _ rfl
      exact F
    · rw [if_neg c1] at h
      obtain ⟨v3, ev3, h⟩ := of_lt h
      obtain ⟨c4, h⟩ := of_ck h
      obtain ⟨M5, eM5, h⟩ := of_lt h
      have F := F.sI (by decide) eM5
      cases h
      exact ih _ _  _ (k1 _ rfl) F

set_option maxRecDepth 10000 in
theorem fl_X12_sums_L60 (p2 : Int) {M0 : Mem} : ∀ (nn : Nat) (x3 : Int) (M : Mem) (out : Int × Mem), itr (fun s => m_X12_sums_L60 s.2 p2 s.1) nn (x3, M) = some out → Fr [65] M0 M → Fr [65] M0 out.2 := by
  intro nn
  induction nn with
  | zero =>
    intro x3 M out h _
    cases h
  | succ nn ih =>
    intro x3 M out h0 F
    obtain ⟨w, h, k1, k2⟩ := itr_inv h0
    have h : m_X12_sums_L60 M p2 x3 = some w := h
    unfold m_X12_sums_L60 at h
    by_cases c9 : wr (shl 1 (gI M 55 0)) ≤ wr x3
    · rw [if_pos c9] at h
      cases h
      cases k2 _ rfl
      exact F
    · rw [if_neg c9] at h
      obtain ⟨c10, h⟩ := of_ck h
      obtain ⟨v29, h9, h⟩ := of_bd1 h
      clear h9
      obtain ⟨c30, h⟩ := of_ck h
      obtain ⟨M31, eM31, h⟩ := of_lt h
      have F := F.sI (by decide) eM31
      cases h
      exact ih _ _  _ (k1 _ rfl) F

set_option maxRecDepth 10000 in
theorem fl_X12_sums_L54  {M0 : Mem} : ∀ (nn : Nat) (x2 : Int) (M : Mem) (out : Int × Mem), itr (fun s => m_X12_sums_L54 s.2  s.1) nn (x2, M) = some out → Fr [65] M0 M → Fr [65] M0 out.2 := by
  intro nn
  induction nn with
  | zero =>
    intro x2 M out h _
    cases h
  | succ nn ih =>
    intro x2 M out h0 F
    obtain ⟨w, h, k1, k2⟩ := itr_inv h0
    have h : m_X12_sums_L54 M  x2 = some w := h
    unfold m_X12_sums_L54 at h
    by_cases c8 : wr x2 < 0
    · rw [if_pos c8] at h
      cases h
      cases k2 _ rfl
      exact F
    · rw [if_neg c8] at h
      obtain ⟨y32, M33, h9, h⟩ := of_bd2 h
      have F := F.trans (fl_X12_sums_L60 x2 FU _ _ _ h9 Fr.rf) (by decide)
      clear h9
      cases h
      exact ih _ _  _ (k1 _ rfl) F

set_option maxRecDepth 10000 in
theorem fr_X12_sums {M : Mem} {M2 : Mem}  (h : m_X12_sums M = some (M2)) : Fr [65] M M2 := by
  unfold m_X12_sums at h
  have F : Fr [65] M M := Fr.rf
  obtain ⟨y6, M7, h9, h⟩ := of_bd2 h
  have F := F.trans (fl_X12_sums_L12 ((gI M 55 0) * (gI M 55 1)) FU _ _ _ h9 Fr.rf) (by decide)
  clear h9
  obtain ⟨y34, M35, h9, h⟩ := of_bd2 h
  have F := F.trans (fl_X12_sums_L54  FU _ _ _ h9 Fr.rf) (by decide)
  clear h9
  cases h
  exact F

set_option maxRecDepth 10000 in
theorem fl_X12_cheapest_L36 (p1 : Int) {M0 : Mem} : ∀ (nn : Nat) (x2 : Int) (x3 : Int) (M : Mem) (out : Int × Int × Mem), itr (fun s => m_X12_cheapest_L36 s.2.2 p1 s.1 s.2.1) nn (x2, x3, M) = some out → Fr [60] M0 M → Fr [60] M0 out.2.2 := by
  intro nn
  induction nn with
  | zero =>
    intro x2 x3 M out h _
    cases h
  | succ nn ih =>
    intro x2 x3 M out h0 F
    obtain ⟨w, h, k1, k2⟩ := itr_inv h0
    have h : m_X12_cheapest_L36 M p1 x2 x3 = some w := h
    unfold m_X12_cheapest_L36 at h
    by_cases c9 : wr ((gI M 55 0) * (gI M 55 1)) ≤ wr x3
    · rw [if_pos c9] at h
      cases h
      cases k2 _ rfl
      exact F
    · rw [if_neg c9] at h
      obtain ⟨c10, h⟩ := of_ck h
      obtain ⟨v25, M26, h9, h⟩ := of_bd2 h
      have F : Fr [60] M0 M26 := by
        have h := h9
        by_cases c11 : wr (gI M 56 (wr x3)) = 0
        · rw [if_pos c11] at h
          cases h
          exact F
        · rw [if_neg c11] at h
          by_cases c12 : wr (iand x2 1) = 0
          · rw [if_pos c12] at h
            obtain ⟨r14, hc13, h⟩ := of_bd1 h
            obtain ⟨r16, hc15, h⟩ := of_bd1 h
            obtain ⟨v18, ev18, h⟩ := of_lt h
            obtain ⟨v20, ev20, h⟩ := of_lt h
            obtain ⟨v22, ev22, h⟩ := of_lt h
            obtain ⟨M24, hc23, h⟩ := of_bd1 h
            have F := F.trans (fr_X12_lays hc23) (by decide)
            cases h
            exact F
          · rw [if_neg c12] at h
            cases h
            exact F
      clear h9
      cases h
      exact ih _ _ _  _ (k1 _ rfl) F

set_option maxRecDepth 10000 in
theorem fr_X12_cheapest {M : Mem} {M2 : Mem} {a1 : Int} {r : Int} (h : m_X12_cheapest M a1 = some (r, M2)) : Fr [59, 60, 63, 65] M M2 := by
  unfold m_X12_cheapest at h
  have F : Fr [59, 60, 63, 65] M M := Fr.rf
  obtain ⟨b2, hc1, h⟩ := of_bd1 h
  by_cases c3 : wr (bI b2) = 0
  · rw [if_pos c3] at h
    cases h
    exact F
  · rw [if_neg c3] at h
    obtain ⟨M5, hc4, h⟩ := of_bd1 h
    have F := F.trans (fr_X12_allows hc4) (by decide)
    obtain ⟨M7, hc6, h⟩ := of_bd1 h
    have F := F.trans (fr_X12_sums hc6) (by decide)
    by_cases c8 : wr (gI M7 65 (wr 0)) < wr 1000000
    · rw [if_pos c8] at h
      obtain ⟨y27, y28, M29, h9, h⟩ := of_bd3 h
      have F := F.trans (fl_X12_cheapest_L36 a1 FU _ _ _ _ h9 Fr.rf) (by decide)
      clear h9
      obtain ⟨c30, h⟩ := of_ck h
      obtain ⟨M31, eM31, h⟩ := of_lt h
      have F := F.sI (by decide) eM31
      cases h
      exact F
    · rw [if_neg c8] at h
      cases h
      exact F

set_option maxRecDepth 10000 in
theorem fl_X12_keep_L30 (p1 : Int) (p2 : Int) {M0 : Mem} : ∀ (nn : Nat) (x3 : Int) (M : Mem) (out : Int × Mem), itr (fun s => m_X12_keep_L30 s.2 p1 p2 s.1) nn (x3, M) = some out → Fr [60] M0 M → Fr [60] M0 out.2 := by
  intro nn
  induction nn with
  | zero =>
    intro x3 M out h _
    cases h
  | succ nn ih =>
    intro x3 M out h0 F
    obtain ⟨w, h, k1, k2⟩ := itr_inv h0
    have h : m_X12_keep_L30 M p1 p2 x3 = some w := h
    unfold m_X12_keep_L30 at h
    by_cases c9 : wr 64 ≤ wr x3
    · rw [if_pos c9] at h
      cases h
      cases k2 _ rfl
      exact F
    · rw [if_neg c9] at h
      obtain ⟨c10, h⟩ := of_ck h
      obtain ⟨c11, h⟩ := of_ck h
      obtain ⟨M12, eM12, h⟩ := of_lt h
      have F := F.sI (by decide) eM12
      cases h
      exact ih _ _  _ (k1 _ rfl) F

set_option maxRecDepth 10000 in
theorem fr_X12_keep {M : Mem} {M2 : Mem} {a1 : Int} {a2 : Int} {r : Int} (h : m_X12_keep M a1 a2 = some (r, M2)) : Fr [59, 60] M M2 := by
  unfold m_X12_keep at h
  have F : Fr [59, 60] M M := Fr.rf
  obtain ⟨b2, hc1, h⟩ := of_bd1 h
  by_cases c3 : wr (bI b2) = 0
  · rw [if_pos c3] at h
    cases h
    exact F
  · rw [if_neg c3] at h
    obtain ⟨b5, hc4, h⟩ := of_bd1 h
    by_cases c6 : wr (bI b5) = 0
    · rw [if_pos c6] at h
      cases h
      exact F
    · rw [if_neg c6] at h
      obtain ⟨c7, h⟩ := of_ck h
      by_cases c8 : wr (gI M 59 (wr a1)) = 0
      · rw [if_pos c8] at h
        cases h
        exact F
      · rw [if_neg c8] at h
        obtain ⟨y13, M14, h9, h⟩ := of_bd2 h
        have F := F.trans (fl_X12_keep_L30 a1 a2 FU _ _ _ h9 Fr.rf) (by decide)
        clear h9
        obtain ⟨c15, h⟩ := of_ck h
        obtain ⟨M16, eM16, h⟩ := of_lt h
        have F := F.sI (by decide) eM16
        cases h
        exact F

set_option maxRecDepth 10000 in
theorem fl_X12_bricks_L49 (p1 : Int) (p2 : Int) {M0 : Mem} : ∀ (nn : Nat) (x5 : Int) (M : Mem) (out : Int × Mem), itr (fun s => m_X12_bricks_L49 s.2 p1 p2 s.1) nn (x5, M) = some out → Fr [66] M0 M → Fr [66] M0 out.2 := by
  intro nn
  induction nn with
  | zero =>
    intro x5 M out h _
    cases h
  | succ nn ih =>
    intro x5 M out h0 F
    obtain ⟨w, h, k1, k2⟩ := itr_inv h0
    have h : m_X12_bricks_L49 M p1 p2 x5 = some w := h
    unfold m_X12_bricks_L49 at h
    by_cases c13 : wr 64 ≤ wr x5
    · rw [if_pos c13] at h
      cases h
      cases k2 _ rfl
      exact F
    · rw [if_neg c13] at h
      obtain ⟨v17, h9, h⟩ := of_bd1 h
      clear h9
      obtain ⟨c18, h⟩ := of_ck h
      obtain ⟨c19, h⟩ := of_ck h
      obtain ⟨M20, eM20, h⟩ := of_lt h
      have F := F.sI (by decide) eM20
      cases h
      exact ih _ _  _ (k1 _ rfl) F

set_option maxRecDepth 10000 in
theorem fl_X12_bricks_L101 (p1 : Int) (p2 : Int) {M0 : Mem} : ∀ (nn : Nat) (x5 : Int) (M : Mem) (out : (Int × Mem) ⊕ (Int × Mem)), itr (fun s => m_X12_bricks_L101 s.2 p1 p2 s.1) nn (x5, M) = some out → Fr [66] M0 M → (match out with | .inl s => Fr [66] M0 s.2 | .inr r => Fr [66] M0 r.2) := by
  intro nn
  induction nn with
  | zero =>
    intro x5 M out h _
    cases h
  | succ nn ih =>
    intro x5 M out h0 F
    obtain ⟨w, h, k1, k2⟩ := itr_inv h0
    have h : m_X12_bricks_L101 M p1 p2 x5 = some w := h
    unfold m_X12_bricks_L101 at h
    obtain ⟨c23, h⟩ := of_ck h
    by_cases c24 : wr (gI M 77 (wr p2)) ≤ wr x5
    · rw [if_pos c24] at h
      cases h
      cases k2 _ rfl
      exact F
    · rw [if_neg c24] at h
      obtain ⟨c25, h⟩ := of_ck h
      obtain ⟨b27, hc26, h⟩ := of_bd1 h
      by_cases c28 : wr (bI b27) = 0
      · rw [if_pos c28] at h
        cases h
        cases k2 _ rfl
        exact F
      · rw [if_neg c28] at h
        obtain ⟨c29, h⟩ := of_ck h
        by_cases c30 : wr (gI M 66 (wr (idv (gI M 78 (wr ((64 * p2) + x5))) 2))) = 0
        · rw [if_pos c30] at h
          obtain ⟨r32, hc31, h⟩ := of_bd1 h
          obtain ⟨c33, h⟩ := of_ck h
          by_cases c34 : wr (gI M 66 (wr r32)) = 0
          · rw [if_pos c34] at h
            obtain ⟨M35, eM35, h⟩ := of_lt h
            have F := F.sI (by decide) eM35
            obtain ⟨r37, hc36, h⟩ := of_bd1 h
            obtain ⟨c38, h⟩ := of_ck h
            obtain ⟨M39, eM39, h⟩ := of_lt h
            have F := F.sI (by decide) eM39
            cases h
            exact ih _ _  _ (k1 _ rfl) F
          · rw [if_neg c34] at h
            cases h
            cases k2 _ rfl
            exact F
        · rw [if_neg c30] at h
          cases h
          cases k2 _ rfl
          exact F

set_option maxRecDepth 10000 in
theorem fl_X12_bricks_L195 (M : Mem) (p1 : Int) (p2 : Int) {M0 : Mem} : ∀ (nn : Nat) (x5 : Int) (out : (Int) ⊕ (Int × Mem)), itr (fun s => m_X12_bricks_L195 M p1 p2 s) nn (x5) = some out → Fr [] M0 M → (match out with | .inl s => True | .inr r => Fr [] M0 r.2) := by
  intro nn
  induction nn with
  | zero =>
    intro x5 out h _
    cases h
  | succ nn ih =>
    intro x5 out h0 F
    obtain ⟨w, h, k1, k2⟩ := itr_inv h0
    have h : m_X12_bricks_L195 M p1 p2 x5 = some w := h
    unfold m_X12_bricks_L195 at h
    by_cases c42 : wr 64 ≤ wr x5
    · rw [if_pos c42] at h
      cases h
      cases k2 _ rfl
      exact trivial
    · rw [if_neg c42] at h
      obtain ⟨c43, h⟩ := of_ck h
      by_cases c44 : wr (gI M 66 (wr x5)) = 0
      · rw [if_pos c44] at h
        cases h
        cases k2 _ rfl
        exact F
      · rw [if_neg c44] at h
        cases h
        exact ih _  _ (k1 _ rfl) F

set_option maxRecDepth 10000 in
theorem fl_X12_bricks_L224 (p1 : Int) (p2 : Int) {M0 : Mem} : ∀ (nn : Nat) (x5 : Int) (M : Mem) (out : Int × Mem), itr (fun s => m_X12_bricks_L224 s.2 p1 p2 s.1) nn (x5, M) = some out → Fr [60] M0 M → Fr [60] M0 out.2 := by
  intro nn
  induction nn with
  | zero =>
    intro x5 M out h _
    cases h
  | succ nn ih =>
    intro x5 M out h0 F
    obtain ⟨w, h, k1, k2⟩ := itr_inv h0
    have h : m_X12_bricks_L224 M p1 p2 x5 = some w := h
    unfold m_X12_bricks_L224 at h
    obtain ⟨c46, h⟩ := of_ck h
    by_cases c47 : wr (gI M 77 (wr p2)) ≤ wr x5
    · rw [if_pos c47] at h
      cases h
      cases k2 _ rfl
      exact F
    · rw [if_neg c47] at h
      obtain ⟨c48, h⟩ := of_ck h
      obtain ⟨M50, hc49, h⟩ := of_bd1 h
      have F := F.trans (fr_X12_lays hc49) (by decide)
      cases h
      exact ih _ _  _ (k1 _ rfl) F

set_option maxRecDepth 10000 in
theorem fr_X12_bricks {M : Mem} {M2 : Mem} {a1 : Int} {a2 : Int} {a3 : Int} {r : Int} (h : m_X12_bricks M a1 a2 a3 = some (r, M2)) : Fr [59, 60, 66] M M2 := by
  unfold m_X12_bricks at h
  have F : Fr [59, 60, 66] M M := Fr.rf
  obtain ⟨b2, hc1, h⟩ := of_bd1 h
  by_cases c3 : wr (bI b2) = 0
  · rw [if_pos c3] at h
    cases h
    exact F
  · rw [if_neg c3] at h
    obtain ⟨b5, hc4, h⟩ := of_bd1 h
    by_cases c6 : wr (bI b5) = 0
    · rw [if_pos c6] at h
      cases h
      exact F
    · rw [if_neg c6] at h
      obtain ⟨b8, hc7, h⟩ := of_bd1 h
      by_cases c9 : wr (bI b8) = 0
      · rw [if_pos c9] at h
        cases h
        exact F
      · rw [if_neg c9] at h
        obtain ⟨r11, hc10, h⟩ := of_bd1 h
        by_cases c12 : 0 ≤ wr r11
        · rw [if_pos c12] at h
          obtain ⟨y21, M22, h9, h⟩ := of_bd2 h
          have F := F.trans (fl_X12_bricks_L49 a1 a2 FU _ _ _ h9 Fr.rf) (by decide)
          clear h9
          obtain ⟨w9, h9, h⟩ := of_be2 h
          have F9 := fl_X12_bricks_L101 a1 a2 FU _ _ w9 h9 Fr.rf
          rcases w9 with ⟨y40, M41⟩ | ⟨r9, M9⟩
          · have h := h.1 _ _  rfl
            have F := F.trans F9 (by decide)
            obtain ⟨w9, h9, h⟩ := of_be1 h
            have F9 := fl_X12_bricks_L195 M41 a1 a2 FU _ w9 h9 Fr.rf
            rcases w9 with ⟨y45⟩ | ⟨r9, M9⟩
            · have h := h.1 _  rfl
              obtain ⟨y51, M52, h9, h⟩ := of_bd2 h
              have F := F.trans (fl_X12_bricks_L224 a1 a2 FU _ _ _ h9 Fr.rf) (by decide)
              clear h9
              obtain ⟨c53, h⟩ := of_ck h
              obtain ⟨M54, eM54, h⟩ := of_lt h
              have F := F.sI (by decide) eM54
              cases h
              exact F
            · have h := h.2 _ rfl
              have F := F.trans F9 (by decide)
              cases h
              exact F
          · have h := h.2 _ rfl
            have F := F.trans F9 (by decide)
            cases h
            exact F
        · rw [if_neg c12] at h
          cases h
          exact F

set_option maxRecDepth 10000 in
theorem fl_X12_searches_L26 (p3 : Int) {M0 : Mem} : ∀ (nn : Nat) (x2 : Int) (x4 : Int) (M : Mem) (out : (Int × Int × Mem) ⊕ (Int × Mem)), itr (fun s => m_X12_searches_L26 s.2.2 p3 s.1 s.2.1) nn (x2, x4, M) = some out → Fr [68, 69] M0 M → (match out with | .inl s => Fr [68, 69] M0 s.2.2 | .inr r => Fr [68, 69] M0 r.2) := by
  intro nn
  induction nn with
  | zero =>
    intro x2 x4 M out h _
    cases h
  | succ nn ih =>
    intro x2 x4 M out h0 F
    obtain ⟨w, h, k1, k2⟩ := itr_inv h0
    have h : m_X12_searches_L26 M p3 x2 x4 = some w := h
    unfold m_X12_searches_L26 at h
    by_cases c5 : wr 4 ≤ wr x4
    · rw [if_pos c5] at h
      cases h
      cases k2 _ rfl
      exact F
    · rw [if_neg c5] at h
      obtain ⟨c6, h⟩ := of_ck h
      obtain ⟨r8, hc7, h⟩ := of_bd1 h
      by_cases c9 : wr r8 < 0
      · rw [if_pos c9] at h
        cases h
        exact ih _ _ _  _ (k1 _ rfl) F
      · rw [if_neg c9] at h
        obtain ⟨c10, h⟩ := of_ck h
        by_cases c11 : 0 ≤ wr (gI M 68 (wr r8))
        · rw [if_pos c11] at h
          cases h
          exact ih _ _ _  _ (k1 _ rfl) F
        · rw [if_neg c11] at h
          obtain ⟨M12, eM12, h⟩ := of_lt h
          have F := F.sI (by decide) eM12
          by_cases c13 : 0 ≤ wr (gI M12 67 (wr r8))
          · rw [if_pos c13] at h
            obtain ⟨c14, h⟩ := of_ck h
            obtain ⟨v19, M20, h9, h⟩ := of_bd2 h
            have F : Fr [68, 69] M0 M20 := by
              have h := h9
              by_cases c15 : 0 ≤ wr (gI M12 68 (wr (gI M12 67 (wr r8))))
              · rw [if_pos c15] at h
                cases h
                exact F
              · rw [if_neg c15] at h
                obtain ⟨M16, eM16, h⟩ := of_lt h
                have F := F.sI (by decide) eM16
                obtain ⟨c17, h⟩ := of_ck h
                obtain ⟨M18, eM18, h⟩ := of_lt h
                have F := F.sI (by decide) eM18
                cases h
                exact F
            clear h9
            cases h
            exact ih _ _ _  _ (k1 _ rfl) F
          · rw [if_neg c13] at h
            cases h
            cases k2 _ rfl
            exact F

set_option maxRecDepth 10000 in
theorem fl_X12_searches_L18  {M0 : Mem} : ∀ (nn : Nat) (x2 : Int) (x3 : Int) (M : Mem) (out : (Int × Int × Mem) ⊕ (Int × Mem)), itr (fun s => m_X12_searches_L18 s.2.2  s.1 s.2.1) nn (x2, x3, M) = some out → Fr [68, 69] M0 M → (match out with | .inl s => Fr [68, 69] M0 s.2.2 | .inr r => Fr [68, 69] M0 r.2) := by
  intro nn
  induction nn with
  | zero =>
    intro x2 x3 M out h _
    cases h
  | succ nn ih =>
    intro x2 x3 M out h0 F
    obtain ⟨w, h, k1, k2⟩ := itr_inv h0
    have h : m_X12_searches_L18 M  x2 x3 = some w := h
    unfold m_X12_searches_L18 at h
    by_cases c4 : wr x2 ≤ wr x3
    · rw [if_pos c4] at h
      cases h
      cases k2 _ rfl
      exact F
    · rw [if_neg c4] at h
      obtain ⟨w9, h9, h⟩ := of_be3l h
      have F9 := fl_X12_searches_L26 x3 FU _ _ _ w9 h9 Fr.rf
      rcases w9 with ⟨y21, y22, M23⟩ | ⟨r9, M9⟩
      · have h := h.1 _ _ _  rfl
        have F := F.trans F9 (by decide)
        cases h
        exact ih _ _ _  _ (k1 _ rfl) F
      · have h := h.2 _ rfl
        have F := F.trans F9 (by decide)
        cases h
        cases k2 _ rfl
        exact F

set_option maxRecDepth 10000 in
theorem fr_X12_searches {M : Mem} {M2 : Mem} {a1 : Int} {r : Int} (h : m_X12_searches M a1 = some (r, M2)) : Fr [68, 69] M M2 := by
  unfold m_X12_searches at h
  have F : Fr [68, 69] M M := Fr.rf
  obtain ⟨M1, eM1, h⟩ := of_lt h
  have F := F.sI (by decide) eM1
  obtain ⟨c2, h⟩ := of_ck h
  obtain ⟨M3, eM3, h⟩ := of_lt h
  have F := F.sI (by decide) eM3
  obtain ⟨w9, h9, h⟩ := of_be3 h
  have F9 := fl_X12_searches_L18  FU _ _ _ w9 h9 Fr.rf
  rcases w9 with ⟨y24, y25, M26⟩ | ⟨r9, M9⟩
  · have h := h.1 _ _ _  rfl
    have F := F.trans F9 (by decide)
    cases h
    exact F
  · have h := h.2 _ rfl
    have F := F.trans F9 (by decide)
    cases h
    exact F

set_option maxRecDepth 10000 in
theorem fl_X12_forgets_L2  {M0 : Mem} : ∀ (nn : Nat) (x1 : Int) (M : Mem) (out : Int × Mem), itr (fun s => m_X12_forgets_L2 s.2  s.1) nn (x1, M) = some out → Fr [68] M0 M → Fr [68] M0 out.2 := by
  intro nn
  induction nn with
  | zero =>
    intro x1 M out h _
    cases h
  | succ nn ih =>
    intro x1 M out h0 F
    obtain ⟨w, h, k1, k2⟩ := itr_inv h0
    have h : m_X12_forgets_L2 M  x1 = some w := h
    unfold m_X12_forgets_L2 at h
    by_cases c1 : wr 64 ≤ wr x1
    · rw [if_pos c1] at h
      cases h
      cases k2 _ rfl
      exact F
    · rw [if_neg c1] at h
      obtain ⟨c2, h⟩ := of_ck h
      obtain ⟨M3, eM3, h⟩ := of_lt h
      have F := F.sI (by decide) eM3
      cases h
      exact ih _ _  _ (k1 _ rfl) F

set_option maxRecDepth 10000 in
theorem fr_X12_forgets {M : Mem} {M2 : Mem}  (h : m_X12_forgets M = some (M2)) : Fr [68] M M2 := by
  unfold m_X12_forgets at h
  have F : Fr [68] M M := Fr.rf
  obtain ⟨y4, M5, h9, h⟩ := of_bd2 h
  have F := F.trans (fl_X12_forgets_L2  FU _ _ _ h9 Fr.rf) (by decide)
  clear h9
  cases h
  exact F

set_option maxRecDepth 10000 in
theorem fl_X12_matches_L4 (p1 : Int) {M0 : Mem} : ∀ (nn : Nat) (x2 : Int) (M : Mem) (out : Int × Mem), itr (fun s => m_X12_matches_L4 s.2 p1 s.1) nn (x2, M) = some out → Fr [67] M0 M → Fr [67] M0 out.2 := by
  intro nn
  induction nn with
  | zero =>
    intro x2 M out h _
    cases h
  | succ nn ih =>
    intro x2 M out h0 F
    obtain ⟨w, h, k1, k2⟩ := itr_inv h0
    have h : m_X12_matches_L4 M p1 x2 = some w := h
    unfold m_X12_matches_L4 at h
    by_cases c1 : wr 64 ≤ wr x2
    · rw [if_pos c1] at h
      cases h
      cases k2 _ rfl
      exact F
    · rw [if_neg c1] at h
      obtain ⟨c2, h⟩ := of_ck h
      obtain ⟨M3, eM3, h⟩ := of_lt h
      have F := F.sI (by decide) eM3
      cases h
      exact ih _ _  _ (k1 _ rfl) F

set_option maxRecDepth 10000 in
theorem fl_X12_matches_L77 (p1 : Int) (p2 : Int) {M0 : Mem} : ∀ (nn : Nat) (x3 : Int) (M : Mem) (out : Int × Mem), itr (fun s => m_X12_matches_L77 s.2 p1 p2 s.1) nn (x3, M) = some out → Fr [67] M0 M → Fr [67] M0 out.2 := by
  intro nn
  induction nn with
  | zero =>
    intro x3 M out h _
    cases h
  | succ nn ih =>
    intro x3 M out h0 F
    obtain ⟨w, h, k1, k2⟩ := itr_inv h0
    have h : m_X12_matches_L77 M p1 p2 x3 = some w := h
    unfold m_X12_matches_L77 at h
    by_cases c19 : wr x3 < 0
    · rw [if_pos c19] at h
      cases h
      cases k2 _ rfl
      exact F
    · rw [if_neg c19] at h
      obtain ⟨c20, h⟩ := of_ck h
      obtain ⟨c21, h⟩ := of_ck h
      obtain ⟨M22, eM22, h⟩ := of_lt h
      have F := F.sI (by decide) eM22
      obtain ⟨M23, eM23, h⟩ := of_lt h
      have F := F.sI (by decide) eM23
      obtain ⟨v25, ev25, h⟩ := of_lt h
      cases h
      exact ih _ _  _ (k1 _ rfl) F

set_option maxRecDepth 10000 in
theorem fl_X12_matches_L25  {M0 : Mem} : ∀ (nn : Nat) (x1 : Int) (x2 : Int) (M : Mem) (out : Int × Int × Mem), itr (fun s => m_X12_matches_L25 s.2.2  s.1 s.2.1) nn (x1, x2, M) = some out → Fr [67, 68, 69] M0 M → Fr [67, 68, 69] M0 out.2.2 := by
  intro nn
  induction nn with
  | zero =>
    intro x1 x2 M out h _
    cases h
  | succ nn ih =>
    intro x1 x2 M out h0 F
    obtain ⟨w, h, k1, k2⟩ := itr_inv h0
    have h : m_X12_matches_L25 M  x1 x2 = some w := h
    unfold m_X12_matches_L25 at h
    by_cases c6 : wr ((gI M 55 0) * (gI M 55 1)) ≤ wr x2
    · rw [if_pos c6] at h
      cases h
      cases k2 _ rfl
      exact F
    · rw [if_neg c6] at h
      obtain ⟨c7, h⟩ := of_ck h
      obtain ⟨v28, M29, h9, h⟩ := of_bd2 h
      have F : Fr [67, 68, 69] M0 M29 := by
        have h := h9
        by_cases c8 : wr (gI M 56 (wr x2)) = 0
        · rw [if_pos c8] at h
          cases h
          exact F
        · rw [if_neg c8] at h
          obtain ⟨b10, hc9, h⟩ := of_bd1 h
          by_cases c11 : wr (bI b10) = 0
          · rw [if_pos c11] at h
            cases h
            exact F
          · rw [if_neg c11] at h
            obtain ⟨M13, hc12, h⟩ := of_bd1 h
            have F := F.trans (fr_X12_forgets hc12) (by decide)
            obtain ⟨r15, M16, hc14, h⟩ := of_bd2 h
            have F := F.trans (fr_X12_searches hc14) (by decide)
            obtain ⟨v18, ev18, h⟩ := of_lt h
            obtain ⟨y26, M27, h9, h⟩ := of_bd2 h
            have F := F.trans (fl_X12_matches_L77 (x1 + v18) x2 FU _ _ _ h9 Fr.rf) (by decide)
            clear h9
            cases h
            exact F
      clear h9
      cases h
      exact ih _ _ _  _ (k1 _ rfl) F

set_option maxRecDepth 10000 in
theorem fr_X12_matches {M : Mem} {M2 : Mem}  {r : Int} (h : m_X12_matches M = some (r, M2)) : Fr [67, 68, 69] M M2 := by
  unfold m_X12_matches at h
  have F : Fr [67, 68, 69] M M := Fr.rf
  obtain ⟨y4, M5, h9, h⟩ := of_bd2 h
  have F := F.trans (fl_X12_matches_L4 0 FU _ _ _ h9 Fr.rf) (by decide)
  clear h9
  obtain ⟨y30, y31, M32, h9, h⟩ := of_bd3 h
  have F := F.trans (fl_X12_matches_L25  FU _ _ _ _ h9 Fr.rf) (by decide)
  clear h9
  cases h
  exact F

set_option maxRecDepth 10000 in
theorem fr_X12_most {M : Mem} {M2 : Mem}  {r : Int} (h : m_X12_most M = some (r, M2)) : Fr [67, 68, 69] M M2 := by
  unfold m_X12_most at h
  have F : Fr [67, 68, 69] M M := Fr.rf
  obtain ⟨r2, M3, hc1, h⟩ := of_bd2 h
  have F := F.trans (fr_X12_matches hc1) (by decide)
  cases h
  exact F

set_option maxRecDepth 10000 in
theorem fl_X12_doubtAll_L7 (p1 : Int) (p2 : Int) {M0 : Mem} : ∀ (nn : Nat) (x3 : Int) (M : Mem) (out : Int × Mem), itr (fun s => m_X12_doubtAll_L7 s.2 p1 p2 s.1) nn (x3, M) = some out → Fr [70] M0 M → Fr [70] M0 out.2 := by
  intro nn
  induction nn with
  | zero =>
    intro x3 M out h _
    cases h
  | succ nn ih =>
    intro x3 M out h0 F
    obtain ⟨w, h, k1, k2⟩ := itr_inv h0
    have h : m_X12_doubtAll_L7 M p1 p2 x3 = some w := h
    unfold m_X12_doubtAll_L7 at h
    by_cases c4 : wr 64 ≤ wr x3
    · rw [if_pos c4] at h
      cases h
      cases k2 _ rfl
      exact F
    · rw [if_neg c4] at h
      obtain ⟨v6, ev6, h⟩ := of_lt h
      obtain ⟨c7, h⟩ := of_ck h
      obtain ⟨M8, eM8, h⟩ := of_lt h
      have F := F.sI (by decide) eM8
      cases h
      exact ih _ _  _ (k1 _ rfl) F

set_option maxRecDepth 10000 in
theorem fl_X12_doubtAll_L40 (p1 : Int) {M0 : Mem} : ∀ (nn : Nat) (x3 : Int) (M : Mem) (out : Int × Mem), itr (fun s => m_X12_doubtAll_L40 s.2 p1 s.1) nn (x3, M) = some out → Fr [68, 69] M0 M → Fr [68, 69] M0 out.2 := by
  intro nn
  induction nn with
  | zero =>
    intro x3 M out h _
    cases h
  | succ nn ih =>
    intro x3 M out h0 F
    obtain ⟨w, h, k1, k2⟩ := itr_inv h0
    have h : m_X12_doubtAll_L40 M p1 x3 = some w := h
    unfold m_X12_doubtAll_L40 at h
    by_cases c13 : wr ((gI M 55 0) * (gI M 55 1)) ≤ wr x3
    · rw [if_pos c13] at h
      cases h
      cases k2 _ rfl
      exact F
    · rw [if_neg c13] at h
      obtain ⟨c14, h⟩ := of_ck h
      obtain ⟨M26, h9, h⟩ := of_bd1 h
      have F : Fr [68, 69] M0 M26 := by
        have h := h9
        by_cases c15 : wr (gI M 56 (wr x3)) = 0
        · rw [if_pos c15] at h
          cases h
          exact F
        · rw [if_neg c15] at h
          obtain ⟨b17, hc16, h⟩ := of_bd1 h
          obtain ⟨v19, ev19, h⟩ := of_lt h
          by_cases c20 : wr (bI b17) = wr v19
          · rw [if_pos c20] at h
            by_cases c21 : 0 ≤ wr (gI M 67 (wr x3))
            · rw [if_pos c21] at h
              cases h
              exact F
            · rw [if_neg c21] at h
              by_cases c22 : 0 ≤ wr (gI M 68 (wr x3))
              · rw [if_pos c22] at h
                cases h
                exact F
              · rw [if_neg c22] at h
                obtain ⟨r24, M25, hc23, h⟩ := of_bd2 h
                have F := F.trans (fr_X12_searches hc23) (by decide)
                cases h
                exact F
          · rw [if_neg c20] at h
            cases h
            exact F
      clear h9
      cases h
      exact ih _ _  _ (k1 _ rfl) F

set_option maxRecDepth 10000 in
theorem fl_X12_doubtAll_L111 (p1 : Int) {M0 : Mem} : ∀ (nn : Nat) (x3 : Int) (M : Mem) (out : Int × Mem), itr (fun s => m_X12_doubtAll_L111 s.2 p1 s.1) nn (x3, M) = some out → Fr [70] M0 M → Fr [70] M0 out.2 := by
  intro nn
  induction nn with
  | zero =>
    intro x3 M out h _
    cases h
  | succ nn ih =>
    intro x3 M out h0 F
    obtain ⟨w, h, k1, k2⟩ := itr_inv h0
    have h : m_X12_doubtAll_L111 M p1 x3 = some w := h
    unfold m_X12_doubtAll_L111 at h
    by_cases c29 : wr ((gI M 55 0) * (gI M 55 1)) ≤ wr x3
    · rw [if_pos c29] at h
      cases h
      cases k2 _ rfl
      exact F
    · rw [if_neg c29] at h
      obtain ⟨c30, h⟩ := of_ck h
      obtain ⟨v38, h9, h⟩ := of_bd1 h
      clear h9
      obtain ⟨M39, eM39, h⟩ := of_lt h
      have F := F.sI (by decide) eM39
      cases h
      exact ih _ _  _ (k1 _ rfl) F

set_option maxRecDepth 10000 in
theorem fl_X12_doubtAll_L194 (p3 : Int) {M0 : Mem} : ∀ (nn : Nat) (x4 : Int) (M : Mem) (out : Int × Mem), itr (fun s => m_X12_doubtAll_L194 s.2 p3 s.1) nn (x4, M) = some out → Fr [70] M0 M → Fr [70] M0 out.2 := by
  intro nn
  induction nn with
  | zero =>
    intro x4 M out h _
    cases h
  | succ nn ih =>
    intro x4 M out h0 F
    obtain ⟨w, h, k1, k2⟩ := itr_inv h0
    have h : m_X12_doubtAll_L194 M p3 x4 = some w := h
    unfold m_X12_doubtAll_L194 at h
    by_cases c43 : wr 4 ≤ wr x4
    · rw [if_pos c43] at h
      cases h
      cases k2 _ rfl
      exact F
    · rw [if_neg c43] at h
      obtain ⟨c44, h⟩ := of_ck h
      by_cases c45 : wr (gI M 56 (wr p3)) = 0
      · rw [if_pos c45] at h
        cases h
        cases k2 _ rfl
        exact F
      · rw [if_neg c45] at h
        by_cases c46 : wr (gI M 70 (wr p3)) = 0
        · rw [if_pos c46] at h
          obtain ⟨r48, hc47, h⟩ := of_bd1 h
          obtain ⟨v52, h9, h⟩ := of_bd1 h
          clear h9
          obtain ⟨M53, eM53, h⟩ := of_lt h
          have F := F.sI (by decide) eM53
          cases h
          exact ih _ _  _ (k1 _ rfl) F
        · rw [if_neg c46] at h
          cases h
          cases k2 _ rfl
          exact F

set_option maxRecDepth 10000 in
theorem fl_X12_doubtAll_L178  {M0 : Mem} : ∀ (nn : Nat) (x3 : Int) (M : Mem) (out : Int × Mem), itr (fun s => m_X12_doubtAll_L178 s.2  s.1) nn (x3, M) = some out → Fr [70] M0 M → Fr [70] M0 out.2 := by
  intro nn
  induction nn with
  | zero =>
    intro x3 M out h _
    cases h
  | succ nn ih =>
    intro x3 M out h0 F
    obtain ⟨w, h, k1, k2⟩ := itr_inv h0
    have h : m_X12_doubtAll_L178 M  x3 = some w := h
    unfold m_X12_doubtAll_L178 at h
    by_cases c42 : wr ((gI M 55 0) * (gI M 55 1)) ≤ wr x3
    · rw [if_pos c42] at h
      cases h
      cases k2 _ rfl
      exact F
    · rw [if_neg c42] at h
      obtain ⟨y54, M55, h9, h⟩ := of_bd2 h
      have F := F.trans (fl_X12_doubtAll_L194 x3 FU _ _ _ h9 Fr.rf) (by decide)
      clear h9
      cases h
      exact ih _ _  _ (k1 _ rfl) F

set_option maxRecDepth 10000 in
theorem fr_X12_doubtAll {M : Mem} {M2 : Mem} {a1 : Int} (h : m_X12_doubtAll M a1 = some (M2)) : Fr [67, 68, 69, 70] M M2 := by
  unfold m_X12_doubtAll at h
  have F : Fr [67, 68, 69, 70] M M := Fr.rf
  obtain ⟨r2, M3, hc1, h⟩ := of_bd2 h
  have F := F.trans (fr_X12_matches hc1) (by decide)
  obtain ⟨y9, M10, h9, h⟩ := of_bd2 h
  have F := F.trans (fl_X12_doubtAll_L7 a1 r2 FU _ _ _ h9 Fr.rf) (by decide)
  clear h9
  obtain ⟨M12, hc11, h⟩ := of_bd1 h
  have F := F.trans (fr_X12_forgets hc11) (by decide)
  obtain ⟨y27, M28, h9, h⟩ := of_bd2 h
  have F := F.trans (fl_X12_doubtAll_L40 a1 FU _ _ _ h9 Fr.rf) (by decide)
  clear h9
  obtain ⟨y40, M41, h9, h⟩ := of_bd2 h
  have F := F.trans (fl_X12_doubtAll_L111 a1 FU _ _ _ h9 Fr.rf) (by decide)
  clear h9
  obtain ⟨y56, M57, h9, h⟩ := of_bd2 h
  have F := F.trans (fl_X12_doubtAll_L178  FU _ _ _ h9 Fr.rf) (by decide)
  clear h9
  cases h
  exact F

set_option maxRecDepth 10000 in
theorem fr_X12_bar {M : Mem} {M2 : Mem} {a1 : Int} {a2 : Int} {r : Int} (h : m_X12_bar M a1 a2 = some (r, M2)) : Fr [67, 68, 69, 70] M M2 := by
  unfold m_X12_bar at h
  have F : Fr [67, 68, 69, 70] M M := Fr.rf
  obtain ⟨b2, hc1, h⟩ := of_bd1 h
  by_cases c3 : wr (bI b2) = 0
  · rw [if_pos c3] at h
    cases h
    exact F
  · rw [if_neg c3] at h
    obtain ⟨b5, hc4, h⟩ := of_bd1 h
    by_cases c6 : wr (bI b5) = 0
    · rw [if_pos c6] at h
      cases h
      exact F
    · rw [if_neg c6] at h
      obtain ⟨M8, hc7, h⟩ := of_bd1 h
      have F := F.trans (fr_X12_doubtAll hc7) (by decide)
      obtain ⟨y13, y14, h9, h⟩ := of_bd2 h
      clear h9
      cases h
      exact F

set_option maxRecDepth 10000 in
theorem fr_X12_bars {M : Mem} {M2 : Mem} {a1 : Int} {a2 : Int} {r : Int} (h : m_X12_bars M a1 a2 = some (r, M2)) : Fr [67, 68, 69, 70] M M2 := by
  unfold m_X12_bars at h
  have F : Fr [67, 68, 69, 70] M M := Fr.rf
  obtain ⟨b2, hc1, h⟩ := of_bd1 h
  by_cases c3 : wr (bI b2) = 0
  · rw [if_pos c3] at h
    cases h
    exact F
  · rw [if_neg c3] at h
    obtain ⟨b5, hc4, h⟩ := of_bd1 h
    by_cases c6 : wr (bI b5) = 0
    · rw [if_pos c6] at h
      cases h
      exact F
    · rw [if_neg c6] at h
      obtain ⟨c7, h⟩ := of_ck h
      by_cases c8 : wr (gI M 56 (wr a2)) = 0
      · rw [if_pos c8] at h
        cases h
        exact F
      · rw [if_neg c8] at h
        obtain ⟨M10, hc9, h⟩ := of_bd1 h
        have F := F.trans (fr_X12_doubtAll hc9) (by decide)
        cases h
        exact F

set_option maxRecDepth 10000 in
theorem fl_X12_meets_L9 (p1 : Int) (p2 : Int) (p3 : Int) {M0 : Mem} : ∀ (nn : Nat) (x4 : Int) (M : Mem) (out : Int × Mem), itr (fun s => m_X12_meets_L9 s.2 p1 p2 p3 s.1) nn (x4, M) = some out → Fr [71] M0 M → Fr [71] M0 out.2 := by
  intro nn
  induction nn with
  | zero =>
    intro x4 M out h _
    cases h
  | succ nn ih =>
    intro x4 M out h0 F
    obtain ⟨w, h, k1, k2⟩ := itr_inv h0
    have h : m_X12_meets_L9 M p1 p2 p3 x4 = some w := h
    unfold m_X12_meets_L9 at h
    by_cases c3 : wr 100 ≤ wr x4
    · rw [if_pos c3] at h
      cases h
      cases k2 _ rfl
      exact F
    · rw [if_neg c3] at h
      obtain ⟨c4, h⟩ := of_ck h
      obtain ⟨M5, eM5, h⟩ := of_lt h
      have F := F.sI (by decide) eM5
      cases h
      exact ih _ _  _ (k1 _ rfl) F

set_option maxRecDepth 10000 in
theorem fl_X12_meets_L60 (p2 : Int) (p3 : Int) (p5 : Int) {M0 : Mem} : ∀ (nn : Nat) (x4 : Int) (x6 : Int) (M : Mem) (out : Int × Int × Mem), itr (fun s => m_X12_meets_L60 s.2.2 p2 p3 p5 s.1 s.2.1) nn (x4, x6, M) = some out → Fr [71, 72] M0 M → Fr [71, 72] M0 out.2.2 := by
  intro nn
  induction nn with
  | zero =>
    intro x4 x6 M out h _
    cases h
  | succ nn ih =>
    intro x4 x6 M out h0 F
    obtain ⟨w, h, k1, k2⟩ := itr_inv h0
    have h : m_X12_meets_L60 M p2 p3 p5 x4 x6 = some w := h
    unfold m_X12_meets_L60 at h
    by_cases c12 : wr 9 ≤ wr x6
    · rw [if_pos c12] at h
      cases h
      cases k2 _ rfl
      exact F
    · rw [if_neg c12] at h
      obtain ⟨c13, h⟩ := of_ck h
      obtain ⟨b15, hc14, h⟩ := of_bd1 h
      obtain ⟨v23, h9, h⟩ := of_bd1 h
      clear h9
      obtain ⟨v33, M34, h9, h⟩ := of_bd2 h
      have F : Fr [71, 72] M0 M34 := by
        have h := h9
        by_cases c24 : wr v23 = 0
        · rw [if_pos c24] at h
          cases h
          exact F
        · rw [if_neg c24] at h
          obtain ⟨c25, h⟩ := of_ck h
          by_cases c26 : wr (gI M 71 (wr ((10 * ((idv (gI M 72 (wr p5)) 10) + ((idv x6 3) - 1))) + ((irm (gI M 72 (wr p5)) 10) + ((irm x6 3) - 1))))) = 0
          · rw [if_pos c26] at h
            obtain ⟨b28, hc27, h⟩ := of_bd1 h
            by_cases c29 : wr (bI b28) = wr p3
            · rw [if_pos c29] at h
              obtain ⟨M30, eM30, h⟩ := of_lt h
              have F := F.sI (by decide) eM30
              obtain ⟨c31, h⟩ := of_ck h
              obtain ⟨M32, eM32, h⟩ := of_lt h
              have F := F.sI (by decide) eM32
              cases h
              exact F
            · rw [if_neg c29] at h
              cases h
              exact F
          · rw [if_neg c26] at h
            cases h
            exact F
      clear h9
      cases h
      exact ih _ _ _  _ (k1 _ rfl) F

set_option maxRecDepth 10000 in
theorem fl_X12_meets_L50 (p2 : Int) (p3 : Int) {M0 : Mem} : ∀ (nn : Nat) (x4 : Int) (x5 : Int) (M : Mem) (out : Int × Int × Mem), itr (fun s => m_X12_meets_L50 s.2.2 p2 p3 s.1 s.2.1) nn (x4, x5, M) = some out → Fr [71, 72] M0 M → Fr [71, 72] M0 out.2.2 := by
  intro nn
  induction nn with
  | zero =>
    intro x4 x5 M out h _
    cases h
  | succ nn ih =>
    intro x4 x5 M out h0 F
    obtain ⟨w, h, k1, k2⟩ := itr_inv h0
    have h : m_X12_meets_L50 M p2 p3 x4 x5 = some w := h
    unfold m_X12_meets_L50 at h
    by_cases c11 : wr x4 ≤ wr x5
    · rw [if_pos c11] at h
      cases h
      cases k2 _ rfl
      exact F
    · rw [if_neg c11] at h
      obtain ⟨y35, y36, M37, h9, h⟩ := of_bd3 h
      have F := F.trans (fl_X12_meets_L60 p2 p3 x5 FU _ _ _ _ h9 Fr.rf) (by decide)
      clear h9
      cases h
      exact ih _ _ _  _ (k1 _ rfl) F

set_option maxRecDepth 10000 in
theorem fr_X12_meets {M : Mem} {M2 : Mem} {a1 : Int} {a2 : Int} {r : Int} (h : m_X12_meets M a1 a2 = some (r, M2)) : Fr [71, 72] M M2 := by
  unfold m_X12_meets at h
  have F : Fr [71, 72] M M := Fr.rf
  obtain ⟨b2, hc1, h⟩ := of_bd1 h
  obtain ⟨y6, M7, h9, h⟩ := of_bd2 h
  have F := F.trans (fl_X12_meets_L9 a1 a2 (bI b2) FU _ _ _ h9 Fr.rf) (by decide)
  clear h9
  obtain ⟨c8, h⟩ := of_ck h
  obtain ⟨M9, eM9, h⟩ := of_lt h
  have F := F.sI (by decide) eM9
  obtain ⟨M10, eM10, h⟩ := of_lt h
  have F := F.sI (by decide) eM10
  obtain ⟨y38, y39, M40, h9, h⟩ := of_bd3 h
  have F := F.trans (fl_X12_meets_L50 a2 (bI b2) FU _ _ _ _ h9 Fr.rf) (by decide)
  clear h9
  cases h
  exact F

set_option maxRecDepth 10000 in
theorem fr_X12_isWhole {M : Mem} {M2 : Mem}  {r : Bool} (h : m_X12_isWhole M = some (r, M2)) : Fr [71, 72] M M2 := by
  unfold m_X12_isWhole at h
  have F : Fr [71, 72] M M := Fr.rf
  obtain ⟨r2, hc1, h⟩ := of_bd1 h
  by_cases c3 : wr r2 = 0
  · rw [if_pos c3] at h
    cases h
    exact F
  · rw [if_neg c3] at h
    obtain ⟨y6, h9, h⟩ := of_bd1 h
    clear h9
    obtain ⟨c7, h⟩ := of_ck h
    obtain ⟨r9, M10, hc8, h⟩ := of_bd2 h
    have F := F.trans (fr_X12_meets hc8) (by decide)
    obtain ⟨v16, M17, h9, h⟩ := of_bd2 h
    have F : Fr [71, 72] M M17 := by
      have h := h9
      by_cases c11 : wr r9 = wr r2
      · rw [if_pos c11] at h
        obtain ⟨r13, M14, hc12, h⟩ := of_bd2 h
        have F := F.trans (fr_X12_meets hc12) (by decide)
        by_cases c15 : wr r13 = wr ((((gI M14 55 0) + 2) * ((gI M14 55 1) + 2)) - r2)
        · rw [if_pos c15] at h
          cases h
          exact F
        · rw [if_neg c15] at h
          cases h
          exact F
      · rw [if_neg c11] at h
        cases h
        exact F
    clear h9
    obtain ⟨y52, y53, h9, h⟩ := of_bd2 h
    clear h9
    obtain ⟨cz, h⟩ := of_ck h
    cases h
    exact F

set_option maxRecDepth 10000 in
theorem fr_X12_whole {M : Mem} {M2 : Mem}  {r : Int} (h : m_X12_whole M = some (r, M2)) : Fr [71, 72] M M2 := by
  unfold m_X12_whole at h
  have F : Fr [71, 72] M M := Fr.rf
  obtain ⟨b2, M3, hc1, h⟩ := of_bd2 h
  have F := F.trans (fr_X12_isWhole hc1) (by decide)
  obtain ⟨v5, ev5, h⟩ := of_lt h
  cases h
  exact F

set_option maxRecDepth 10000 in
theorem fl_X12_rises_L2 (p1 : Int) {M0 : Mem} : ∀ (nn : Nat) (x2 : Int) (M : Mem) (out : Int × Mem), itr (fun s => m_X12_rises_L2 s.2 p1 s.1) nn (x2, M) = some out → Fr [73] M0 M → Fr [73] M0 out.2 := by
  intro nn
  induction nn with
  | zero =>
    intro x2 M out h _
    cases h
  | succ nn ih =>
    intro x2 M out h0 F
    obtain ⟨w, h, k1, k2⟩ := itr_inv h0
    have h : m_X12_rises_L2 M p1 x2 = some w := h
    unfold m_X12_rises_L2 at h
    by_cases c1 : wr 81 ≤ wr x2
    · rw [if_pos c1] at h
      cases h
      cases k2 _ rfl
      exact F
    · rw [if_neg c1] at h
      obtain ⟨c2, h⟩ := of_ck h
      obtain ⟨M3, eM3, h⟩ := of_lt h
      have F := F.sI (by decide) eM3
      cases h
      exact ih _ _  _ (k1 _ rfl) F

set_option maxRecDepth 10000 in
theorem fl_X12_rises_L88 (p1 : Int) (p4 : Int) (p5 : Int) {M0 : Mem} : ∀ (nn : Nat) (x3 : Int) (x6 : Int) (M : Mem) (out : Int × Int × Mem), itr (fun s => m_X12_rises_L88 s.2.2 p1 p4 p5 s.1 s.2.1) nn (x3, x6, M) = some out → Fr [73] M0 M → Fr [73] M0 out.2.2 := by
  intro nn
  induction nn with
  | zero =>
    intro x3 x6 M out h _
    cases h
  | succ nn ih =>
    intro x3 x6 M out h0 F
    obtain ⟨w, h, k1, k2⟩ := itr_inv h0
    have h : m_X12_rises_L88 M p1 p4 p5 x3 x6 = some w := h
    unfold m_X12_rises_L88 at h
    by_cases c15 : wr 2 ≤ wr x6
    · rw [if_pos c15] at h
      cases h
      cases k2 _ rfl
      exact F
    · rw [if_neg c15] at h
      obtain ⟨r17, hc16, h⟩ := of_bd1 h
      obtain ⟨v19, ev19, h⟩ := of_lt h
      obtain ⟨v34, M35, h9, h⟩ := of_bd2 h
      have F : Fr [73] M0 M35 := by
        have h := h9
        by_cases c20 : wr r17 = 0
        · rw [if_pos c20] at h
          cases h
          exact F
        · rw [if_neg c20] at h
          obtain ⟨c21, h⟩ := of_ck h
          obtain ⟨v23, ev23, h⟩ := of_lt h
          obtain ⟨c24, h⟩ := of_ck h
          obtain ⟨v26, ev26, h⟩ := of_lt h
          by_cases c27 : wr v23 = wr v26
          · rw [if_pos c27] at h
            cases h
            exact F
          · rw [if_neg c27] at h
            obtain ⟨v29, ev29, h⟩ := of_lt h
            obtain ⟨M30, eM30, h⟩ := of_lt h
            have F := F.sI (by decide) eM30
            obtain ⟨v32, ev32, h⟩ := of_lt h
            obtain ⟨M33, eM33, h⟩ := of_lt h
            have F := F.sI (by decide) eM33
            cases h
            exact F
      clear h9
      cases h
      exact ih _ _ _  _ (k1 _ rfl) F

set_option maxRecDepth 10000 in
theorem fl_X12_rises_L76 (p1 : Int) (p4 : Int) {M0 : Mem} : ∀ (nn : Nat) (x3 : Int) (x5 : Int) (M : Mem) (out : Int × Int × Mem), itr (fun s => m_X12_rises_L76 s.2.2 p1 p4 s.1 s.2.1) nn (x3, x5, M) = some out → Fr [73] M0 M → Fr [73] M0 out.2.2 := by
  intro nn
  induction nn with
  | zero =>
    intro x3 x5 M out h _
    cases h
  | succ nn ih =>
    intro x3 x5 M out h0 F
    obtain ⟨w, h, k1, k2⟩ := itr_inv h0
    have h : m_X12_rises_L76 M p1 p4 x3 x5 = some w := h
    unfold m_X12_rises_L76 at h
    by_cases c14 : wr (gI M 55 0) < wr x5
    · rw [if_pos c14] at h
      cases h
      cases k2 _ rfl
      exact F
    · rw [if_neg c14] at h
      obtain ⟨y36, y37, M38, h9, h⟩ := of_bd3 h
      have F := F.trans (fl_X12_rises_L88 p1 p4 x5 FU _ _ _ _ h9 Fr.rf) (by decide)
      clear h9
      cases h
      exact ih _ _ _  _ (k1 _ rfl) F

set_option maxRecDepth 10000 in
theorem fl_X12_rises_L64 (p1 : Int) {M0 : Mem} : ∀ (nn : Nat) (x3 : Int) (x4 : Int) (M : Mem) (out : Int × Int × Mem), itr (fun s => m_X12_rises_L64 s.2.2 p1 s.1 s.2.1) nn (x3, x4, M) = some out → Fr [73] M0 M → Fr [73] M0 out.2.2 := by
  intro nn
  induction nn with
  | zero =>
    intro x3 x4 M out h _
    cases h
  | succ nn ih =>
    intro x3 x4 M out h0 F
    obtain ⟨w, h, k1, k2⟩ := itr_inv h0
    have h : m_X12_rises_L64 M p1 x3 x4 = some w := h
    unfold m_X12_rises_L64 at h
    by_cases c13 : wr (gI M 55 1) < wr x4
    · rw [if_pos c13] at h
      cases h
      cases k2 _ rfl
      exact F
    · rw [if_neg c13] at h
      obtain ⟨y39, y40, M41, h9, h⟩ := of_bd3 h
      have F := F.trans (fl_X12_rises_L76 p1 x4 FU _ _ _ _ h9 Fr.rf) (by decide)
      clear h9
      cases h
      exact ih _ _ _  _ (k1 _ rfl) F

set_option maxRecDepth 10000 in
theorem fl_X12_rises_L55 (p1 : Int) {M0 : Mem} : ∀ (nn : Nat) (x3 : Int) (M : Mem) (out : Int × Mem), itr (fun s => m_X12_rises_L55 s.2 p1 s.1) nn (x3, M) = some out → Fr [73] M0 M → Fr [73] M0 out.2 := by
  intro nn
  induction nn with
  | zero =>
    intro x3 M out h _
    cases h
  | succ nn ih =>
    intro x3 M out h0 F
    obtain ⟨w, h, k1, k2⟩ := itr_inv h0
    have h : m_X12_rises_L55 M p1 x3 = some w := h
    unfold m_X12_rises_L55 at h
    by_cases c12 : wr x3 = 0
    · rw [if_pos c12] at h
      cases h
      cases k2 _ rfl
      exact F
    · rw [if_neg c12] at h
      obtain ⟨y42, y43, M44, h9, h⟩ := of_bd3 h
      have F := F.trans (fl_X12_rises_L64 p1 FU _ _ _ _ h9 Fr.rf) (by decide)
      clear h9
      cases h
      exact ih _ _  _ (k1 _ rfl) F

set_option maxRecDepth 10000 in
theorem fr_X12_rises {M : Mem} {M2 : Mem} {a1 : Int} (h : m_X12_rises M a1 = some (M2)) : Fr [73] M M2 := by
  unfold m_X12_rises at h
  have F : Fr [73] M M := Fr.rf
  obtain ⟨y4, M5, h9, h⟩ := of_bd2 h
  have F := F.trans (fl_X12_rises_L2 a1 FU _ _ _ h9 Fr.rf) (by decide)
  clear h9
  obtain ⟨y9, h9, h⟩ := of_bd1 h
  clear h9
  obtain ⟨c10, h⟩ := of_ck h
  obtain ⟨M11, eM11, h⟩ := of_lt h
  have F := F.sI (by decide) eM11
  obtain ⟨y45, M46, h9, h⟩ := of_bd2 h
  have F := F.trans (fl_X12_rises_L55 a1 FU _ _ _ h9 Fr.rf) (by decide)
  clear h9
  cases h
  exact F

set_option maxRecDepth 10000 in
theorem fr_X12_refuses {M : Mem} {M2 : Mem} {a1 : Int} {r : Int} (h : m_X12_refuses M a1 = some (r, M2)) : Fr [71, 72] M M2 := by
  unfold m_X12_refuses at h
  have F : Fr [71, 72] M M := Fr.rf
  obtain ⟨c1, h⟩ := of_ck h
  obtain ⟨v7, M8, h9, h⟩ := of_bd2 h
  have F : Fr [71, 72] M M8 := by
    have h := h9
    by_cases c2 : wr (gI M 59 (wr a1)) = 0
    · rw [if_pos c2] at h
      cases h
      exact F
    · rw [if_neg c2] at h
      obtain ⟨b4, M5, hc3, h⟩ := of_bd2 h
      have F := F.trans (fr_X12_isWhole hc3) (by decide)
      by_cases c6 : wr (bI b4) = 0
      · rw [if_pos c6] at h
        cases h
        exact F
      · rw [if_neg c6] at h
        cases h
        exact F
  clear h9
  cases h
  exact F

set_option maxRecDepth 10000 in
theorem fr_X12_height {M : Mem} {M2 : Mem} {a1 : Int} {a2 : Int} {a3 : Int} {r : Int} (h : m_X12_height M a1 a2 a3 = some (r, M2)) : Fr [71, 72, 73] M M2 := by
  unfold m_X12_height at h
  have F : Fr [71, 72, 73] M M := Fr.rf
  obtain ⟨b2, hc1, h⟩ := of_bd1 h
  by_cases c3 : wr (bI b2) = 0
  · rw [if_pos c3] at h
    cases h
    exact F
  · rw [if_neg c3] at h
    obtain ⟨b5, hc4, h⟩ := of_bd1 h
    by_cases c6 : wr (bI b5) = 0
    · rw [if_pos c6] at h
      cases h
      exact F
    · rw [if_neg c6] at h
      obtain ⟨r8, M9, hc7, h⟩ := of_bd2 h
      have F := F.trans (fr_X12_refuses hc7) (by decide)
      by_cases c10 : 0 ≤ wr r8
      · rw [if_pos c10] at h
        obtain ⟨M12, hc11, h⟩ := of_bd1 h
        have F := F.trans (fr_X12_rises hc11) (by decide)
        obtain ⟨c13, h⟩ := of_ck h
        cases h
        exact F
      · rw [if_neg c10] at h
        cases h
        exact F

set_option maxRecDepth 10000 in
theorem fr_X12_across {M : Mem} {M2 : Mem} {a1 : Int} {a2 : Int} {a3 : Int} (h : m_X12_across M a1 a2 a3 = some (M2)) : Fr [60] M M2 := by
  unfold m_X12_across at h
  have F : Fr [60] M M := Fr.rf
  obtain ⟨c1, h⟩ := of_ck h
  obtain ⟨v3, ev3, h⟩ := of_lt h
  obtain ⟨v5, ev5, h⟩ := of_lt h
  obtain ⟨M7, hc6, h⟩ := of_bd1 h
  have F := F.trans (fr_X12_lays hc6) (by decide)
  obtain ⟨v9, ev9, h⟩ := of_lt h
  obtain ⟨M11, hc10, h⟩ := of_bd1 h
  have F := F.trans (fr_X12_lays hc10) (by decide)
  cases h
  exact F

set_option maxRecDepth 10000 in
theorem fr_X12_turn {M : Mem} {M2 : Mem} {a1 : Int} {a2 : Int} {a3 : Int} {r : Int} (h : m_X12_turn M a1 a2 a3 = some (r, M2)) : Fr [60, 71, 72] M M2 := by
  unfold m_X12_turn at h
  have F : Fr [60, 71, 72] M M := Fr.rf
  obtain ⟨b2, hc1, h⟩ := of_bd1 h
  by_cases c3 : wr (bI b2) = 0
  · rw [if_pos c3] at h
    cases h
    exact F
  · rw [if_neg c3] at h
    obtain ⟨b5, hc4, h⟩ := of_bd1 h
    by_cases c6 : wr (bI b5) = 0
    · rw [if_pos c6] at h
      cases h
      exact F
    · rw [if_neg c6] at h
      obtain ⟨b8, hc7, h⟩ := of_bd1 h
      by_cases c9 : wr (bI b8) = 0
      · rw [if_pos c9] at h
        cases h
        exact F
      · rw [if_neg c9] at h
        obtain ⟨r11, M12, hc10, h⟩ := of_bd2 h
        have F := F.trans (fr_X12_refuses hc10) (by decide)
        by_cases c13 : 0 ≤ wr r11
        · rw [if_pos c13] at h
          obtain ⟨r15, hc14, h⟩ := of_bd1 h
          by_cases c16 : wr r15 = wr (-4)
          · rw [if_pos c16] at h
            cases h
            exact F
          · rw [if_neg c16] at h
            obtain ⟨M18, hc17, h⟩ := of_bd1 h
            have F := F.trans (fr_X12_across hc17) (by decide)
            cases h
            exact F
        · rw [if_neg c13] at h
          cases h
          exact F

set_option maxRecDepth 10000 in
theorem fr_X12_turns {M : Mem} {M2 : Mem} {a1 : Int} {a2 : Int} {r : Int} (h : m_X12_turns M a1 a2 = some (r, M2)) : Fr [71, 72] M M2 := by
  unfold m_X12_turns at h
  have F : Fr [71, 72] M M := Fr.rf
  obtain ⟨b2, hc1, h⟩ := of_bd1 h
  by_cases c3 : wr (bI b2) = 0
  · rw [if_pos c3] at h
    cases h
    exact F
  · rw [if_neg c3] at h
    obtain ⟨b5, hc4, h⟩ := of_bd1 h
    by_cases c6 : wr (bI b5) = 0
    · rw [if_pos c6] at h
      cases h
      exact F
    · rw [if_neg c6] at h
      obtain ⟨r8, M9, hc7, h⟩ := of_bd2 h
      have F := F.trans (fr_X12_refuses hc7) (by decide)
      obtain ⟨v13, h9, h⟩ := of_bd1 h
      clear h9
      cases h
      exact F

set_option maxRecDepth 10000 in
theorem fl_X12_settle_L51 (p1 : Int) (p2 : Int) (p5 : Int) {M0 : Mem} : ∀ (nn : Nat) (x4 : Int) (x6 : Int) (M : Mem) (out : Int × Int × Mem), itr (fun s => m_X12_settle_L51 s.2.2 p1 p2 p5 s.1 s.2.1) nn (x4, x6, M) = some out → Fr [60] M0 M → Fr [60] M0 out.2.2 := by
  intro nn
  induction nn with
  | zero =>
    intro x4 x6 M out h _
    cases h
  | succ nn ih =>
    intro x4 x6 M out h0 F
    obtain ⟨w, h, k1, k2⟩ := itr_inv h0
    have h : m_X12_settle_L51 M p1 p2 p5 x4 x6 = some w := h
    unfold m_X12_settle_L51 at h
    by_cases c12 : wr 81 ≤ wr x6
    · rw [if_pos c12] at h
      cases h
      cases k2 _ rfl
      exact F
    · rw [if_neg c12] at h
      obtain ⟨r14, hc13, h⟩ := of_bd1 h
      obtain ⟨v18, M19, h9, h⟩ := of_bd2 h
      have F : Fr [60] M0 M19 := by
        have h := h9
        by_cases c15 : wr r14 = wr p2
        · rw [if_pos c15] at h
          obtain ⟨M17, hc16, h⟩ := of_bd1 h
          have F := F.trans (fr_X12_across hc16) (by decide)
          cases h
          exact F
        · rw [if_neg c15] at h
          cases h
          exact F
      clear h9
      cases h
      exact ih _ _ _  _ (k1 _ rfl) F

set_option maxRecDepth 10000 in
theorem fl_X12_settle_L37 (p1 : Int) (p2 : Int) {M0 : Mem} : ∀ (nn : Nat) (x4 : Int) (x5 : Int) (M : Mem) (out : Int × Int × Mem), itr (fun s => m_X12_settle_L37 s.2.2 p1 p2 s.1 s.2.1) nn (x4, x5, M) = some out → Fr [60] M0 M → Fr [60] M0 out.2.2 := by
  intro nn
  induction nn with
  | zero =>
    intro x4 x5 M out h _
    cases h
  | succ nn ih =>
    intro x4 x5 M out h0 F
    obtain ⟨w, h, k1, k2⟩ := itr_inv h0
    have h : m_X12_settle_L37 M p1 p2 x4 x5 = some w := h
    unfold m_X12_settle_L37 at h
    by_cases c11 : wr x4 = wr x5
    · rw [if_pos c11] at h
      cases h
      cases k2 _ rfl
      exact F
    · rw [if_neg c11] at h
      obtain ⟨y20, y21, M22, h9, h⟩ := of_bd3 h
      have F := F.trans (fl_X12_settle_L51 p1 p2 x4 FU _ _ _ _ h9 Fr.rf) (by decide)
      clear h9
      cases h
      exact ih _ _ _  _ (k1 _ rfl) F

set_option maxRecDepth 10000 in
theorem fr_X12_settle {M : Mem} {M2 : Mem} {a1 : Int} {a2 : Int} {r : Int} (h : m_X12_settle M a1 a2 = some (r, M2)) : Fr [60, 71, 72] M M2 := by
  unfold m_X12_settle at h
  have F : Fr [60, 71, 72] M M := Fr.rf
  obtain ⟨b2, hc1, h⟩ := of_bd1 h
  by_cases c3 : wr (bI b2) = 0
  · rw [if_pos c3] at h
    cases h
    exact F
  · rw [if_neg c3] at h
    obtain ⟨b5, hc4, h⟩ := of_bd1 h
    by_cases c6 : wr (bI b5) = 0
    · rw [if_pos c6] at h
      cases h
      exact F
    · rw [if_neg c6] at h
      obtain ⟨r8, M9, hc7, h⟩ := of_bd2 h
      have F := F.trans (fr_X12_refuses hc7) (by decide)
      by_cases c10 : 0 ≤ wr r8
      · rw [if_pos c10] at h
        obtain ⟨y23, y24, M25, h9, h⟩ := of_bd3 h
        have F := F.trans (fl_X12_settle_L37 a1 a2 FU _ _ _ _ h9 Fr.rf) (by decide)
        clear h9
        cases h
        exact F
      · rw [if_neg c10] at h
        cases h
        exact F

set_option maxRecDepth 10000 in
theorem fl_X12_farOf_L7 (p2 : Int) {M0 : Mem} : ∀ (nn : Nat) (x3 : Int) (M : Mem) (out : Int × Mem), itr (fun s => m_X12_farOf_L7 s.2 p2 s.1) nn (x3, M) = some out → Fr [74] M0 M → Fr [74] M0 out.2 := by
  intro nn
  induction nn with
  | zero =>
    intro x3 M out h _
    cases h
  | succ nn ih =>
    intro x3 M out h0 F
    obtain ⟨w, h, k1, k2⟩ := itr_inv h0
    have h : m_X12_farOf_L7 M p2 x3 = some w := h
    unfold m_X12_farOf_L7 at h
    by_cases c3 : wr 81 ≤ wr x3
    · rw [if_pos c3] at h
      cases h
      cases k2 _ rfl
      exact F
    · rw [if_neg c3] at h
      obtain ⟨c4, h⟩ := of_ck h
      obtain ⟨M5, eM5, h⟩ := of_lt h
      have F := F.sI (by decide) eM5
      cases h
      exact ih _ _  _ (k1 _ rfl) F

set_option maxRecDepth 10000 in
theorem fr_X12_farOf {M : Mem} {M2 : Mem} {a1 : Int} {a2 : Int} {r : Int} (h : m_X12_farOf M a1 a2 = some (r, M2)) : Fr [73, 74] M M2 := by
  unfold m_X12_farOf at h
  have F : Fr [73, 74] M M := Fr.rf
  obtain ⟨M2, hc1, h⟩ := of_bd1 h
  have F := F.trans (fr_X12_rises hc1) (by decide)
  obtain ⟨y6, M7, h9, h⟩ := of_bd2 h
  have F := F.trans (fl_X12_farOf_L7 a2 FU _ _ _ h9 Fr.rf) (by decide)
  clear h9
  obtain ⟨M9, hc8, h⟩ := of_bd1 h
  have F := F.trans (fr_X12_rises hc8) (by decide)
  obtain ⟨y14, y15, h9, h⟩ := of_bd2 h
  clear h9
  cases h
  exact F

set_option maxRecDepth 10000 in
theorem fr_X12_far {M : Mem} {M2 : Mem} {a1 : Int} {a2 : Int} {r : Int} (h : m_X12_far M a1 a2 = some (r, M2)) : Fr [71, 72, 73, 74] M M2 := by
  unfold m_X12_far at h
  have F : Fr [71, 72, 73, 74] M M := Fr.rf
  obtain ⟨r2, hc1, h⟩ := of_bd1 h
  by_cases c3 : 0 ≤ wr r2
  · rw [if_pos c3] at h
    obtain ⟨b5, M6, hc4, h⟩ := of_bd2 h
    have F := F.trans (fr_X12_isWhole hc4) (by decide)
    obtain ⟨v11, M12, h9, h⟩ := of_bd2 h
    have F : Fr [71, 72, 73, 74] M M12 := by
      have h := h9
      by_cases c7 : wr (bI b5) = 0
      · rw [if_pos c7] at h
        cases h
        exact F
      · rw [if_neg c7] at h
        obtain ⟨r9, M10, hc8, h⟩ := of_bd2 h
        have F := F.trans (fr_X12_farOf hc8) (by decide)
        cases h
        exact F
    clear h9
    cases h
    exact F
  · rw [if_neg c3] at h
    cases h
    exact F

set_option maxRecDepth 10000 in
theorem fl_X12_toward_L35 (p1 : Int) {M0 : Mem} : ∀ (nn : Nat) (x4 : Int) (M : Mem) (out : (Int × Mem) ⊕ (Int × Mem)), itr (fun s => m_X12_toward_L35 s.2 p1 s.1) nn (x4, M) = some out → Fr [60] M0 M → (match out with | .inl s => Fr [60] M0 s.2 | .inr r => Fr [60] M0 r.2) := by
  intro nn
  induction nn with
  | zero =>
    intro x4 M out h _
    cases h
  | succ nn ih =>
    intro x4 M out h0 F
    obtain ⟨w, h, k1, k2⟩ := itr_inv h0
    have h : m_X12_toward_L35 M p1 x4 = some w := h
    unfold m_X12_toward_L35 at h
    by_cases c12 : wr 81 ≤ wr x4
    · rw [if_pos c12] at h
      cases h
      cases k2 _ rfl
      exact F
    · rw [if_neg c12] at h
      obtain ⟨r14, hc13, h⟩ := of_bd1 h
      by_cases c15 : wr r14 = wr 1
      · rw [if_pos c15] at h
        obtain ⟨c21, h⟩ := of_ck h
        by_cases c22 : wr (gI M 74 (wr x4)) < wr (gI M 73 (wr x4))
        · rw [if_pos c22] at h
          obtain ⟨M24, hc23, h⟩ := of_bd1 h
          have F := F.trans (fr_X12_across hc23) (by decide)
          cases h
          cases k2 _ rfl
          exact F
        · rw [if_neg c22] at h
          by_cases c25 : wr r14 = 0
          · rw [if_pos c25] at h
            by_cases c26 : wr (gI M 74 (wr x4)) ≤ wr (gI M 73 (wr x4))
            · rw [if_pos c26] at h
              cases h
              exact ih _ _  _ (k1 _ rfl) F
            · rw [if_neg c26] at h
              obtain ⟨M28, hc27, h⟩ := of_bd1 h
              have F := F.trans (fr_X12_across hc27) (by decide)
              cases h
              cases k2 _ rfl
              exact F
          · rw [if_neg c25] at h
            cases h
            exact ih _ _  _ (k1 _ rfl) F
      · rw [if_neg c15] at h
        by_cases c16 : wr r14 = 0
        · rw [if_pos c16] at h
          obtain ⟨c17, h⟩ := of_ck h
          by_cases c18 : wr (gI M 74 (wr x4)) ≤ wr (gI M 73 (wr x4))
          · rw [if_pos c18] at h
            cases h
            exact ih _ _  _ (k1 _ rfl) F
          · rw [if_neg c18] at h
            obtain ⟨M20, hc19, h⟩ := of_bd1 h
            have F := F.trans (fr_X12_across hc19) (by decide)
            cases h
            cases k2 _ rfl
            exact F
        · rw [if_neg c16] at h
          cases h
          exact ih _ _  _ (k1 _ rfl) F

set_option maxRecDepth 10000 in
theorem fr_X12_toward {M : Mem} {M2 : Mem} {a1 : Int} {a2 : Int} {r : Int} (h : m_X12_toward M a1 a2 = some (r, M2)) : Fr [60, 71, 72, 73, 74] M M2 := by
  unfold m_X12_toward at h
  have F : Fr [60, 71, 72, 73, 74] M M := Fr.rf
  obtain ⟨r2, hc1, h⟩ := of_bd1 h
  by_cases c3 : 0 ≤ wr r2
  · rw [if_pos c3] at h
    obtain ⟨b5, M6, hc4, h⟩ := of_bd2 h
    have F := F.trans (fr_X12_isWhole hc4) (by decide)
    by_cases c7 : wr (bI b5) = 0
    · rw [if_pos c7] at h
      cases h
      exact F
    · rw [if_neg c7] at h
      obtain ⟨r9, M10, hc8, h⟩ := of_bd2 h
      have F := F.trans (fr_X12_farOf hc8) (by decide)
      by_cases c11 : wr r9 = 0
      · rw [if_pos c11] at h
        cases h
        exact F
      · rw [if_neg c11] at h
        obtain ⟨w9, h9, h⟩ := of_be2 h
        have F9 := fl_X12_toward_L35 a1 FU _ _ w9 h9 Fr.rf
        rcases w9 with ⟨y29, M30⟩ | ⟨r9, M9⟩
        · have h := h.1 _ _  rfl
          have F := F.trans F9 (by decide)
          cases h
          exact F
        · have h := h.2 _ rfl
          have F := F.trans F9 (by decide)
          cases h
          exact F
  · rw [if_neg c3] at h
    cases h
    exact F

