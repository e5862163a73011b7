def m_X11_isSlot (a0 : Int) : Option (Bool) :=
  lt (if wr a0 < 0 then 0 else (if wr 4 ≤ wr a0 then 0 else 1)) fun (v3 : Int) =>
  if v3 = 0 ∨ v3 = 1 then some (decide (v3 = 1)) else none
set_option maxRecDepth 10000 in
theorem run_X11_isSlot {M : Mem} {a0 : Int} {r : Bool}   (h : m_X11_isSlot a0 = some r) : RunI 0 yX11_isSlot cX11_isSlot 1 (some .boolean) [vI a0] M (bI r) M := by
  refine runI_of (lv := [(0, vI a0)]) (by decide +kernel) (Or.inr ⟨rfl, bI_01 r⟩) (Nat.le_of_ble_eq_true rfl) rfl ?_
  intro G hQ
  unfold m_X11_isSlot at h
  refine r_iload_n dX11_isSlot_0 rfl 0 rfl ?_
  obtain ⟨v3, ev3, h⟩ := of_lt h
  have kJ : Ex G 0 cX11_isSlot RX11 1 14 [] [vI v3] M := by
    obtain ⟨cz, h⟩ := of_ck h
    rw [← bI_dec cz]
    cases h
    exact hQ _ _ dX11_isSlot_14
  clear h
  by_cases c1 : wr a0 < 0
  · skip
    refine r_if_lt (tgt := 13) dX11_isSlot_1 (by decide) (fun _ => ?_) (fun q => absurd c1 q)
    refine r_iconst dX11_isSlot_13 ?_
    rw [show v3 = 0 from by rw [ev3, if_pos c1]] at kJ
    refine r_sub (lv2 := []) [] rfl ?_
    exact kJ
  · skip
    refine r_if_lt (tgt := 13) dX11_isSlot_1 (by decide) (fun q => absurd q c1) (fun _ => ?_)
    refine r_iload_n dX11_isSlot_4 rfl 0 rfl ?_
    refine r_iconst dX11_isSlot_5 ?_
    by_cases c2 : wr 4 ≤ wr a0
    · skip
      refine r_icmp_ge (tgt := 13) dX11_isSlot_6 (by decide) (fun _ => ?_) (fun q => absurd c2 q)
      refine r_iconst dX11_isSlot_13 ?_
      rw [show v3 = 0 from by rw [ev3, if_neg c1, if_pos c2]] at kJ
      refine r_sub (lv2 := []) [] rfl ?_
      exact kJ
    · skip
      refine r_icmp_ge (tgt := 13) dX11_isSlot_6 (by decide) (fun q => absurd q c2) (fun _ => ?_)
      refine r_iconst dX11_isSlot_9 ?_
      refine r_goto (tgt := 14) dX11_isSlot_10 (by decide) ?_
      rw [show v3 = 1 from by rw [ev3, if_neg c1, if_neg c2]] at kJ
      refine r_sub (lv2 := []) [] rfl ?_
      exact kJ

def m_X11_place (M : Mem) (a1 : Int) (a2 : Int64) : Option (Int × Mem) :=
  bd1 (m_X11_isSlot a1) fun b2 =>
  if wr (bI b2) = 0 then
    some ((-1), M)
  else
    if a2 < (0 : Int64) then
      some ((-1), M)
    else
      bd2 (m_X7_total M) fun r6 M7 =>
      if a2 < r6 then
        if 0 ≤ wr a1 ∧ wr a1 < 4 then
        bd1 (m_X7_layByRank M7 a2 (39 + 2 * (wr a1).toNat)) fun M11 =>
        bd1 (m_X10_openCells M11) fun r13 =>
        some ((idv r13 2), M11)
        else none
      else
        some ((-1), M7)
set_option maxRecDepth 10000 in
theorem run_X11_place {M : Mem} {M2 : Mem} {a1 : Int} {a2 : Int64} {r : Int}   (h : m_X11_place M a1 a2 = some (r, M2)) : RunI 6 yX11_place cX11_place 4 (some .int) [vR 0, vI a1, vL a2] M r M2 := by
  refine runI_of (lv := [(0, vR 0), (1, vI a1), (2, vL a2)]) (by decide +kernel) (Or.inl rfl) (Nat.le_of_ble_eq_true rfl) rfl ?_
  intro G hQ
  unfold m_X11_place at h
  refine r_iload_n dX11_place_0 rfl 1 rfl ?_
  obtain ⟨b2, hc1, h⟩ := of_bd1 h
  refine r_callSI (st := []) dX11_place_1 v_X11_194 (run_X11_isSlot hc1) (by decide) (by decide) rfl (Nat.le_of_ble_eq_true rfl) rfl ?_
  by_cases c3 : wr (bI b2) = 0
  · rw [if_pos c3] at h
    refine r_if_eq (tgt := 29) dX11_place_4 (by decide) (fun _ => ?_) (fun q => absurd c3 q)
    refine r_iconst dX11_place_29 ?_
    cases h
    exact hQ _ _ dX11_place_30
  · rw [if_neg c3] at h
    refine r_if_eq (tgt := 29) dX11_place_4 (by decide) (fun q => absurd q c3) (fun _ => ?_)
    refine r_lload_n dX11_place_7 rfl 2 rfl ?_
    refine r_lconst (v := 0) dX11_place_8 rfl ?_
    by_cases c4 : a2 < (0 : Int64)
    · rw [if_pos c4] at h
      refine r_lcmp_lt (tgt := 29) dX11_place_9 dX11_place_10 (by decide) (fun _ => ?_) (fun q => absurd c4 q)
      refine r_iconst dX11_place_29 ?_
      cases h
      exact hQ _ _ dX11_place_30
    · rw [if_neg c4] at h
      refine r_lcmp_lt (tgt := 29) dX11_place_9 dX11_place_10 (by decide) (fun q => absurd q c4) (fun _ => ?_)
      refine r_lload_n dX11_place_13 rfl 2 rfl ?_
      refine r_aload_n dX11_place_14 rfl 0 rfl ?_
      refine r_getR (j := 2) (v := 8) dX11_place_15 f_X11_26 rfl rfl rfl ?_
      refine r_aload_n dX11_place_18 rfl 0 rfl ?_
      refine r_getR (j := 0) (v := 1) dX11_place_19 f_X11_10 rfl rfl rfl ?_
      obtain ⟨r6, M7, hc5, h⟩ := of_bd2 h
      refine r_callVL (st := [vL a2]) dX11_place_22 v_X11_176 (run_X7_total hc5) (by decide) (by decide) rfl rfl (Nat.le_of_ble_eq_true rfl) rfl ?_
      by_cases c8 : a2 < r6
      · rw [if_pos c8] at h
        refine r_lcmp_lt (tgt := 31) dX11_place_25 dX11_place_26 (by decide) (fun _ => ?_) (fun q => absurd c8 q)
        refine r_aload_n dX11_place_31 rfl 0 rfl ?_
        refine r_getR (j := 2) (v := 8) dX11_place_32 f_X11_26 rfl rfl rfl ?_
        refine r_aload_n dX11_place_35 rfl 0 rfl ?_
        refine r_getR (j := 0) (v := 1) dX11_place_36 f_X11_10 rfl rfl rfl ?_
        refine r_lload_n dX11_place_39 rfl 2 rfl ?_
        refine r_aload_n dX11_place_40 rfl 0 rfl ?_
        refine r_getR (j := 8) (v := 37) dX11_place_41 f_X11_67 rfl rfl rfl ?_
        refine r_iload_n dX11_place_44 rfl 1 rfl ?_
        obtain ⟨c9, h⟩ := of_ck h
        refine r_aald3 dX11_place_45 rfl c9 (slo_el c9).1 ?_
        obtain ⟨M11, hc10, h⟩ := of_bd1 h
        refine r_callVV (st := []) dX11_place_46 v_X11_197 (run_X7_layByRank (slo_el (M := M7) c9).2 hc10) (by decide) (by decide) rfl rfl (Nat.le_of_ble_eq_true rfl) rfl ?_
        refine r_aload_n dX11_place_49 rfl 0 rfl ?_
        refine r_getR (j := 0) (v := 1) dX11_place_50 f_X11_10 rfl rfl rfl ?_
        obtain ⟨r13, hc12, h⟩ := of_bd1 h
        refine r_callVI (st := []) dX11_place_53 v_X11_131 (run_X10_openCells hc12) (by decide) (by decide) rfl rfl (Nat.le_of_ble_eq_true rfl) rfl ?_
        refine r_iconst dX11_place_56 ?_
        refine r_idiv dX11_place_57 (by decide) ?_
        cases h
        exact hQ _ _ dX11_place_58
      · rw [if_neg c8] at h
        refine r_lcmp_lt (tgt := 31) dX11_place_25 dX11_place_26 (by decide) (fun q => absurd q c8) (fun _ => ?_)
        refine r_iconst dX11_place_29 ?_
        cases h
        exact hQ _ _ dX11_place_30

def m_X11_slotsFault (M : Mem) (a1 : Int) (a2 : Int) : Option (Int) :=
  bd1 (m_X11_isSlot a1) fun b2 =>
  if wr (bI b2) = 0 then
    some (-1)
  else
    bd1 (m_X11_isSlot a2) fun b5 =>
    if wr (bI b5) = 0 then
      some (-1)
    else
      if 0 ≤ wr a1 ∧ wr a1 < 4 then
      bd1 (
        if wr (gI M (39 + 2 * (wr a1).toNat) 0) = 0 then
          some ((-4))
        else
          if 0 ≤ wr a2 ∧ wr a2 < 4 then
          if wr (gI M (39 + 2 * (wr a2).toNat) 0) = 0 then
            some ((-4))
          else
            some (0)
          else none) fun (v11 : Int) =>
      some v11
      else none
set_option maxRecDepth 10000 in
theorem run_X11_slotsFault {M : Mem} {a1 : Int} {a2 : Int} {r : Int}   (h : m_X11_slotsFault M a1 a2 = some r) : RunI 1 yX11_slotsFault cX11_slotsFault 3 (some .int) [vR 0, vI a1, vI a2] M r M := by
  refine runI_of (lv := [(0, vR 0), (1, vI a1), (2, vI a2)]) (by decide +kernel) (Or.inl rfl) (Nat.le_of_ble_eq_true rfl) rfl ?_
  intro G hQ
  unfold m_X11_slotsFault at h
  refine r_iload_n dX11_slotsFault_0 rfl 1 rfl ?_
  obtain ⟨b2, hc1, h⟩ := of_bd1 h
  refine r_callSI (st := []) dX11_slotsFault_1 v_X11_194 (run_X11_isSlot hc1) (by decide) (by decide) rfl (Nat.le_of_ble_eq_true rfl) rfl ?_
  by_cases c3 : wr (bI b2) = 0
  · rw [if_pos c3] at h
    refine r_if_eq (tgt := 14) dX11_slotsFault_4 (by decide) (fun _ => ?_) (fun q => absurd c3 q)
    refine r_iconst dX11_slotsFault_14 ?_
    cases h
    exact hQ _ _ dX11_slotsFault_15
  · rw [if_neg c3] at h
    refine r_if_eq (tgt := 14) dX11_slotsFault_4 (by decide) (fun q => absurd q c3) (fun _ => ?_)
    refine r_iload_n dX11_slotsFault_7 rfl 2 rfl ?_
    obtain ⟨b5, hc4, h⟩ := of_bd1 h
    refine r_callSI (st := []) dX11_slotsFault_8 v_X11_194 (run_X11_isSlot hc4) (by decide) (by decide) rfl (Nat.le_of_ble_eq_true rfl) rfl ?_
    by_cases c6 : wr (bI b5) = 0
    · rw [if_pos c6] at h
      refine r_if_ne (tgt := 16) dX11_slotsFault_11 (by decide) (fun q => absurd c6 q) (fun _ => ?_)
      refine r_iconst dX11_slotsFault_14 ?_
      cases h
      exact hQ _ _ dX11_slotsFault_15
    · rw [if_neg c6] at h
      refine r_if_ne (tgt := 16) dX11_slotsFault_11 (by decide) (fun _ => ?_) (fun q => absurd q c6)
      refine r_aload_n dX11_slotsFault_16 rfl 0 rfl ?_
      refine r_getR (j := 8) (v := 37) dX11_slotsFault_17 f_X11_67 rfl rfl rfl ?_
      refine r_iload_n dX11_slotsFault_20 rfl 1 rfl ?_
      obtain ⟨c7, h⟩ := of_ck h
      refine r_aald3 dX11_slotsFault_21 rfl c7 (slo_el c7).1 ?_
      refine r_getI (j := 0) (jz := 0) dX11_slotsFault_22 f_X11_211 (slo_el (M := M) c7).2 rfl rfl ?_
      obtain ⟨v11, h9, h⟩ := of_bd1 h
      have kJ : Ex G 1 cX11_slotsFault RX11 3 46 [] [vI v11] M := by
        cases h
        exact hQ _ _ dX11_slotsFault_46
      clear h
      have h := h9
      clear h9
      by_cases c8 : wr (gI M (39 + 2 * (wr a1).toNat) 0) = 0
      · rw [if_pos c8] at h
        refine r_if_eq (tgt := 44) dX11_slotsFault_25 (by decide) (fun _ => ?_) (fun q => absurd c8 q)
        refine r_bipush dX11_slotsFault_44 (by decide) ?_
        refine r_sub (lv2 := []) [] rfl ?_
        cases h
        exact kJ
      · rw [if_neg c8] at h
        refine r_if_eq (tgt := 44) dX11_slotsFault_25 (by decide) (fun q => absurd q c8) (fun _ => ?_)
        refine r_aload_n dX11_slotsFault_28 rfl 0 rfl ?_
        refine r_getR (j := 8) (v := 37) dX11_slotsFault_29 f_X11_67 rfl rfl rfl ?_
        refine r_iload_n dX11_slotsFault_32 rfl 2 rfl ?_
        obtain ⟨c9, h⟩ := of_ck h
        refine r_aald3 dX11_slotsFault_33 rfl c9 (slo_el c9).1 ?_
        refine r_getI (j := 0) (jz := 0) dX11_slotsFault_34 f_X11_211 (slo_el (M := M) c9).2 rfl rfl ?_
        by_cases c10 : wr (gI M (39 + 2 * (wr a2).toNat) 0) = 0
        · rw [if_pos c10] at h
          refine r_if_eq (tgt := 44) dX11_slotsFault_37 (by decide) (fun _ => ?_) (fun q => absurd c10 q)
          refine r_bipush dX11_slotsFault_44 (by decide) ?_
          refine r_sub (lv2 := []) [] rfl ?_
          cases h
          exact kJ
        · rw [if_neg c10] at h
          refine r_if_eq (tgt := 44) dX11_slotsFault_37 (by decide) (fun q => absurd q c10) (fun _ => ?_)
          refine r_iconst dX11_slotsFault_40 ?_
          refine r_goto (tgt := 46) dX11_slotsFault_41 (by decide) ?_
          refine r_sub (lv2 := []) [] rfl ?_
          cases h
          exact kJ

def m_X11_slotFault (M : Mem) (a1 : Int) : Option (Int) :=
  bd1 (m_X11_slotsFault M a1 a1) fun r2 =>
  some r2
set_option maxRecDepth 10000 in
theorem run_X11_slotFault {M : Mem} {a1 : Int} {r : Int}   (h : m_X11_slotFault M a1 = some r) : RunI 2 yX11_slotFault cX11_slotFault 2 (some .int) [vR 0, vI a1] M r M := by
  refine runI_of (lv := [(0, vR 0), (1, vI a1)]) (by decide +kernel) (Or.inl rfl) (Nat.le_of_ble_eq_true rfl) rfl ?_
  intro G hQ
  unfold m_X11_slotFault at h
  refine r_aload_n dX11_slotFault_0 rfl 0 rfl ?_
  refine r_iload_n dX11_slotFault_1 rfl 1 rfl ?_
  refine r_iload_n dX11_slotFault_2 rfl 1 rfl ?_
  obtain ⟨r2, hc1, h⟩ := of_bd1 h
  refine r_callVI (st := []) dX11_slotFault_3 v_X11_298 (run_X11_slotsFault hc1) (by decide) (by decide) rfl rfl (Nat.le_of_ble_eq_true rfl) rfl ?_
  cases h
  exact hQ _ _ dX11_slotFault_6

def m_X11_rank (M : Mem) (a1 : Int) : Option (Int64 × Mem) :=
  bd1 (m_X11_slotFault M a1) fun r2 =>
  if 0 ≤ wr r2 then
    if 0 ≤ wr a1 ∧ wr a1 < 4 then
    bd2 (m_X7_rankOf M (39 + 2 * (wr a1).toNat)) fun r6 M7 =>
    some (r6, M7)
    else none
  else
    some ((i2l r2), M)
set_option maxRecDepth 10000 in
theorem run_X11_rank {M : Mem} {M2 : Mem} {a1 : Int} {r : Int64}   (h : m_X11_rank M a1 = some (r, M2)) : RunL 6 yX11_rank cX11_rank 3 (some .long) [vR 0, vI a1] M r M2 := by
  refine runL_of (lv := [(0, vR 0), (1, vI a1)]) (by decide +kernel) rfl (Nat.le_of_ble_eq_true rfl) rfl ?_
  intro G hQ
  unfold m_X11_rank at h
  refine r_aload_n dX11_rank_0 rfl 0 rfl ?_
  refine r_iload_n dX11_rank_1 rfl 1 rfl ?_
  obtain ⟨r2, hc1, h⟩ := of_bd1 h
  refine r_callVI (st := []) dX11_rank_2 v_X11_201 (run_X11_slotFault hc1) (by decide) (by decide) rfl rfl (Nat.le_of_ble_eq_true rfl) rfl ?_
  refine r_istore_n (lv2 := [(2, vI r2), (0, vR 0), (1, vI a1)]) dX11_rank_5 rfl (by decide) rfl ?_
  refine r_iload_n dX11_rank_6 rfl 0 rfl ?_
  by_cases c3 : 0 ≤ wr r2
  · rw [if_pos c3] at h
    refine r_if_ge (tgt := 13) dX11_rank_7 (by decide) (fun _ => ?_) (fun q => absurd c3 q)
    refine r_aload_n dX11_rank_13 rfl 1 rfl ?_
    refine r_getR (j := 2) (v := 8) dX11_rank_14 f_X11_26 rfl rfl rfl ?_
    refine r_aload_n dX11_rank_17 rfl 1 rfl ?_
    refine r_getR (j := 0) (v := 1) dX11_rank_18 f_X11_10 rfl rfl rfl ?_
    refine r_aload_n dX11_rank_21 rfl 1 rfl ?_
    refine r_getR (j := 8) (v := 37) dX11_rank_22 f_X11_67 rfl rfl rfl ?_
    refine r_iload_n dX11_rank_25 rfl 2 rfl ?_
    obtain ⟨c4, h⟩ := of_ck h
    refine r_aald3 dX11_rank_26 rfl c4 (slo_el c4).1 ?_
    obtain ⟨r6, M7, hc5, h⟩ := of_bd2 h
    refine r_callVL (st := []) dX11_rank_27 v_X11_204 (run_X7_rankOf (slo_el (M := M) c4).2 hc5) (by decide) (by decide) rfl rfl (Nat.le_of_ble_eq_true rfl) rfl ?_
    cases h
    exact hQ _ _ dX11_rank_30
  · rw [if_neg c3] at h
    refine r_if_ge (tgt := 13) dX11_rank_7 (by decide) (fun q => absurd q c3) (fun _ => ?_)
    refine r_iload_n dX11_rank_10 rfl 0 rfl ?_
    refine r_i2l dX11_rank_11 ?_
    cases h
    exact hQ _ _ dX11_rank_12

def m_X11_brick (M : Mem) (a1 : Int) (a2 : Int) : Option (Int) :=
  bd1 (m_X11_isSlot a1) fun b2 =>
  if wr (bI b2) = 0 then
    some (-1)
  else
    bd1 (m_X10_isOpen M a2) fun b5 =>
    if wr (bI b5) = 0 then
      some (-1)
    else
      if 0 ≤ wr a1 ∧ wr a1 < 4 then
      bd1 (
        if wr (gI M (39 + 2 * (wr a1).toNat) 0) = 0 then
          some ((-4))
        else
          if 0 ≤ wr a2 ∧ wr a2 < 64 then
          some ((gI M ((39 + 2 * (wr a1).toNat) + 1) (wr a2)))
          else none) fun (v10 : Int) =>
      some v10
      else none
set_option maxRecDepth 10000 in
theorem run_X11_brick {M : Mem} {a1 : Int} {a2 : Int} {r : Int}   (h : m_X11_brick M a1 a2 = some r) : RunI 2 yX11_brick cX11_brick 3 (some .int) [vR 0, vI a1, vI a2] M r M := by
  refine runI_of (lv := [(0, vR 0), (1, vI a1), (2, vI a2)]) (by decide +kernel) (Or.inl rfl) (Nat.le_of_ble_eq_true rfl) rfl ?_
  intro G hQ
  unfold m_X11_brick at h
  refine r_iload_n dX11_brick_0 rfl 1 rfl ?_
  obtain ⟨b2, hc1, h⟩ := of_bd1 h
  refine r_callSI (st := []) dX11_brick_1 v_X11_194 (run_X11_isSlot hc1) (by decide) (by decide) rfl (Nat.le_of_ble_eq_true rfl) rfl ?_
  by_cases c3 : wr (bI b2) = 0
  · rw [if_pos c3] at h
    refine r_if_eq (tgt := 18) dX11_brick_4 (by decide) (fun _ => ?_) (fun q => absurd c3 q)
    refine r_iconst dX11_brick_18 ?_
    cases h
    exact hQ _ _ dX11_brick_19
  · rw [if_neg c3] at h
    refine r_if_eq (tgt := 18) dX11_brick_4 (by decide) (fun q => absurd q c3) (fun _ => ?_)
    refine r_aload_n dX11_brick_7 rfl 0 rfl ?_
    refine r_getR (j := 0) (v := 1) dX11_brick_8 f_X11_10 rfl rfl rfl ?_
    refine r_iload_n dX11_brick_11 rfl 2 rfl ?_
    obtain ⟨b5, hc4, h⟩ := of_bd1 h
    refine r_callVI (st := []) dX11_brick_12 v_X11_208 (run_X10_isOpen hc4) (by decide) (by decide) rfl rfl (Nat.le_of_ble_eq_true rfl) rfl ?_
    by_cases c6 : wr (bI b5) = 0
    · rw [if_pos c6] at h
      refine r_if_ne (tgt := 20) dX11_brick_15 (by decide) (fun q => absurd c6 q) (fun _ => ?_)
      refine r_iconst dX11_brick_18 ?_
      cases h
      exact hQ _ _ dX11_brick_19
    · rw [if_neg c6] at h
      refine r_if_ne (tgt := 20) dX11_brick_15 (by decide) (fun _ => ?_) (fun q => absurd q c6)
      refine r_aload_n dX11_brick_20 rfl 0 rfl ?_
      refine r_getR (j := 8) (v := 37) dX11_brick_21 f_X11_67 rfl rfl rfl ?_
      refine r_iload_n dX11_brick_24 rfl 1 rfl ?_
      obtain ⟨c7, h⟩ := of_ck h
      refine r_aald3 dX11_brick_25 rfl c7 (slo_el c7).1 ?_
      refine r_getI (j := 0) (jz := 0) dX11_brick_26 f_X11_211 (slo_el (M := M) c7).2 rfl rfl ?_
      obtain ⟨v10, h9, h⟩ := of_bd1 h
      have kJ : Ex G 2 cX11_brick RX11 3 48 [] [vI v10] M := by
        cases h
        exact hQ _ _ dX11_brick_48
      clear h
      have h := h9
      clear h9
      by_cases c8 : wr (gI M (39 + 2 * (wr a1).toNat) 0) = 0
      · rw [if_pos c8] at h
        refine r_if_eq (tgt := 46) dX11_brick_29 (by decide) (fun _ => ?_) (fun q => absurd c8 q)
        refine r_bipush dX11_brick_46 (by decide) ?_
        refine r_sub (lv2 := []) [] rfl ?_
        cases h
        exact kJ
      · rw [if_neg c8] at h
        refine r_if_eq (tgt := 46) dX11_brick_29 (by decide) (fun q => absurd q c8) (fun _ => ?_)
        refine r_aload_n dX11_brick_32 rfl 0 rfl ?_
        refine r_getR (j := 8) (v := 37) dX11_brick_33 f_X11_67 rfl rfl rfl ?_
        refine r_iload_n dX11_brick_36 rfl 1 rfl ?_
        refine r_aald3 dX11_brick_37 rfl c7 (slo_el c7).1 ?_
        refine r_getR (j := 1) (v := ((39 + 2 * (wr a1).toNat) + 1)) dX11_brick_38 f_X11_215 (slo_el (M := M) c7).2 rfl (pav_on (slo_el (M := M) c7).2).1 ?_
        refine r_iload_n dX11_brick_41 rfl 2 rfl ?_
        obtain ⟨c9, h⟩ := of_ck h
        refine r_iald dX11_brick_42 (pav_on (M := M) (slo_el (M := M) c7).2).2 c9 ?_
        refine r_goto (tgt := 48) dX11_brick_43 (by decide) ?_
        refine r_sub (lv2 := []) [] rfl ?_
        cases h
        exact kJ

def m_X11_cheapest (M : Mem) (a1 : Int) : Option (Int × Mem) :=
  bd1 (m_X11_isSlot a1) fun b2 =>
  if wr (bI b2) = 0 then
    some ((-1), M)
  else
    bd2 (m_X7_leastCost M) fun r5 M6 =>
    if r5 < (1099511627776) then
      if 0 ≤ wr a1 ∧ wr a1 < 4 then
      bd1 (m_X7_layCheapest M6 (39 + 2 * (wr a1).toNat)) fun M10 =>
      some ((l2i r5), M10)
      else none
    else
      some ((-4), M6)
set_option maxRecDepth 10000 in
theorem run_X11_cheapest {M : Mem} {M2 : Mem} {a1 : Int} {r : Int}   (h : m_X11_cheapest M a1 = some (r, M2)) : RunI 6 yX11_cheapest cX11_cheapest 4 (some .int) [vR 0, vI a1] M r M2 := by
  refine runI_of (lv := [(0, vR 0), (1, vI a1)]) (by decide +kernel) (Or.inl rfl) (Nat.le_of_ble_eq_true rfl) rfl ?_
  intro G hQ
  unfold m_X11_cheapest at h
  refine r_iload_n dX11_cheapest_0 rfl 1 rfl ?_
  obtain ⟨b2, hc1, h⟩ := of_bd1 h
  refine r_callSI (st := []) dX11_cheapest_1 v_X11_194 (run_X11_isSlot hc1) (by decide) (by decide) rfl (Nat.le_of_ble_eq_true rfl) rfl ?_
  by_cases c3 : wr (bI b2) = 0
  · rw [if_pos c3] at h
    refine r_if_ne (tgt := 9) dX11_cheapest_4 (by decide) (fun q => absurd c3 q) (fun _ => ?_)
    refine r_iconst dX11_cheapest_7 ?_
    cases h
    exact hQ _ _ dX11_cheapest_8
  · rw [if_neg c3] at h
    refine r_if_ne (tgt := 9) dX11_cheapest_4 (by decide) (fun _ => ?_) (fun q => absurd q c3)
    refine r_aload_n dX11_cheapest_9 rfl 0 rfl ?_
    refine r_getR (j := 2) (v := 8) dX11_cheapest_10 f_X11_26 rfl rfl rfl ?_
    refine r_aload_n dX11_cheapest_13 rfl 0 rfl ?_
    refine r_getR (j := 0) (v := 1) dX11_cheapest_14 f_X11_10 rfl rfl rfl ?_
    obtain ⟨r5, M6, hc4, h⟩ := of_bd2 h
    refine r_callVL (st := []) dX11_cheapest_17 v_X11_218 (run_X7_leastCost hc4) (by decide) (by decide) rfl rfl (Nat.le_of_ble_eq_true rfl) rfl ?_
    refine r_lstore_n (lv2 := [(2, vL r5), (0, vR 0), (1, vI a1)]) dX11_cheapest_20 rfl (by decide) rfl ?_
    refine r_lload_n dX11_cheapest_21 rfl 0 rfl ?_
    refine r_ldc2 (v := (1099511627776)) dX11_cheapest_22 kl_X11_221 ?_
    by_cases c7 : r5 < (1099511627776)
    · rw [if_pos c7] at h
      refine r_lcmp_lt (tgt := 32) dX11_cheapest_25 dX11_cheapest_26 (by decide) (fun _ => ?_) (fun q => absurd c7 q)
      refine r_aload_n dX11_cheapest_32 rfl 1 rfl ?_
      refine r_getR (j := 2) (v := 8) dX11_cheapest_33 f_X11_26 rfl rfl rfl ?_
      refine r_aload_n dX11_cheapest_36 rfl 1 rfl ?_
      refine r_getR (j := 0) (v := 1) dX11_cheapest_37 f_X11_10 rfl rfl rfl ?_
      refine r_aload_n dX11_cheapest_40 rfl 1 rfl ?_
      refine r_getR (j := 8) (v := 37) dX11_cheapest_41 f_X11_67 rfl rfl rfl ?_
      refine r_iload_n dX11_cheapest_44 rfl 2 rfl ?_
      obtain ⟨c8, h⟩ := of_ck h
      refine r_aald3 dX11_cheapest_45 rfl c8 (slo_el c8).1 ?_
      obtain ⟨M10, hc9, h⟩ := of_bd1 h
      refine r_callVV (st := []) dX11_cheapest_46 v_X11_223 (run_X7_layCheapest (slo_el (M := M6) c8).2 hc9) (by decide) (by decide) rfl rfl (Nat.le_of_ble_eq_true rfl) rfl ?_
      refine r_lload_n dX11_cheapest_49 rfl 0 rfl ?_
      refine r_l2i dX11_cheapest_50 ?_
      cases h
      exact hQ _ _ dX11_cheapest_51
    · rw [if_neg c7] at h
      refine r_lcmp_lt (tgt := 32) dX11_cheapest_25 dX11_cheapest_26 (by decide) (fun q => absurd q c7) (fun _ => ?_)
      refine r_bipush dX11_cheapest_29 (by decide) ?_
      cases h
      exact hQ _ _ dX11_cheapest_31

def m_X11_cost (M : Mem) (a1 : Int) : Option (Int) :=
  bd1 (m_X11_slotFault M a1) fun r2 =>
  bd1 (
    if 0 ≤ wr r2 then
      if 0 ≤ wr a1 ∧ wr a1 < 4 then
      bd1 (m_X3_sumOfPrices M (39 + 2 * (wr a1).toNat)) fun r6 =>
      some (r6)
      else none
    else
      some (r2)) fun (v7 : Int) =>
  some v7
set_option maxRecDepth 10000 in
theorem run_X11_cost {M : Mem} {a1 : Int} {r : Int}   (h : m_X11_cost M a1 = some r) : RunI 3 yX11_cost cX11_cost 3 (some .int) [vR 0, vI a1] M r M := by
  refine runI_of (lv := [(0, vR 0), (1, vI a1)]) (by decide +kernel) (Or.inl rfl) (Nat.le_of_ble_eq_true rfl) rfl ?_
  intro G hQ
  unfold m_X11_cost at h
  refine r_aload_n dX11_cost_0 rfl 0 rfl ?_
  refine r_iload_n dX11_cost_1 rfl 1 rfl ?_
  obtain ⟨r2, hc1, h⟩ := of_bd1 h
  refine r_callVI (st := []) dX11_cost_2 v_X11_201 (run_X11_slotFault hc1) (by decide) (by decide) rfl rfl (Nat.le_of_ble_eq_true rfl) rfl ?_
  refine r_istore_n (lv2 := [(2, vI r2), (0, vR 0), (1, vI a1)]) dX11_cost_5 rfl (by decide) rfl ?_
  refine r_iload_n dX11_cost_6 rfl 0 rfl ?_
  obtain ⟨v7, h9, h⟩ := of_bd1 h
  have kJ : Ex G 3 cX11_cost RX11 3 27 [] [vI v7] M := by
    cases h
    exact hQ _ _ dX11_cost_27
  clear h
  have h := h9
  clear h9
  by_cases c3 : 0 ≤ wr r2
  · rw [if_pos c3] at h
    refine r_if_ge (tgt := 14) dX11_cost_7 (by decide) (fun _ => ?_) (fun q => absurd c3 q)
    refine r_aload_n dX11_cost_14 rfl 1 rfl ?_
    refine r_getR (j := 8) (v := 37) dX11_cost_15 f_X11_67 rfl rfl rfl ?_
    refine r_iload_n dX11_cost_18 rfl 2 rfl ?_
    obtain ⟨c4, h⟩ := of_ck h
    refine r_aald3 dX11_cost_19 rfl c4 (slo_el c4).1 ?_
    refine r_aload_n dX11_cost_20 rfl 1 rfl ?_
    refine r_getR (j := 0) (v := 1) dX11_cost_21 f_X11_10 rfl rfl rfl ?_
    obtain ⟨r6, hc5, h⟩ := of_bd1 h
    refine r_callVI (st := []) dX11_cost_24 v_X11_227 (run_X3_sumOfPrices (slo_el (M := M) c4).2 hc5) (by decide) (by decide) (slo_el (M := M) c4).2 rfl (Nat.le_of_ble_eq_true rfl) rfl ?_
    refine r_sub (lv2 := []) [] rfl ?_
    cases h
    exact kJ
  · rw [if_neg c3] at h
    refine r_if_ge (tgt := 14) dX11_cost_7 (by decide) (fun q => absurd q c3) (fun _ => ?_)
    refine r_iload_n dX11_cost_10 rfl 0 rfl ?_
    refine r_goto (tgt := 27) dX11_cost_11 (by decide) ?_
    refine r_sub (lv2 := []) [] rfl ?_
    cases h
    exact kJ

def m_X11_keep (M : Mem) (a1 : Int) (a2 : Int) : Option (Int × Mem) :=
  bd1 (m_X11_isSlot a1) fun b2 =>
  if wr (bI b2) = 0 then
    some ((-1), M)
  else
    bd1 (m_X11_isSlot a2) fun b5 =>
    if wr (bI b5) = 0 then
      some ((-1), M)
    else
      if 0 ≤ wr a1 ∧ wr a1 < 4 then
      if wr (gI M (39 + 2 * (wr a1).toNat) 0) = 0 then
        some ((-4), M)
      else
        if 0 ≤ wr a2 ∧ wr a2 < 4 then
        bd1 (m_X3_take M (39 + 2 * (wr a2).toNat) (39 + 2 * (wr a1).toNat)) fun M11 =>
        some (1, M11)
        else none
      else none
set_option maxRecDepth 10000 in
theorem run_X11_keep {M : Mem} {M2 : Mem} {a1 : Int} {a2 : Int} {r : Int}   (h : m_X11_keep M a1 a2 = some (r, M2)) : RunI 3 yX11_keep cX11_keep 3 (some .int) [vR 0, vI a1, vI a2] M r M2 := by
  refine runI_of (lv := [(0, vR 0), (1, vI a1), (2, vI a2)]) (by decide +kernel) (Or.inl rfl) (Nat.le_of_ble_eq_true rfl) rfl ?_
  intro G hQ
  unfold m_X11_keep at h
  refine r_iload_n dX11_keep_0 rfl 1 rfl ?_
  obtain ⟨b2, hc1, h⟩ := of_bd1 h
  refine r_callSI (st := []) dX11_keep_1 v_X11_194 (run_X11_isSlot hc1) (by decide) (by decide) rfl (Nat.le_of_ble_eq_true rfl) rfl ?_
  by_cases c3 : wr (bI b2) = 0
  · rw [if_pos c3] at h
    refine r_if_eq (tgt := 14) dX11_keep_4 (by decide) (fun _ => ?_) (fun q => absurd c3 q)
    refine r_iconst dX11_keep_14 ?_
    cases h
    exact hQ _ _ dX11_keep_15
  · rw [if_neg c3] at h
    refine r_if_eq (tgt := 14) dX11_keep_4 (by decide) (fun q => absurd q c3) (fun _ => ?_)
    refine r_iload_n dX11_keep_7 rfl 2 rfl ?_
    obtain ⟨b5, hc4, h⟩ := of_bd1 h
    refine r_callSI (st := []) dX11_keep_8 v_X11_194 (run_X11_isSlot hc4) (by decide) (by decide) rfl (Nat.le_of_ble_eq_true rfl) rfl ?_
    by_cases c6 : wr (bI b5) = 0
    · rw [if_pos c6] at h
      refine r_if_ne (tgt := 16) dX11_keep_11 (by decide) (fun q => absurd c6 q) (fun _ => ?_)
      refine r_iconst dX11_keep_14 ?_
      cases h
      exact hQ _ _ dX11_keep_15
    · rw [if_neg c6] at h
      refine r_if_ne (tgt := 16) dX11_keep_11 (by decide) (fun _ => ?_) (fun q => absurd q c6)
      refine r_aload_n dX11_keep_16 rfl 0 rfl ?_
      refine r_getR (j := 8) (v := 37) dX11_keep_17 f_X11_67 rfl rfl rfl ?_
      refine r_iload_n dX11_keep_20 rfl 1 rfl ?_
      obtain ⟨c7, h⟩ := of_ck h
      refine r_aald3 dX11_keep_21 rfl c7 (slo_el c7).1 ?_
      refine r_getI (j := 0) (jz := 0) dX11_keep_22 f_X11_211 (slo_el (M := M) c7).2 rfl rfl ?_
      by_cases c8 : wr (gI M (39 + 2 * (wr a1).toNat) 0) = 0
      · rw [if_pos c8] at h
        refine r_if_ne (tgt := 31) dX11_keep_25 (by decide) (fun q => absurd c8 q) (fun _ => ?_)
        refine r_bipush dX11_keep_28 (by decide) ?_
        cases h
        exact hQ _ _ dX11_keep_30
      · rw [if_neg c8] at h
        refine r_if_ne (tgt := 31) dX11_keep_25 (by decide) (fun _ => ?_) (fun q => absurd q c8)
        refine r_aload_n dX11_keep_31 rfl 0 rfl ?_
        refine r_getR (j := 8) (v := 37) dX11_keep_32 f_X11_67 rfl rfl rfl ?_
        refine r_iload_n dX11_keep_35 rfl 2 rfl ?_
        obtain ⟨c9, h⟩ := of_ck h
        refine r_aald3 dX11_keep_36 rfl c9 (slo_el c9).1 ?_
        refine r_aload_n dX11_keep_37 rfl 0 rfl ?_
        refine r_getR (j := 8) (v := 37) dX11_keep_38 f_X11_67 rfl rfl rfl ?_
        refine r_iload_n dX11_keep_41 rfl 1 rfl ?_
        refine r_aald3 dX11_keep_42 rfl c7 (slo_el c7).1 ?_
        obtain ⟨M11, hc10, h⟩ := of_bd1 h
        refine r_callVV (st := []) dX11_keep_43 v_X11_231 (run_X3_take (slo_el (M := M) c9).2 (slo_el (M := M) c7).2 hc10) (by decide) (by decide) (slo_el (M := M) c9).2 rfl (Nat.le_of_ble_eq_true rfl) rfl ?_
        refine r_iconst dX11_keep_46 ?_
        cases h
        exact hQ _ _ dX11_keep_47

def m_X11_bricks (M : Mem) (a1 : Int) (a2 : Int) (a3 : Int) : Option (Int × Mem) :=
  bd1 (m_X11_isSlot a1) fun b2 =>
  if wr (bI b2) = 0 then
    some ((-1), M)
  else
    bd1 (m_X11_isSheet a2) fun b5 =>
    if wr (bI b5) = 0 then
      some ((-1), M)
    else
      if wr a3 = wr 1 then
        bd1 (m_X11_sheetFault M a2 a3) fun r9 =>
        if 0 ≤ wr r9 then
          if 0 ≤ wr a1 ∧ wr a1 < 4 then
          if 0 ≤ wr a2 ∧ wr a2 < 4 then
          bd2 (m_X3_takeBricks M (39 + 2 * (wr a1).toNat) (47 + 2 * (wr a2).toNat)) fun b14 M15 =>
          lt (if wr (bI b14) = 0 then (-2) else 1) fun (v17 : Int) =>
          some (v17, M15)
          else none
          else none
        else
          some (r9, M)
      else
        if wr a3 = wr 2 then
          bd1 (m_X11_sheetFault M a2 a3) fun r20 =>
          if 0 ≤ wr r20 then
            if 0 ≤ wr a1 ∧ wr a1 < 4 then
            if 0 ≤ wr a2 ∧ wr a2 < 4 then
            bd2 (m_X3_takeBricks M (39 + 2 * (wr a1).toNat) (47 + 2 * (wr a2).toNat)) fun b25 M26 =>
            lt (if wr (bI b25) = 0 then (-2) else 1) fun (v28 : Int) =>
            some (v28, M26)
            else none
            else none
          else
            some (r20, M)
        else
          some ((-1), M)
set_option maxRecDepth 10000 in
theorem run_X11_bricks {M : Mem} {M2 : Mem} {a1 : Int} {a2 : Int} {a3 : Int} {r : Int}   (h : m_X11_bricks M a1 a2 a3 = some (r, M2)) : RunI 4 yX11_bricks cX11_bricks 5 (some .int) [vR 0, vI a1, vI a2, vI a3] M r M2 := by
  refine runI_of (lv := [(0, vR 0), (1, vI a1), (2, vI a2), (3, vI a3)]) (by decide +kernel) (Or.inl rfl) (Nat.le_of_ble_eq_true rfl) rfl ?_
  intro G hQ
  unfold m_X11_bricks at h
  refine r_iload_n dX11_bricks_0 rfl 1 rfl ?_
  obtain ⟨b2, hc1, h⟩ := of_bd1 h
  refine r_callSI (st := []) dX11_bricks_1 v_X11_194 (run_X11_isSlot hc1) (by decide) (by decide) rfl (Nat.le_of_ble_eq_true rfl) rfl ?_
  by_cases c3 : wr (bI b2) = 0
  · rw [if_pos c3] at h
    refine r_if_eq (tgt := 24) dX11_bricks_4 (by decide) (fun _ => ?_) (fun q => absurd c3 q)
    refine r_iconst dX11_bricks_24 ?_
    cases h
    exact hQ _ _ dX11_bricks_25
  · rw [if_neg c3] at h
    refine r_if_eq (tgt := 24) dX11_bricks_4 (by decide) (fun q => absurd q c3) (fun _ => ?_)
    refine r_iload_n dX11_bricks_7 rfl 2 rfl ?_
    obtain ⟨b5, hc4, h⟩ := of_bd1 h
    refine r_callSI (st := []) dX11_bricks_8 v_X11_134 (run_X11_isSheet hc4) (by decide) (by decide) rfl (Nat.le_of_ble_eq_true rfl) rfl ?_
    by_cases c6 : wr (bI b5) = 0
    · rw [if_pos c6] at h
      refine r_if_eq (tgt := 24) dX11_bricks_11 (by decide) (fun _ => ?_) (fun q => absurd c6 q)
      refine r_iconst dX11_bricks_24 ?_
      cases h
      exact hQ _ _ dX11_bricks_25
    · rw [if_neg c6] at h
      refine r_if_eq (tgt := 24) dX11_bricks_11 (by decide) (fun q => absurd q c6) (fun _ => ?_)
      refine r_iload_n dX11_bricks_14 rfl 3 rfl ?_
      refine r_iconst dX11_bricks_15 ?_
      by_cases c7 : wr a3 = wr 1
      · rw [if_pos c7] at h
        refine r_icmp_eq (tgt := 26) dX11_bricks_16 (by decide) (fun _ => ?_) (fun q => absurd c7 q)
        refine r_aload_n dX11_bricks_26 rfl 0 rfl ?_
        refine r_iload_n dX11_bricks_27 rfl 2 rfl ?_
        refine r_iload_n dX11_bricks_28 rfl 3 rfl ?_
        obtain ⟨r9, hc8, h⟩ := of_bd1 h
        refine r_callVI (st := []) dX11_bricks_29 v_X11_137 (run_X11_sheetFault hc8) (by decide) (by decide) rfl rfl (Nat.le_of_ble_eq_true rfl) rfl ?_
        refine r_istore (lv2 := [(4, vI r9), (0, vR 0), (1, vI a1), (2, vI a2), (3, vI a3)]) dX11_bricks_32 (by decide) rfl ?_
        refine r_iload dX11_bricks_34 0 rfl ?_
        by_cases c10 : 0 ≤ wr r9
        · rw [if_pos c10] at h
          refine r_if_ge (tgt := 42) dX11_bricks_36 (by decide) (fun _ => ?_) (fun q => absurd c10 q)
          refine r_aload_n dX11_bricks_42 rfl 1 rfl ?_
          refine r_getR (j := 8) (v := 37) dX11_bricks_43 f_X11_67 rfl rfl rfl ?_
          refine r_iload_n dX11_bricks_46 rfl 2 rfl ?_
          obtain ⟨c11, h⟩ := of_ck h
          refine r_aald3 dX11_bricks_47 rfl c11 (slo_el c11).1 ?_
          refine r_aload_n dX11_bricks_48 rfl 1 rfl ?_
          refine r_getR (j := 0) (v := 1) dX11_bricks_49 f_X11_10 rfl rfl rfl ?_
          refine r_aload_n dX11_bricks_52 rfl 1 rfl ?_
          refine r_getR (j := 9) (v := 38) dX11_bricks_53 f_X11_73 rfl rfl rfl ?_
          refine r_iload_n dX11_bricks_56 rfl 3 rfl ?_
          obtain ⟨c12, h⟩ := of_ck h
          refine r_aald4 dX11_bricks_57 rfl c12 (she_el c12).1 ?_
          obtain ⟨b14, M15, hc13, h⟩ := of_bd2 h
          refine r_callVI (st := []) dX11_bricks_58 v_X11_235 (run_X3_takeBricks (slo_el (M := M) c11).2 (she_el (M := M) c12).2 hc13) (by decide) (by decide) (slo_el (M := M) c11).2 rfl (Nat.le_of_ble_eq_true rfl) rfl ?_
          obtain ⟨v17, ev17, h⟩ := of_lt h
          have kJ : Ex G 4 cX11_bricks RX11 5 70 [] [vI v17] M15 := by
            cases h
            exact hQ _ _ dX11_bricks_70
          clear h
          by_cases c16 : wr (bI b14) = 0
          · skip
            refine r_if_eq (tgt := 68) dX11_bricks_61 (by decide) (fun _ => ?_) (fun q => absurd c16 q)
            refine r_bipush dX11_bricks_68 (by decide) ?_
            rw [show v17 = (-2) from by rw [ev17, if_pos c16]] at kJ
            refine r_sub (lv2 := []) [] rfl ?_
            exact kJ
          · skip
            refine r_if_eq (tgt := 68) dX11_bricks_61 (by decide) (fun q => absurd q c16) (fun _ => ?_)
            refine r_iconst dX11_bricks_64 ?_
            refine r_goto (tgt := 70) dX11_bricks_65 (by decide) ?_
            rw [show v17 = 1 from by rw [ev17, if_neg c16]] at kJ
            refine r_sub (lv2 := []) [] rfl ?_
            exact kJ
        · rw [if_neg c10] at h
          refine r_if_ge (tgt := 42) dX11_bricks_36 (by decide) (fun q => absurd q c10) (fun _ => ?_)
          refine r_iload dX11_bricks_39 0 rfl ?_
          cases h
          exact hQ _ _ dX11_bricks_41
      · rw [if_neg c7] at h
        refine r_icmp_eq (tgt := 26) dX11_bricks_16 (by decide) (fun q => absurd q c7) (fun _ => ?_)
        refine r_iload_n dX11_bricks_19 rfl 3 rfl ?_
        refine r_iconst dX11_bricks_20 ?_
        by_cases c18 : wr a3 = wr 2
        · rw [if_pos c18] at h
          refine r_icmp_eq (tgt := 26) dX11_bricks_21 (by decide) (fun _ => ?_) (fun q => absurd c18 q)
          refine r_aload_n dX11_bricks_26 rfl 0 rfl ?_
          refine r_iload_n dX11_bricks_27 rfl 2 rfl ?_
          refine r_iload_n dX11_bricks_28 rfl 3 rfl ?_
          obtain ⟨r20, hc19, h⟩ := of_bd1 h
          refine r_callVI (st := []) dX11_bricks_29 v_X11_137 (run_X11_sheetFault hc19) (by decide) (by decide) rfl rfl (Nat.le_of_ble_eq_true rfl) rfl ?_
          refine r_istore (lv2 := [(4, vI r20), (0, vR 0), (1, vI a1), (2, vI a2), (3, vI a3)]) dX11_bricks_32 (by decide) rfl ?_
          refine r_iload dX11_bricks_34 0 rfl ?_
          by_cases c21 : 0 ≤ wr r20
          · rw [if_pos c21] at h
            refine r_if_ge (tgt := 42) dX11_bricks_36 (by decide) (fun _ => ?_) (fun q => absurd c21 q)
            refine r_aload_n dX11_bricks_42 rfl 1 rfl ?_
            refine r_getR (j := 8) (v := 37) dX11_bricks_43 f_X11_67 rfl rfl rfl ?_
            refine r_iload_n dX11_bricks_46 rfl 2 rfl ?_
            obtain ⟨c22, h⟩ := of_ck h
            refine r_aald3 dX11_bricks_47 rfl c22 (slo_el c22).1 ?_
            refine r_aload_n dX11_bricks_48 rfl 1 rfl ?_
            refine r_getR (j := 0) (v := 1) dX11_bricks_49 f_X11_10 rfl rfl rfl ?_
            refine r_aload_n dX11_bricks_52 rfl 1 rfl ?_
            refine r_getR (j := 9) (v := 38) dX11_bricks_53 f_X11_73 rfl rfl rfl ?_
            refine r_iload_n dX11_bricks_56 rfl 3 rfl ?_
            obtain ⟨c23, h⟩ := of_ck h
            refine r_aald4 dX11_bricks_57 rfl c23 (she_el c23).1 ?_
            obtain ⟨b25, M26, hc24, h⟩ := of_bd2 h
            refine r_callVI (st := []) dX11_bricks_58 v_X11_235 (run_X3_takeBricks (slo_el (M := M) c22).2 (she_el (M := M) c23).2 hc24) (by decide) (by decide) (slo_el (M := M) c22).2 rfl (Nat.le_of_ble_eq_true rfl) rfl ?_
            obtain ⟨v28, ev28, h⟩ := of_lt h
            have kJ : Ex G 4 cX11_bricks RX11 5 70 [] [vI v28] M26 := by
              cases h
              exact hQ _ _ dX11_bricks_70
            clear h
            by_cases c27 : wr (bI b25) = 0
            · skip
              refine r_if_eq (tgt := 68) dX11_bricks_61 (by decide) (fun _ => ?_) (fun q => absurd c27 q)
              refine r_bipush dX11_bricks_68 (by decide) ?_
              rw [show v28 = (-2) from by rw [ev28, if_pos c27]] at kJ
              refine r_sub (lv2 := []) [] rfl ?_
              exact kJ
            · skip
              refine r_if_eq (tgt := 68) dX11_bricks_61 (by decide) (fun q => absurd q c27) (fun _ => ?_)
              refine r_iconst dX11_bricks_64 ?_
              refine r_goto (tgt := 70) dX11_bricks_65 (by decide) ?_
              rw [show v28 = 1 from by rw [ev28, if_neg c27]] at kJ
              refine r_sub (lv2 := []) [] rfl ?_
              exact kJ
          · rw [if_neg c21] at h
            refine r_if_ge (tgt := 42) dX11_bricks_36 (by decide) (fun q => absurd q c21) (fun _ => ?_)
            refine r_iload dX11_bricks_39 0 rfl ?_
            cases h
            exact hQ _ _ dX11_bricks_41
        · rw [if_neg c18] at h
          refine r_icmp_eq (tgt := 26) dX11_bricks_21 (by decide) (fun q => absurd q c18) (fun _ => ?_)
          refine r_iconst dX11_bricks_24 ?_
          cases h
          exact hQ _ _ dX11_bricks_25

def m_X11_most (M : Mem) : Option (Int × Mem) :=
  bd2 (m_X2_find M) fun r2 M3 =>
  some (r2, M3)
set_option maxRecDepth 10000 in
theorem run_X11_most {M : Mem} {M2 : Mem} {r : Int}   (h : m_X11_most M = some (r, M2)) : RunI 4 yX11_most cX11_most 1 (some .int) [vR 0] M r M2 := by
  refine runI_of (lv := [(0, vR 0)]) (by decide +kernel) (Or.inl rfl) (Nat.le_of_ble_eq_true rfl) rfl ?_
  intro G hQ
  unfold m_X11_most at h
  refine r_aload_n dX11_most_0 rfl 0 rfl ?_
  refine r_getR (j := 4) (v := 17) dX11_most_1 f_X11_40 rfl rfl rfl ?_
  refine r_aload_n dX11_most_4 rfl 0 rfl ?_
  refine r_getR (j := 0) (v := 1) dX11_most_5 f_X11_10 rfl rfl rfl ?_
  obtain ⟨r2, M3, hc1, h⟩ := of_bd2 h
  refine r_callVI (st := []) dX11_most_8 v_X11_239 (run_X2_find hc1) (by decide) (by decide) rfl rfl (Nat.le_of_ble_eq_true rfl) rfl ?_
  cases h
  exact hQ _ _ dX11_most_11

def m_X11_bar (M : Mem) (a1 : Int) (a2 : Int) : Option (Int × Mem) :=
  if wr a1 = 0 then
    if wr a2 = 0 then
      lt (if wr a1 = 0 then 1 else 0) fun (v4 : Int) =>
      bd1 (m_X2_markBar M v4) fun M6 =>
      lt (if wr a2 = 0 then 2 else 1) fun (v8 : Int) =>
      bd1 (m_X2_marked M6 v8) fun r10 =>
      some (r10, M6)
    else
      if wr a2 = wr 1 then
        lt (if wr a1 = 0 then 1 else 0) fun (v13 : Int) =>
        bd1 (m_X2_markBar M v13) fun M15 =>
        lt (if wr a2 = 0 then 2 else 1) fun (v17 : Int) =>
        bd1 (m_X2_marked M15 v17) fun r19 =>
        some (r19, M15)
      else
        some ((-1), M)
  else
    if wr a1 = wr 1 then
      if wr a2 = 0 then
        lt (if wr a1 = 0 then 1 else 0) fun (v23 : Int) =>
        bd1 (m_X2_markBar M v23) fun M25 =>
        lt (if wr a2 = 0 then 2 else 1) fun (v27 : Int) =>
        bd1 (m_X2_marked M25 v27) fun r29 =>
        some (r29, M25)
      else
        if wr a2 = wr 1 then
          lt (if wr a1 = 0 then 1 else 0) fun (v32 : Int) =>
          bd1 (m_X2_markBar M v32) fun M34 =>
          lt (if wr a2 = 0 then 2 else 1) fun (v36 : Int) =>
          bd1 (m_X2_marked M34 v36) fun r38 =>
          some (r38, M34)
        else
          some ((-1), M)
    else
      some ((-1), M)
set_option maxRecDepth 10000 in
theorem run_X11_bar {M : Mem} {M2 : Mem} {a1 : Int} {a2 : Int} {r : Int}   (h : m_X11_bar M a1 a2 = some (r, M2)) : RunI 5 yX11_bar cX11_bar 3 (some .int) [vR 0, vI a1, vI a2] M r M2 := by
  refine runI_of (lv := [(0, vR 0), (1, vI a1), (2, vI a2)]) (by decide +kernel) (Or.inl rfl) (Nat.le_of_ble_eq_true rfl) rfl ?_
  intro G hQ
  unfold m_X11_bar at h
  refine r_iload_n dX11_bar_0 rfl 1 rfl ?_
  by_cases c1 : wr a1 = 0
  · rw [if_pos c1] at h
    refine r_if_eq (tgt := 9) dX11_bar_1 (by decide) (fun _ => ?_) (fun q => absurd c1 q)
    refine r_iload_n dX11_bar_9 rfl 2 rfl ?_
    by_cases c2 : wr a2 = 0
    · rw [if_pos c2] at h
      refine r_if_eq (tgt := 20) dX11_bar_10 (by decide) (fun _ => ?_) (fun q => absurd c2 q)
      refine r_aload_n dX11_bar_20 rfl 0 rfl ?_
      refine r_getR (j := 4) (v := 17) dX11_bar_21 f_X11_40 rfl rfl rfl ?_
      refine r_aload_n dX11_bar_24 rfl 0 rfl ?_
      refine r_getR (j := 0) (v := 1) dX11_bar_25 f_X11_10 rfl rfl rfl ?_
      refine r_iload_n dX11_bar_28 rfl 1 rfl ?_
      obtain ⟨v4, ev4, h⟩ := of_lt h
      have kJ : Ex G 5 cX11_bar RX11 3 37 [(0, vR 0), (2, vI a2)] [vI v4, vR 1, vR 17] M := by
        obtain ⟨M6, hc5, h⟩ := of_bd1 h
        refine r_callVV (st := []) dX11_bar_37 v_X11_242 (run_X2_markBar hc5) (by decide) (by decide) rfl rfl (Nat.le_of_ble_eq_true rfl) rfl ?_
        refine r_aload_n dX11_bar_40 rfl 0 rfl ?_
        refine r_getR (j := 4) (v := 17) dX11_bar_41 f_X11_40 rfl rfl rfl ?_
        refine r_aload_n dX11_bar_44 rfl 0 rfl ?_
        refine r_getR (j := 0) (v := 1) dX11_bar_45 f_X11_10 rfl rfl rfl ?_
        refine r_iload_n dX11_bar_48 rfl 1 rfl ?_
        obtain ⟨v8, ev8, h⟩ := of_lt h
        have kJ : Ex G 5 cX11_bar RX11 3 57 [] [vI v8, vR 1, vR 17] M6 := by
          obtain ⟨r10, hc9, h⟩ := of_bd1 h
          refine r_callVI (st := []) dX11_bar_57 v_X11_246 (run_X2_marked hc9) (by decide) (by decide) rfl rfl (Nat.le_of_ble_eq_true rfl) rfl ?_
          cases h
          exact hQ _ _ dX11_bar_60
        clear h
        by_cases c7 : wr a2 = 0
        · skip
          refine r_if_ne (tgt := 56) dX11_bar_49 (by decide) (fun q => absurd c7 q) (fun _ => ?_)
          refine r_iconst dX11_bar_52 ?_
          refine r_goto (tgt := 57) dX11_bar_53 (by decide) ?_
          rw [show v8 = 2 from by rw [ev8, if_pos c7]] at kJ
          refine r_sub (lv2 := []) [] rfl ?_
          exact kJ
        · skip
          refine r_if_ne (tgt := 56) dX11_bar_49 (by decide) (fun _ => ?_) (fun q => absurd q c7)
          refine r_iconst dX11_bar_56 ?_
          rw [show v8 = 1 from by rw [ev8, if_neg c7]] at kJ
          refine r_sub (lv2 := []) [] rfl ?_
          exact kJ
      clear h
      by_cases c3 : wr a1 = 0
      · skip
        refine r_if_ne (tgt := 36) dX11_bar_29 (by decide) (fun q => absurd c3 q) (fun _ => ?_)
        refine r_iconst dX11_bar_32 ?_
        refine r_goto (tgt := 37) dX11_bar_33 (by decide) ?_
        rw [show v4 = 1 from by rw [ev4, if_pos c3]] at kJ
        refine r_sub (lv2 := [(0, vR 0), (2, vI a2)]) [0, 2] rfl ?_
        exact kJ
      · skip
        refine r_if_ne (tgt := 36) dX11_bar_29 (by decide) (fun _ => ?_) (fun q => absurd q c3)
        refine r_iconst dX11_bar_36 ?_
        rw [show v4 = 0 from by rw [ev4, if_neg c3]] at kJ
        refine r_sub (lv2 := [(0, vR 0), (2, vI a2)]) [0, 2] rfl ?_
        exact kJ
    · rw [if_neg c2] at h
      refine r_if_eq (tgt := 20) dX11_bar_10 (by decide) (fun q => absurd q c2) (fun _ => ?_)
      refine r_iload_n dX11_bar_13 rfl 2 rfl ?_
      refine r_iconst dX11_bar_14 ?_
      by_cases c11 : wr a2 = wr 1
      · rw [if_pos c11] at h
        refine r_icmp_eq (tgt := 20) dX11_bar_15 (by decide) (fun _ => ?_) (fun q => absurd c11 q)
        refine r_aload_n dX11_bar_20 rfl 0 rfl ?_
        refine r_getR (j := 4) (v := 17) dX11_bar_21 f_X11_40 rfl rfl rfl ?_
        refine r_aload_n dX11_bar_24 rfl 0 rfl ?_
        refine r_getR (j := 0) (v := 1) dX11_bar_25 f_X11_10 rfl rfl rfl ?_
        refine r_iload_n dX11_bar_28 rfl 1 rfl ?_
        obtain ⟨v13, ev13, h⟩ := of_lt h
        have kJ : Ex G 5 cX11_bar RX11 3 37 [(0, vR 0), (2, vI a2)] [vI v13, vR 1, vR 17] M := by
          obtain ⟨M15, hc14, h⟩ := of_bd1 h
          refine r_callVV (st := []) dX11_bar_37 v_X11_242 (run_X2_markBar hc14) (by decide) (by decide) rfl rfl (Nat.le_of_ble_eq_true rfl) rfl ?_
          refine r_aload_n dX11_bar_40 rfl 0 rfl ?_
          refine r_getR (j := 4) (v := 17) dX11_bar_41 f_X11_40 rfl rfl rfl ?_
          refine r_aload_n dX11_bar_44 rfl 0 rfl ?_
          refine r_getR (j := 0) (v := 1) dX11_bar_45 f_X11_10 rfl rfl rfl ?_
          refine r_iload_n dX11_bar_48 rfl 1 rfl ?_
          obtain ⟨v17, ev17, h⟩ := of_lt h
          have kJ : Ex G 5 cX11_bar RX11 3 57 [] [vI v17, vR 1, vR 17] M15 := by
            obtain ⟨r19, hc18, h⟩ := of_bd1 h
            refine r_callVI (st := []) dX11_bar_57 v_X11_246 (run_X2_marked hc18) (by decide) (by decide) rfl rfl (Nat.le_of_ble_eq_true rfl) rfl ?_
            cases h
            exact hQ _ _ dX11_bar_60
          clear h
          by_cases c16 : wr a2 = 0
          · skip
            refine r_if_ne (tgt := 56) dX11_bar_49 (by decide) (fun q => absurd c16 q) (fun _ => ?_)
            refine r_iconst dX11_bar_52 ?_
            refine r_goto (tgt := 57) dX11_bar_53 (by decide) ?_
            rw [show v17 = 2 from by rw [ev17, if_pos c16]] at kJ
            refine r_sub (lv2 := []) [] rfl ?_
            exact kJ
          · skip
            refine r_if_ne (tgt := 56) dX11_bar_49 (by decide) (fun _ => ?_) (fun q => absurd q c16)
            refine r_iconst dX11_bar_56 ?_
            rw [show v17 = 1 from by rw [ev17, if_neg c16]] at kJ
            refine r_sub (lv2 := []) [] rfl ?_
            exact kJ
        clear h
        by_cases c12 : wr a1 = 0
        · skip
          refine r_if_ne (tgt := 36) dX11_bar_29 (by decide) (fun q => absurd c12 q) (fun _ => ?_)
          refine r_iconst dX11_bar_32 ?_
          refine r_goto (tgt := 37) dX11_bar_33 (by decide) ?_
          rw [show v13 = 1 from by rw [ev13, if_pos c12]] at kJ
          refine r_sub (lv2 := [(0, vR 0), (2, vI a2)]) [0, 2] rfl ?_
          exact kJ
        · skip
          refine r_if_ne (tgt := 36) dX11_bar_29 (by decide) (fun _ => ?_) (fun q => absurd q c12)
          refine r_iconst dX11_bar_36 ?_
          rw [show v13 = 0 from by rw [ev13, if_neg c12]] at kJ
          refine r_sub (lv2 := [(0, vR 0), (2, vI a2)]) [0, 2] rfl ?_
          exact kJ
      · rw [if_neg c11] at h
        refine r_icmp_eq (tgt := 20) dX11_bar_15 (by decide) (fun q => absurd q c11) (fun _ => ?_)
        refine r_iconst dX11_bar_18 ?_
        cases h
        exact hQ _ _ dX11_bar_19
  · rw [if_neg c1] at h
    refine r_if_eq (tgt := 9) dX11_bar_1 (by decide) (fun q => absurd q c1) (fun _ => ?_)
    refine r_iload_n dX11_bar_4 rfl 1 rfl ?_
    refine r_iconst dX11_bar_5 ?_
    by_cases c20 : wr a1 = wr 1
    · rw [if_pos c20] at h
      refine r_icmp_ne (tgt := 18) dX11_bar_6 (by decide) (fun q => absurd c20 q) (fun _ => ?_)
      refine r_iload_n dX11_bar_9 rfl 2 rfl ?_
      by_cases c21 : wr a2 = 0
      · rw [if_pos c21] at h
        refine r_if_eq (tgt := 20) dX11_bar_10 (by decide) (fun _ => ?_) (fun q => absurd c21 q)
        refine r_aload_n dX11_bar_20 rfl 0 rfl ?_
        refine r_getR (j := 4) (v := 17) dX11_bar_21 f_X11_40 rfl rfl rfl ?_
        refine r_aload_n dX11_bar_24 rfl 0 rfl ?_
        refine r_getR (j := 0) (v := 1) dX11_bar_25 f_X11_10 rfl rfl rfl ?_
        refine r_iload_n dX11_bar_28 rfl 1 rfl ?_
        obtain ⟨v23, ev23, h⟩ := of_lt h
        have kJ : Ex G 5 cX11_bar RX11 3 37 [(0, vR 0), (2, vI a2)] [vI v23, vR 1, vR 17] M := by
          obtain ⟨M25, hc24, h⟩ := of_bd1 h
          refine r_callVV (st := []) dX11_bar_37 v_X11_242 (run_X2_markBar hc24) (by decide) (by decide) rfl rfl (Nat.le_of_ble_eq_true rfl) rfl ?_
          refine r_aload_n dX11_bar_40 rfl 0 rfl ?_
          refine r_getR (j := 4) (v := 17) dX11_bar_41 f_X11_40 rfl rfl rfl ?_
          refine r_aload_n dX11_bar_44 rfl 0 rfl ?_
          refine r_getR (j := 0) (v := 1) dX11_bar_45 f_X11_10 rfl rfl rfl ?_
          refine r_iload_n dX11_bar_48 rfl 1 rfl ?_
          obtain ⟨v27, ev27, h⟩ := of_lt h
          have kJ : Ex G 5 cX11_bar RX11 3 57 [] [vI v27, vR 1, vR 17] M25 := by
            obtain ⟨r29, hc28, h⟩ := of_bd1 h
            refine r_callVI (st := []) dX11_bar_57 v_X11_246 (run_X2_marked hc28) (by decide) (by decide) rfl rfl (Nat.le_of_ble_eq_true rfl) rfl ?_
            cases h
            exact hQ _ _ dX11_bar_60
          clear h
          by_cases c26 : wr a2 = 0
          · skip
            refine r_if_ne (tgt := 56) dX11_bar_49 (by decide) (fun q => absurd c26 q) (fun _ => ?_)
            refine r_iconst dX11_bar_52 ?_
            refine r_goto (tgt := 57) dX11_bar_53 (by decide) ?_
            rw [show v27 = 2 from by rw [ev27, if_pos c26]] at kJ
            refine r_sub (lv2 := []) [] rfl ?_
            exact kJ
          · skip
            refine r_if_ne (tgt := 56) dX11_bar_49 (by decide) (fun _ => ?_) (fun q => absurd q c26)
            refine r_iconst dX11_bar_56 ?_
            rw [show v27 = 1 from by rw [ev27, if_neg c26]] at kJ
            refine r_sub (lv2 := []) [] rfl ?_
            exact kJ
        clear h
        by_cases c22 : wr a1 = 0
        · skip
          refine r_if_ne (tgt := 36) dX11_bar_29 (by decide) (fun q => absurd c22 q) (fun _ => ?_)
          refine r_iconst dX11_bar_32 ?_
          refine r_goto (tgt := 37) dX11_bar_33 (by decide) ?_
          rw [show v23 = 1 from by rw [ev23, if_pos c22]] at kJ
          refine r_sub (lv2 := [(0, vR 0), (2, vI a2)]) [0, 2] rfl ?_
          exact kJ
        · skip
          refine r_if_ne (tgt := 36) dX11_bar_29 (by decide) (fun _ => ?_) (fun q => absurd q c22)
          refine r_iconst dX11_bar_36 ?_
          rw [show v23 = 0 from by rw [ev23, if_neg c22]] at kJ
          refine r_sub (lv2 := [(0, vR 0), (2, vI a2)]) [0, 2] rfl ?_
          exact kJ
      · rw [if_neg c21] at h
        refine r_if_eq (tgt := 20) dX11_bar_10 (by decide) (fun q => absurd q c21) (fun _ => ?_)
        refine r_iload_n dX11_bar_13 rfl 2 rfl ?_
        refine r_iconst dX11_bar_14 ?_
        by_cases c30 : wr a2 = wr 1
        · rw [if_pos c30] at h
          refine r_icmp_eq (tgt := 20) dX11_bar_15 (by decide) (fun _ => ?_) (fun q => absurd c30 q)
          refine r_aload_n dX11_bar_20 rfl 0 rfl ?_
          refine r_getR (j := 4) (v := 17) dX11_bar_21 f_X11_40 rfl rfl rfl ?_
          refine r_aload_n dX11_bar_24 rfl 0 rfl ?_
          refine r_getR (j := 0) (v := 1) dX11_bar_25 f_X11_10 rfl rfl rfl ?_
          refine r_iload_n dX11_bar_28 rfl 1 rfl ?_
          obtain ⟨v32, ev32, h⟩ := of_lt h
          have kJ : Ex G 5 cX11_bar RX11 3 37 [(0, vR 0), (2, vI a2)] [vI v32, vR 1, vR 17] M := by
            obtain ⟨M34, hc33, h⟩ := of_bd1 h
            refine r_callVV (st := []) dX11_bar_37 v_X11_242 (run_X2_markBar hc33) (by decide) (by decide) rfl rfl (Nat.le_of_ble_eq_true rfl) rfl ?_
            refine r_aload_n dX11_bar_40 rfl 0 rfl ?_
            refine r_getR (j := 4) (v := 17) dX11_bar_41 f_X11_40 rfl rfl rfl ?_
            refine r_aload_n dX11_bar_44 rfl 0 rfl ?_
            refine r_getR (j := 0) (v := 1) dX11_bar_45 f_X11_10 rfl rfl rfl ?_
            refine r_iload_n dX11_bar_48 rfl 1 rfl ?_
            obtain ⟨v36, ev36, h⟩ := of_lt h
            have kJ : Ex G 5 cX11_bar RX11 3 57 [] [vI v36, vR 1, vR 17] M34 := by
              obtain ⟨r38, hc37, h⟩ := of_bd1 h
              refine r_callVI (st := []) dX11_bar_57 v_X11_246 (run_X2_marked hc37) (by decide) (by decide) rfl rfl (Nat.le_of_ble_eq_true rfl) rfl ?_
              cases h
              exact hQ _ _ dX11_bar_60
            clear h
            by_cases c35 : wr a2 = 0
            · skip
              refine r_if_ne (tgt := 56) dX11_bar_49 (by decide) (fun q => absurd c35 q) (fun _ => ?_)
              refine r_iconst dX11_bar_52 ?_
              refine r_goto (tgt := 57) dX11_bar_53 (by decide) ?_
              rw [show v36 = 2 from by rw [ev36, if_pos c35]] at kJ
              refine r_sub (lv2 := []) [] rfl ?_
              exact kJ
            · skip
              refine r_if_ne (tgt := 56) dX11_bar_49 (by decide) (fun _ => ?_) (fun q => absurd q c35)
              refine r_iconst dX11_bar_56 ?_
              rw [show v36 = 1 from by rw [ev36, if_neg c35]] at kJ
              refine r_sub (lv2 := []) [] rfl ?_
              exact kJ
          clear h
          by_cases c31 : wr a1 = 0
          · skip
            refine r_if_ne (tgt := 36) dX11_bar_29 (by decide) (fun q => absurd c31 q) (fun _ => ?_)
            refine r_iconst dX11_bar_32 ?_
            refine r_goto (tgt := 37) dX11_bar_33 (by decide) ?_
            rw [show v32 = 1 from by rw [ev32, if_pos c31]] at kJ
            refine r_sub (lv2 := [(0, vR 0), (2, vI a2)]) [0, 2] rfl ?_
            exact kJ
          · skip
            refine r_if_ne (tgt := 36) dX11_bar_29 (by decide) (fun _ => ?_) (fun q => absurd q c31)
            refine r_iconst dX11_bar_36 ?_
            rw [show v32 = 0 from by rw [ev32, if_neg c31]] at kJ
            refine r_sub (lv2 := [(0, vR 0), (2, vI a2)]) [0, 2] rfl ?_
            exact kJ
        · rw [if_neg c30] at h
          refine r_icmp_eq (tgt := 20) dX11_bar_15 (by decide) (fun q => absurd q c30) (fun _ => ?_)
          refine r_iconst dX11_bar_18 ?_
          cases h
          exact hQ _ _ dX11_bar_19
    · rw [if_neg c20] at h
      refine r_icmp_ne (tgt := 18) dX11_bar_6 (by decide) (fun _ => ?_) (fun q => absurd q c20)
      refine r_iconst dX11_bar_18 ?_
      cases h
      exact hQ _ _ dX11_bar_19

def m_X11_bars (M : Mem) (a1 : Int) (a2 : Int) : Option (Int × Mem) :=
  if wr a1 = 0 then
    bd1 (m_X10_isOpen M a2) fun b3 =>
    if wr (bI b3) = 0 then
      some ((-1), M)
    else
      lt (if wr a1 = 0 then 1 else 0) fun (v6 : Int) =>
      bd1 (m_X2_markBar M v6) fun M8 =>
      if 0 ≤ wr a2 ∧ wr a2 < 64 then
      some ((gI M8 20 (wr a2)), M8)
      else none
  else
    if wr a1 = wr 1 then
      bd1 (m_X10_isOpen M a2) fun b12 =>
      if wr (bI b12) = 0 then
        some ((-1), M)
      else
        lt (if wr a1 = 0 then 1 else 0) fun (v15 : Int) =>
        bd1 (m_X2_markBar M v15) fun M17 =>
        if 0 ≤ wr a2 ∧ wr a2 < 64 then
        some ((gI M17 20 (wr a2)), M17)
        else none
    else
      some ((-1), M)
set_option maxRecDepth 10000 in
theorem run_X11_bars {M : Mem} {M2 : Mem} {a1 : Int} {a2 : Int} {r : Int}   (h : m_X11_bars M a1 a2 = some (r, M2)) : RunI 5 yX11_bars cX11_bars 3 (some .int) [vR 0, vI a1, vI a2] M r M2 := by
  refine runI_of (lv := [(0, vR 0), (1, vI a1), (2, vI a2)]) (by decide +kernel) (Or.inl rfl) (Nat.le_of_ble_eq_true rfl) rfl ?_
  intro G hQ
  unfold m_X11_bars at h
  refine r_iload_n dX11_bars_0 rfl 1 rfl ?_
  by_cases c1 : wr a1 = 0
  · rw [if_pos c1] at h
    refine r_if_eq (tgt := 9) dX11_bars_1 (by decide) (fun _ => ?_) (fun q => absurd c1 q)
    refine r_aload_n dX11_bars_9 rfl 0 rfl ?_
    refine r_getR (j := 0) (v := 1) dX11_bars_10 f_X11_10 rfl rfl rfl ?_
    refine r_iload_n dX11_bars_13 rfl 2 rfl ?_
    obtain ⟨b3, hc2, h⟩ := of_bd1 h
    refine r_callVI (st := []) dX11_bars_14 v_X11_208 (run_X10_isOpen hc2) (by decide) (by decide) rfl rfl (Nat.le_of_ble_eq_true rfl) rfl ?_
    by_cases c4 : wr (bI b3) = 0
    · rw [if_pos c4] at h
      refine r_if_ne (tgt := 22) dX11_bars_17 (by decide) (fun q => absurd c4 q) (fun _ => ?_)
      refine r_iconst dX11_bars_20 ?_
      cases h
      exact hQ _ _ dX11_bars_21
    · rw [if_neg c4] at h
      refine r_if_ne (tgt := 22) dX11_bars_17 (by decide) (fun _ => ?_) (fun q => absurd q c4)
      refine r_aload_n dX11_bars_22 rfl 0 rfl ?_
      refine r_getR (j := 4) (v := 17) dX11_bars_23 f_X11_40 rfl rfl rfl ?_
      refine r_aload_n dX11_bars_26 rfl 0 rfl ?_
      refine r_getR (j := 0) (v := 1) dX11_bars_27 f_X11_10 rfl rfl rfl ?_
      refine r_iload_n dX11_bars_30 rfl 1 rfl ?_
      obtain ⟨v6, ev6, h⟩ := of_lt h
      have kJ : Ex G 5 cX11_bars RX11 3 39 [(0, vR 0), (2, vI a2)] [vI v6, vR 1, vR 17] M := by
        obtain ⟨M8, hc7, h⟩ := of_bd1 h
        refine r_callVV (st := []) dX11_bars_39 v_X11_242 (run_X2_markBar hc7) (by decide) (by decide) rfl rfl (Nat.le_of_ble_eq_true rfl) rfl ?_
        refine r_aload_n dX11_bars_42 rfl 0 rfl ?_
        refine r_getR (j := 4) (v := 17) dX11_bars_43 f_X11_40 rfl rfl rfl ?_
        refine r_getR (j := 2) (v := 20) dX11_bars_46 f_X11_250 rfl rfl rfl ?_
        refine r_iload_n dX11_bars_49 rfl 1 rfl ?_
        obtain ⟨c9, h⟩ := of_ck h
        refine r_iald dX11_bars_50 rfl c9 ?_
        cases h
        exact hQ _ _ dX11_bars_51
      clear h
      by_cases c5 : wr a1 = 0
      · skip
        refine r_if_ne (tgt := 38) dX11_bars_31 (by decide) (fun q => absurd c5 q) (fun _ => ?_)
        refine r_iconst dX11_bars_34 ?_
        refine r_goto (tgt := 39) dX11_bars_35 (by decide) ?_
        rw [show v6 = 1 from by rw [ev6, if_pos c5]] at kJ
        refine r_sub (lv2 := [(0, vR 0), (2, vI a2)]) [0, 2] rfl ?_
        exact kJ
      · skip
        refine r_if_ne (tgt := 38) dX11_bars_31 (by decide) (fun _ => ?_) (fun q => absurd q c5)
        refine r_iconst dX11_bars_38 ?_
        rw [show v6 = 0 from by rw [ev6, if_neg c5]] at kJ
        refine r_sub (lv2 := [(0, vR 0), (2, vI a2)]) [0, 2] rfl ?_
        exact kJ
  · rw [if_neg c1] at h
    refine r_if_eq (tgt := 9) dX11_bars_1 (by decide) (fun q => absurd q c1) (fun _ => ?_)
    refine r_iload_n dX11_bars_4 rfl 1 rfl ?_
    refine r_iconst dX11_bars_5 ?_
    by_cases c10 : wr a1 = wr 1
    · rw [if_pos c10] at h
      refine r_icmp_ne (tgt := 20) dX11_bars_6 (by decide) (fun q => absurd c10 q) (fun _ => ?_)
      refine r_aload_n dX11_bars_9 rfl 0 rfl ?_
      refine r_getR (j := 0) (v := 1) dX11_bars_10 f_X11_10 rfl rfl rfl ?_
      refine r_iload_n dX11_bars_13 rfl 2 rfl ?_
      obtain ⟨b12, hc11, h⟩ := of_bd1 h
      refine r_callVI (st := []) dX11_bars_14 v_X11_208 (run_X10_isOpen hc11) (by decide) (by decide) rfl rfl (Nat.le_of_ble_eq_true rfl) rfl ?_
      by_cases c13 : wr (bI b12) = 0
      · rw [if_pos c13] at h
        refine r_if_ne (tgt := 22) dX11_bars_17 (by decide) (fun q => absurd c13 q) (fun _ => ?_)
        refine r_iconst dX11_bars_20 ?_
        cases h
        exact hQ _ _ dX11_bars_21
      · rw [if_neg c13] at h
        refine r_if_ne (tgt := 22) dX11_bars_17 (by decide) (fun _ => ?_) (fun q => absurd q c13)
        refine r_aload_n dX11_bars_22 rfl 0 rfl ?_
        refine r_getR (j := 4) (v := 17) dX11_bars_23 f_X11_40 rfl rfl rfl ?_
        refine r_aload_n dX11_bars_26 rfl 0 rfl ?_
        refine r_getR (j := 0) (v := 1) dX11_bars_27 f_X11_10 rfl rfl rfl ?_
        refine r_iload_n dX11_bars_30 rfl 1 rfl ?_
        obtain ⟨v15, ev15, h⟩ := of_lt h
        have kJ : Ex G 5 cX11_bars RX11 3 39 [(0, vR 0), (2, vI a2)] [vI v15, vR 1, vR 17] M := by
          obtain ⟨M17, hc16, h⟩ := of_bd1 h
          refine r_callVV (st := []) dX11_bars_39 v_X11_242 (run_X2_markBar hc16) (by decide) (by decide) rfl rfl (Nat.le_of_ble_eq_true rfl) rfl ?_
          refine r_aload_n dX11_bars_42 rfl 0 rfl ?_
          refine r_getR (j := 4) (v := 17) dX11_bars_43 f_X11_40 rfl rfl rfl ?_
          refine r_getR (j := 2) (v := 20) dX11_bars_46 f_X11_250 rfl rfl rfl ?_
          refine r_iload_n dX11_bars_49 rfl 1 rfl ?_
          obtain ⟨c18, h⟩ := of_ck h
          refine r_iald dX11_bars_50 rfl c18 ?_
          cases h
          exact hQ _ _ dX11_bars_51
        clear h
        by_cases c14 : wr a1 = 0
        · skip
          refine r_if_ne (tgt := 38) dX11_bars_31 (by decide) (fun q => absurd c14 q) (fun _ => ?_)
          refine r_iconst dX11_bars_34 ?_
          refine r_goto (tgt := 39) dX11_bars_35 (by decide) ?_
          rw [show v15 = 1 from by rw [ev15, if_pos c14]] at kJ
          refine r_sub (lv2 := [(0, vR 0), (2, vI a2)]) [0, 2] rfl ?_
          exact kJ
        · skip
          refine r_if_ne (tgt := 38) dX11_bars_31 (by decide) (fun _ => ?_) (fun q => absurd q c14)
          refine r_iconst dX11_bars_38 ?_
          rw [show v15 = 0 from by rw [ev15, if_neg c14]] at kJ
          refine r_sub (lv2 := [(0, vR 0), (2, vI a2)]) [0, 2] rfl ?_
          exact kJ
    · rw [if_neg c10] at h
      refine r_icmp_ne (tgt := 20) dX11_bars_6 (by decide) (fun _ => ?_) (fun q => absurd q c10)
      refine r_iconst dX11_bars_20 ?_
      cases h
      exact hQ _ _ dX11_bars_21

def m_X11_whole (M : Mem) : Option (Int × Mem) :=
  bd2 (m_X5_isWhole M) fun b2 M3 =>
  some ((m_X11_bit (bI b2)), M3)
set_option maxRecDepth 10000 in
theorem run_X11_whole {M : Mem} {M2 : Mem} {r : Int}   (h : m_X11_whole M = some (r, M2)) : RunI 4 yX11_whole cX11_whole 1 (some .int) [vR 0] M r M2 := by
  refine runI_of (lv := [(0, vR 0)]) (by decide +kernel) (Or.inl rfl) (Nat.le_of_ble_eq_true rfl) rfl ?_
  intro G hQ
  unfold m_X11_whole at h
  refine r_aload_n dX11_whole_0 rfl 0 rfl ?_
  refine r_getR (j := 5) (v := 24) dX11_whole_1 f_X11_47 rfl rfl rfl ?_
  refine r_aload_n dX11_whole_4 rfl 0 rfl ?_
  refine r_getR (j := 0) (v := 1) dX11_whole_5 f_X11_10 rfl rfl rfl ?_
  obtain ⟨b2, M3, hc1, h⟩ := of_bd2 h
  refine r_callVI (st := []) dX11_whole_8 v_X11_253 (run_X5_isWhole hc1) (by decide) (by decide) rfl rfl (Nat.le_of_ble_eq_true rfl) rfl ?_
  refine r_callSI (st := []) dX11_whole_11 v_X11_95 (run_X11_bit rfl) (by decide) (by decide) rfl (Nat.le_of_ble_eq_true rfl) rfl ?_
  cases h
  exact hQ _ _ dX11_whole_14

def m_X11_wholeFault (M : Mem) (a1 : Int) (a2 : Int) : Option (Int × Mem) :=
  bd1 (m_X11_slotsFault M a1 a2) fun r2 =>
  if 0 ≤ wr r2 then
    bd2 (m_X5_isWhole M) fun b5 M6 =>
    lt (if wr (bI b5) = 0 then (-2) else 0) fun (v8 : Int) =>
    some (v8, M6)
  else
    some (r2, M)
set_option maxRecDepth 10000 in
theorem run_X11_wholeFault {M : Mem} {M2 : Mem} {a1 : Int} {a2 : Int} {r : Int}   (h : m_X11_wholeFault M a1 a2 = some (r, M2)) : RunI 4 yX11_wholeFault cX11_wholeFault 4 (some .int) [vR 0, vI a1, vI a2] M r M2 := by
  refine runI_of (lv := [(0, vR 0), (1, vI a1), (2, vI a2)]) (by decide +kernel) (Or.inl rfl) (Nat.le_of_ble_eq_true rfl) rfl ?_
  intro G hQ
  unfold m_X11_wholeFault at h
  refine r_aload_n dX11_wholeFault_0 rfl 0 rfl ?_
  refine r_iload_n dX11_wholeFault_1 rfl 1 rfl ?_
  refine r_iload_n dX11_wholeFault_2 rfl 2 rfl ?_
  obtain ⟨r2, hc1, h⟩ := of_bd1 h
  refine r_callVI (st := []) dX11_wholeFault_3 v_X11_298 (run_X11_slotsFault hc1) (by decide) (by decide) rfl rfl (Nat.le_of_ble_eq_true rfl) rfl ?_
  refine r_istore_n (lv2 := [(3, vI r2), (0, vR 0), (1, vI a1), (2, vI a2)]) dX11_wholeFault_6 rfl (by decide) rfl ?_
  refine r_iload_n dX11_wholeFault_7 rfl 0 rfl ?_
  by_cases c3 : 0 ≤ wr r2
  · rw [if_pos c3] at h
    refine r_if_ge (tgt := 13) dX11_wholeFault_8 (by decide) (fun _ => ?_) (fun q => absurd c3 q)
    refine r_aload_n dX11_wholeFault_13 rfl 1 rfl ?_
    refine r_getR (j := 5) (v := 24) dX11_wholeFault_14 f_X11_47 rfl rfl rfl ?_
    refine r_aload_n dX11_wholeFault_17 rfl 1 rfl ?_
    refine r_getR (j := 0) (v := 1) dX11_wholeFault_18 f_X11_10 rfl rfl rfl ?_
    obtain ⟨b5, M6, hc4, h⟩ := of_bd2 h
    refine r_callVI (st := []) dX11_wholeFault_21 v_X11_253 (run_X5_isWhole hc4) (by decide) (by decide) rfl rfl (Nat.le_of_ble_eq_true rfl) rfl ?_
    obtain ⟨v8, ev8, h⟩ := of_lt h
    have kJ : Ex G 4 cX11_wholeFault RX11 4 33 [] [vI v8] M6 := by
      cases h
      exact hQ _ _ dX11_wholeFault_33
    clear h
    by_cases c7 : wr (bI b5) = 0
    · skip
      refine r_if_eq (tgt := 31) dX11_wholeFault_24 (by decide) (fun _ => ?_) (fun q => absurd c7 q)
      refine r_bipush dX11_wholeFault_31 (by decide) ?_
      rw [show v8 = (-2) from by rw [ev8, if_pos c7]] at kJ
      refine r_sub (lv2 := []) [] rfl ?_
      exact kJ
    · skip
      refine r_if_eq (tgt := 31) dX11_wholeFault_24 (by decide) (fun q => absurd q c7) (fun _ => ?_)
      refine r_iconst dX11_wholeFault_27 ?_
      refine r_goto (tgt := 33) dX11_wholeFault_28 (by decide) ?_
      rw [show v8 = 0 from by rw [ev8, if_neg c7]] at kJ
      refine r_sub (lv2 := []) [] rfl ?_
      exact kJ
  · rw [if_neg c3] at h
    refine r_if_ge (tgt := 13) dX11_wholeFault_8 (by decide) (fun q => absurd q c3) (fun _ => ?_)
    refine r_iload_n dX11_wholeFault_11 rfl 0 rfl ?_
    cases h
    exact hQ _ _ dX11_wholeFault_12

def m_X11_height (M : Mem) (a1 : Int) (a2 : Int) (a3 : Int) : Option (Int × Mem) :=
  bd1 (m_X11_isSlot a1) fun b2 =>
  if wr (bI b2) = 0 then
    some ((-1001), M)
  else
    bd1 (m_X10_isCorner M a2 a3) fun b5 =>
    if wr (bI b5) = 0 then
      some ((-1001), M)
    else
      bd2 (m_X11_wholeFault M a1 a1) fun r8 M9 =>
      if 0 ≤ wr r8 then
        if 0 ≤ wr a1 ∧ wr a1 < 4 then
        bd1 (m_X1_measure M9 (39 + 2 * (wr a1).toNat) 29) fun M13 =>
        if 0 ≤ wr ((a3 * 9) + a2) ∧ wr ((a3 * 9) + a2) < 81 then
        some ((gI M13 29 (wr ((a3 * 9) + a2))), M13)
        else none
        else none
      else
        some (((-1000) + r8), M9)
set_option maxRecDepth 10000 in
theorem run_X11_height {M : Mem} {M2 : Mem} {a1 : Int} {a2 : Int} {a3 : Int} {r : Int}   (h : m_X11_height M a1 a2 a3 = some (r, M2)) : RunI 5 yX11_height cX11_height 5 (some .int) [vR 0, vI a1, vI a2, vI a3] M r M2 := by
  refine runI_of (lv := [(0, vR 0), (1, vI a1), (2, vI a2), (3, vI a3)]) (by decide +kernel) (Or.inl rfl) (Nat.le_of_ble_eq_true rfl) rfl ?_
  intro G hQ
  unfold m_X11_height at h
  refine r_iload_n dX11_height_0 rfl 1 rfl ?_
  obtain ⟨b2, hc1, h⟩ := of_bd1 h
  refine r_callSI (st := []) dX11_height_1 v_X11_194 (run_X11_isSlot hc1) (by decide) (by decide) rfl (Nat.le_of_ble_eq_true rfl) rfl ?_
  by_cases c3 : wr (bI b2) = 0
  · rw [if_pos c3] at h
    refine r_if_eq (tgt := 19) dX11_height_4 (by decide) (fun _ => ?_) (fun q => absurd c3 q)
    refine r_sipush dX11_height_19 (by decide) ?_
    cases h
    exact hQ _ _ dX11_height_22
  · rw [if_neg c3] at h
    refine r_if_eq (tgt := 19) dX11_height_4 (by decide) (fun q => absurd q c3) (fun _ => ?_)
    refine r_aload_n dX11_height_7 rfl 0 rfl ?_
    refine r_getR (j := 0) (v := 1) dX11_height_8 f_X11_10 rfl rfl rfl ?_
    refine r_iload_n dX11_height_11 rfl 2 rfl ?_
    refine r_iload_n dX11_height_12 rfl 3 rfl ?_
    obtain ⟨b5, hc4, h⟩ := of_bd1 h
    refine r_callVI (st := []) dX11_height_13 v_X11_257 (run_X10_isCorner hc4) (by decide) (by decide) rfl rfl (Nat.le_of_ble_eq_true rfl) rfl ?_
    by_cases c6 : wr (bI b5) = 0
    · rw [if_pos c6] at h
      refine r_if_ne (tgt := 23) dX11_height_16 (by decide) (fun q => absurd c6 q) (fun _ => ?_)
      refine r_sipush dX11_height_19 (by decide) ?_
      cases h
      exact hQ _ _ dX11_height_22
    · rw [if_neg c6] at h
      refine r_if_ne (tgt := 23) dX11_height_16 (by decide) (fun _ => ?_) (fun q => absurd q c6)
      refine r_aload_n dX11_height_23 rfl 0 rfl ?_
      refine r_iload_n dX11_height_24 rfl 1 rfl ?_
      refine r_iload_n dX11_height_25 rfl 1 rfl ?_
      obtain ⟨r8, M9, hc7, h⟩ := of_bd2 h
      refine r_callVI (st := []) dX11_height_26 v_X11_260 (run_X11_wholeFault hc7) (by decide) (by decide) rfl rfl (Nat.le_of_ble_eq_true rfl) rfl ?_
      refine r_istore (lv2 := [(4, vI r8), (0, vR 0), (1, vI a1), (2, vI a2), (3, vI a3)]) dX11_height_29 (by decide) rfl ?_
      refine r_iload dX11_height_31 0 rfl ?_
      by_cases c10 : 0 ≤ wr r8
      · rw [if_pos c10] at h
        refine r_if_ge (tgt := 43) dX11_height_33 (by decide) (fun _ => ?_) (fun q => absurd c10 q)
        refine r_aload_n dX11_height_43 rfl 1 rfl ?_
        refine r_getR (j := 6) (v := 28) dX11_height_44 f_X11_54 rfl rfl rfl ?_
        refine r_aload_n dX11_height_47 rfl 1 rfl ?_
        refine r_getR (j := 0) (v := 1) dX11_height_48 f_X11_10 rfl rfl rfl ?_
        refine r_aload_n dX11_height_51 rfl 1 rfl ?_
        refine r_getR (j := 8) (v := 37) dX11_height_52 f_X11_67 rfl rfl rfl ?_
        refine r_iload_n dX11_height_55 rfl 2 rfl ?_
        obtain ⟨c11, h⟩ := of_ck h
        refine r_aald3 dX11_height_56 rfl c11 (slo_el c11).1 ?_
        refine r_aload_n dX11_height_57 rfl 1 rfl ?_
        refine r_getR (j := 6) (v := 28) dX11_height_58 f_X11_54 rfl rfl rfl ?_
        refine r_getR (j := 0) (v := 29) dX11_height_61 f_X11_263 rfl rfl rfl ?_
        obtain ⟨M13, hc12, h⟩ := of_bd1 h
        refine r_callVV (st := []) dX11_height_64 v_X11_266 (run_X1_measure (slo_el (M := M9) c11).2 (congrArg Prod.fst rfl) hc12) (by decide) (by decide) rfl rfl (Nat.le_of_ble_eq_true rfl) rfl ?_
        refine r_aload_n dX11_height_67 rfl 1 rfl ?_
        refine r_getR (j := 6) (v := 28) dX11_height_68 f_X11_54 rfl rfl rfl ?_
        refine r_getR (j := 0) (v := 29) dX11_height_71 f_X11_263 rfl rfl rfl ?_
        refine r_iload_n dX11_height_74 rfl 4 rfl ?_
        refine r_bipush dX11_height_75 (by decide) ?_
        refine r_imul dX11_height_77 ?_
        refine r_iload_n dX11_height_78 rfl 3 rfl ?_
        refine r_iadd dX11_height_79 ?_
        obtain ⟨c14, h⟩ := of_ck h
        refine r_iald dX11_height_80 rfl c14 ?_
        cases h
        exact hQ _ _ dX11_height_81
      · rw [if_neg c10] at h
        refine r_if_ge (tgt := 43) dX11_height_33 (by decide) (fun q => absurd q c10) (fun _ => ?_)
        refine r_sipush dX11_height_36 (by decide) ?_
        refine r_iload dX11_height_39 0 rfl ?_
        refine r_iadd dX11_height_41 ?_
        cases h
        exact hQ _ _ dX11_height_42

def m_X11_turn (M : Mem) (a1 : Int) (a2 : Int) (a3 : Int) : Option (Int × Mem) :=
  bd1 (m_X11_isSlot a1) fun b2 =>
  if wr (bI b2) = 0 then
    some ((-1), M)
  else
    if wr a2 < 0 then
      some ((-1), M)
    else
      if wr (gI M 1 0) < wr a2 then
        some ((-1), M)
      else
        if wr a3 < 0 then
          some ((-1), M)
        else
          if wr a3 ≤ wr (gI M 1 1) then
            bd2 (m_X11_wholeFault M a1 a1) fun r9 M10 =>
            if 0 ≤ wr r9 then
              if 0 ≤ wr a1 ∧ wr a1 < 4 then
              bd1 (m_X1_wayOfTurn M10 (39 + 2 * (wr a1).toNat) a2 a3) fun r14 =>
              if 0 ≤ wr r14 then
                bd1 (m_X1_makeTurn M10 (39 + 2 * (wr a1).toNat) a2 a3) fun M17 =>
                some (r14, M17)
              else
                some ((-2), M10)
              else none
            else
              some (r9, M10)
          else
            some ((-1), M)
set_option maxRecDepth 10000 in
theorem run_X11_turn {M : Mem} {M2 : Mem} {a1 : Int} {a2 : Int} {a3 : Int} {r : Int}   (h : m_X11_turn M a1 a2 a3 = some (r, M2)) : RunI 5 yX11_turn cX11_turn 6 (some .int) [vR 0, vI a1, vI a2, vI a3] M r M2 := by
  refine runI_of (lv := [(0, vR 0), (1, vI a1), (2, vI a2), (3, vI a3)]) (by decide +kernel) (Or.inl rfl) (Nat.le_of_ble_eq_true rfl) rfl ?_
  intro G hQ
  unfold m_X11_turn at h
  refine r_iload_n dX11_turn_0 rfl 1 rfl ?_
  obtain ⟨b2, hc1, h⟩ := of_bd1 h
  refine r_callSI (st := []) dX11_turn_1 v_X11_194 (run_X11_isSlot hc1) (by decide) (by decide) rfl (Nat.le_of_ble_eq_true rfl) rfl ?_
  by_cases c3 : wr (bI b2) = 0
  · rw [if_pos c3] at h
    refine r_if_eq (tgt := 37) dX11_turn_4 (by decide) (fun _ => ?_) (fun q => absurd c3 q)
    refine r_iconst dX11_turn_37 ?_
    cases h
    exact hQ _ _ dX11_turn_38
  · rw [if_neg c3] at h
    refine r_if_eq (tgt := 37) dX11_turn_4 (by decide) (fun q => absurd q c3) (fun _ => ?_)
    refine r_iload_n dX11_turn_7 rfl 2 rfl ?_
    by_cases c4 : wr a2 < 0
    · rw [if_pos c4] at h
      refine r_if_lt (tgt := 37) dX11_turn_8 (by decide) (fun _ => ?_) (fun q => absurd c4 q)
      refine r_iconst dX11_turn_37 ?_
      cases h
      exact hQ _ _ dX11_turn_38
    · rw [if_neg c4] at h
      refine r_if_lt (tgt := 37) dX11_turn_8 (by decide) (fun q => absurd q c4) (fun _ => ?_)
      refine r_iload_n dX11_turn_11 rfl 2 rfl ?_
      refine r_aload_n dX11_turn_12 rfl 0 rfl ?_
      refine r_getR (j := 0) (v := 1) dX11_turn_13 f_X11_10 rfl rfl rfl ?_
      refine r_getI (j := 0) (jz := 0) dX11_turn_16 f_X11_146 rfl rfl rfl ?_
      by_cases c5 : wr (gI M 1 0) < wr a2
      · rw [if_pos c5] at h
        refine r_icmp_gt (tgt := 37) dX11_turn_19 (by decide) (fun _ => ?_) (fun q => absurd c5 q)
        refine r_iconst dX11_turn_37 ?_
        cases h
        exact hQ _ _ dX11_turn_38
      · rw [if_neg c5] at h
        refine r_icmp_gt (tgt := 37) dX11_turn_19 (by decide) (fun q => absurd q c5) (fun _ => ?_)
        refine r_iload_n dX11_turn_22 rfl 3 rfl ?_
        by_cases c6 : wr a3 < 0
        · rw [if_pos c6] at h
          refine r_if_lt (tgt := 37) dX11_turn_23 (by decide) (fun _ => ?_) (fun q => absurd c6 q)
          refine r_iconst dX11_turn_37 ?_
          cases h
          exact hQ _ _ dX11_turn_38
        · rw [if_neg c6] at h
          refine r_if_lt (tgt := 37) dX11_turn_23 (by decide) (fun q => absurd q c6) (fun _ => ?_)
          refine r_iload_n dX11_turn_26 rfl 3 rfl ?_
          refine r_aload_n dX11_turn_27 rfl 0 rfl ?_
          refine r_getR (j := 0) (v := 1) dX11_turn_28 f_X11_10 rfl rfl rfl ?_
          refine r_getI (j := 1) (jz := 1) dX11_turn_31 f_X11_149 rfl rfl rfl ?_
          by_cases c7 : wr a3 ≤ wr (gI M 1 1)
          · rw [if_pos c7] at h
            refine r_icmp_le (tgt := 39) dX11_turn_34 (by decide) (fun _ => ?_) (fun q => absurd c7 q)
            refine r_aload_n dX11_turn_39 rfl 0 rfl ?_
            refine r_iload_n dX11_turn_40 rfl 1 rfl ?_
            refine r_iload_n dX11_turn_41 rfl 1 rfl ?_
            obtain ⟨r9, M10, hc8, h⟩ := of_bd2 h
            refine r_callVI (st := []) dX11_turn_42 v_X11_260 (run_X11_wholeFault hc8) (by decide) (by decide) rfl rfl (Nat.le_of_ble_eq_true rfl) rfl ?_
            refine r_istore (lv2 := [(4, vI r9), (0, vR 0), (1, vI a1), (2, vI a2), (3, vI a3)]) dX11_turn_45 (by decide) rfl ?_
            refine r_iload dX11_turn_47 0 rfl ?_
            by_cases c11 : 0 ≤ wr r9
            · rw [if_pos c11] at h
              refine r_if_ge (tgt := 55) dX11_turn_49 (by decide) (fun _ => ?_) (fun q => absurd c11 q)
              refine r_aload_n dX11_turn_55 rfl 1 rfl ?_
              refine r_getR (j := 6) (v := 28) dX11_turn_56 f_X11_54 rfl rfl rfl ?_
              refine r_aload_n dX11_turn_59 rfl 1 rfl ?_
              refine r_getR (j := 0) (v := 1) dX11_turn_60 f_X11_10 rfl rfl rfl ?_
              refine r_aload_n dX11_turn_63 rfl 1 rfl ?_
              refine r_getR (j := 8) (v := 37) dX11_turn_64 f_X11_67 rfl rfl rfl ?_
              refine r_iload_n dX11_turn_67 rfl 2 rfl ?_
              obtain ⟨c12, h⟩ := of_ck h
              refine r_aald3 dX11_turn_68 rfl c12 (slo_el c12).1 ?_
              refine r_iload_n dX11_turn_69 rfl 3 rfl ?_
              refine r_iload_n dX11_turn_70 rfl 4 rfl ?_
              obtain ⟨r14, hc13, h⟩ := of_bd1 h
              refine r_callVI (st := []) dX11_turn_71 v_X11_270 (run_X1_wayOfTurn (slo_el (M := M10) c12).2 hc13) (by decide) (by decide) rfl rfl (Nat.le_of_ble_eq_true rfl) rfl ?_
              refine r_istore (lv2 := [(5, vI r14), (4, vI r9), (0, vR 0), (1, vI a1), (2, vI a2), (3, vI a3)]) dX11_turn_74 (by decide) rfl ?_
              refine r_iload dX11_turn_76 0 rfl ?_
              by_cases c15 : 0 ≤ wr r14
              · rw [if_pos c15] at h
                refine r_if_ge (tgt := 84) dX11_turn_78 (by decide) (fun _ => ?_) (fun q => absurd c15 q)
                refine r_aload_n dX11_turn_84 rfl 2 rfl ?_
                refine r_getR (j := 6) (v := 28) dX11_turn_85 f_X11_54 rfl rfl rfl ?_
                refine r_aload_n dX11_turn_88 rfl 2 rfl ?_
                refine r_getR (j := 0) (v := 1) dX11_turn_89 f_X11_10 rfl rfl rfl ?_
                refine r_aload_n dX11_turn_92 rfl 2 rfl ?_
                refine r_getR (j := 8) (v := 37) dX11_turn_93 f_X11_67 rfl rfl rfl ?_
                refine r_iload_n dX11_turn_96 rfl 3 rfl ?_
                refine r_aald3 dX11_turn_97 rfl c12 (slo_el c12).1 ?_
                refine r_iload_n dX11_turn_98 rfl 4 rfl ?_
                refine r_iload_n dX11_turn_99 rfl 5 rfl ?_
                obtain ⟨M17, hc16, h⟩ := of_bd1 h
                refine r_callVV (st := []) dX11_turn_100 v_X11_274 (run_X1_makeTurn (slo_el (M := M10) c12).2 hc16) (by decide) (by decide) rfl rfl (Nat.le_of_ble_eq_true rfl) rfl ?_
                refine r_iload dX11_turn_103 0 rfl ?_
                cases h
                exact hQ _ _ dX11_turn_105
              · rw [if_neg c15] at h
                refine r_if_ge (tgt := 84) dX11_turn_78 (by decide) (fun q => absurd q c15) (fun _ => ?_)
                refine r_bipush dX11_turn_81 (by decide) ?_
                cases h
                exact hQ _ _ dX11_turn_83
            · rw [if_neg c11] at h
              refine r_if_ge (tgt := 55) dX11_turn_49 (by decide) (fun q => absurd q c11) (fun _ => ?_)
              refine r_iload dX11_turn_52 0 rfl ?_
              cases h
              exact hQ _ _ dX11_turn_54
          · rw [if_neg c7] at h
            refine r_icmp_le (tgt := 39) dX11_turn_34 (by decide) (fun q => absurd q c7) (fun _ => ?_)
            refine r_iconst dX11_turn_37 ?_
            cases h
            exact hQ _ _ dX11_turn_38

def m_X11_turns (M : Mem) (a1 : Int) (a2 : Int) : Option (Int × Mem) :=
  bd1 (m_X11_isSlot a1) fun b2 =>
  if wr (bI b2) = 0 then
    some ((-1), M)
  else
    if wr a2 = 0 then
      bd2 (m_X11_wholeFault M a1 a1) fun r6 M7 =>
      bd1 (
        if 0 ≤ wr r6 then
          if 0 ≤ wr a1 ∧ wr a1 < 4 then
          bd1 (m_X1_turnsOfWay M7 (39 + 2 * (wr a1).toNat) a2) fun r11 =>
          some (r11)
          else none
        else
          some (r6)) fun (v12 : Int) =>
      some (v12, M7)
    else
      if wr a2 = wr 1 then
        bd2 (m_X11_wholeFault M a1 a1) fun r15 M16 =>
        bd1 (
          if 0 ≤ wr r15 then
            if 0 ≤ wr a1 ∧ wr a1 < 4 then
            bd1 (m_X1_turnsOfWay M16 (39 + 2 * (wr a1).toNat) a2) fun r20 =>
            some (r20)
            else none
          else
            some (r15)) fun (v21 : Int) =>
        some (v21, M16)
      else
        some ((-1), M)
set_option maxRecDepth 10000 in
theorem run_X11_turns {M : Mem} {M2 : Mem} {a1 : Int} {a2 : Int} {r : Int}   (h : m_X11_turns M a1 a2 = some (r, M2)) : RunI 5 yX11_turns cX11_turns 4 (some .int) [vR 0, vI a1, vI a2] M r M2 := by
  refine runI_of (lv := [(0, vR 0), (1, vI a1), (2, vI a2)]) (by decide +kernel) (Or.inl rfl) (Nat.le_of_ble_eq_true rfl) rfl ?_
  intro G hQ
  unfold m_X11_turns at h
  refine r_iload_n dX11_turns_0 rfl 1 rfl ?_
  obtain ⟨b2, hc1, h⟩ := of_bd1 h
  refine r_callSI (st := []) dX11_turns_1 v_X11_194 (run_X11_isSlot hc1) (by decide) (by decide) rfl (Nat.le_of_ble_eq_true rfl) rfl ?_
  by_cases c3 : wr (bI b2) = 0
  · rw [if_pos c3] at h
    refine r_if_eq (tgt := 16) dX11_turns_4 (by decide) (fun _ => ?_) (fun q => absurd c3 q)
    refine r_iconst dX11_turns_16 ?_
    cases h
    exact hQ _ _ dX11_turns_17
  · rw [if_neg c3] at h
    refine r_if_eq (tgt := 16) dX11_turns_4 (by decide) (fun q => absurd q c3) (fun _ => ?_)
    refine r_iload_n dX11_turns_7 rfl 2 rfl ?_
    by_cases c4 : wr a2 = 0
    · rw [if_pos c4] at h
      refine r_if_eq (tgt := 18) dX11_turns_8 (by decide) (fun _ => ?_) (fun q => absurd c4 q)
      refine r_aload_n dX11_turns_18 rfl 0 rfl ?_
      refine r_iload_n dX11_turns_19 rfl 1 rfl ?_
      refine r_iload_n dX11_turns_20 rfl 1 rfl ?_
      obtain ⟨r6, M7, hc5, h⟩ := of_bd2 h
      refine r_callVI (st := []) dX11_turns_21 v_X11_260 (run_X11_wholeFault hc5) (by decide) (by decide) rfl rfl (Nat.le_of_ble_eq_true rfl) rfl ?_
      refine r_istore_n (lv2 := [(3, vI r6), (0, vR 0), (1, vI a1), (2, vI a2)]) dX11_turns_24 rfl (by decide) rfl ?_
      refine r_iload_n dX11_turns_25 rfl 0 rfl ?_
      obtain ⟨v12, h9, h⟩ := of_bd1 h
      have kJ : Ex G 5 cX11_turns RX11 4 51 [] [vI v12] M7 := by
        cases h
        exact hQ _ _ dX11_turns_51
      clear h
      have h := h9
      clear h9
      by_cases c8 : 0 ≤ wr r6
      · rw [if_pos c8] at h
        refine r_if_ge (tgt := 33) dX11_turns_26 (by decide) (fun _ => ?_) (fun q => absurd c8 q)
        refine r_aload_n dX11_turns_33 rfl 1 rfl ?_
        refine r_getR (j := 6) (v := 28) dX11_turns_34 f_X11_54 rfl rfl rfl ?_
        refine r_aload_n dX11_turns_37 rfl 1 rfl ?_
        refine r_getR (j := 0) (v := 1) dX11_turns_38 f_X11_10 rfl rfl rfl ?_
        refine r_aload_n dX11_turns_41 rfl 1 rfl ?_
        refine r_getR (j := 8) (v := 37) dX11_turns_42 f_X11_67 rfl rfl rfl ?_
        refine r_iload_n dX11_turns_45 rfl 2 rfl ?_
        obtain ⟨c9, h⟩ := of_ck h
        refine r_aald3 dX11_turns_46 rfl c9 (slo_el c9).1 ?_
        refine r_iload_n dX11_turns_47 rfl 3 rfl ?_
        obtain ⟨r11, hc10, h⟩ := of_bd1 h
        refine r_callVI (st := []) dX11_turns_48 v_X11_278 (run_X1_turnsOfWay (slo_el (M := M7) c9).2 hc10) (by decide) (by decide) rfl rfl (Nat.le_of_ble_eq_true rfl) rfl ?_
        refine r_sub (lv2 := []) [] rfl ?_
        cases h
        exact kJ
      · rw [if_neg c8] at h
        refine r_if_ge (tgt := 33) dX11_turns_26 (by decide) (fun q => absurd q c8) (fun _ => ?_)
        refine r_iload_n dX11_turns_29 rfl 0 rfl ?_
        refine r_goto (tgt := 51) dX11_turns_30 (by decide) ?_
        refine r_sub (lv2 := []) [] rfl ?_
        cases h
        exact kJ
    · rw [if_neg c4] at h
      refine r_if_eq (tgt := 18) dX11_turns_8 (by decide) (fun q => absurd q c4) (fun _ => ?_)
      refine r_iload_n dX11_turns_11 rfl 2 rfl ?_
      refine r_iconst dX11_turns_12 ?_
      by_cases c13 : wr a2 = wr 1
      · rw [if_pos c13] at h
        refine r_icmp_eq (tgt := 18) dX11_turns_13 (by decide) (fun _ => ?_) (fun q => absurd c13 q)
        refine r_aload_n dX11_turns_18 rfl 0 rfl ?_
        refine r_iload_n dX11_turns_19 rfl 1 rfl ?_
        refine r_iload_n dX11_turns_20 rfl 1 rfl ?_
        obtain ⟨r15, M16, hc14, h⟩ := of_bd2 h
        refine r_callVI (st := []) dX11_turns_21 v_X11_260 (run_X11_wholeFault hc14) (by decide) (by decide) rfl rfl (Nat.le_of_ble_eq_true rfl) rfl ?_
        refine r_istore_n (lv2 := [(3, vI r15), (0, vR 0), (1, vI a1), (2, vI a2)]) dX11_turns_24 rfl (by decide) rfl ?_
        refine r_iload_n dX11_turns_25 rfl 0 rfl ?_
        obtain ⟨v21, h9, h⟩ := of_bd1 h
        have kJ : Ex G 5 cX11_turns RX11 4 51 [] [vI v21] M16 := by
          cases h
          exact hQ _ _ dX11_turns_51
        clear h
        have h := h9
        clear h9
        by_cases c17 : 0 ≤ wr r15
        · rw [if_pos c17] at h
          refine r_if_ge (tgt := 33) dX11_turns_26 (by decide) (fun _ => ?_) (fun q => absurd c17 q)
          refine r_aload_n dX11_turns_33 rfl 1 rfl ?_
          refine r_getR (j := 6) (v := 28) dX11_turns_34 f_X11_54 rfl rfl rfl ?_
          refine r_aload_n dX11_turns_37 rfl 1 rfl ?_
          refine r_getR (j := 0) (v := 1) dX11_turns_38 f_X11_10 rfl rfl rfl ?_
          refine r_aload_n dX11_turns_41 rfl 1 rfl ?_
          refine r_getR (j := 8) (v := 37) dX11_turns_42 f_X11_67 rfl rfl rfl ?_
          refine r_iload_n dX11_turns_45 rfl 2 rfl ?_
          obtain ⟨c18, h⟩ := of_ck h
          refine r_aald3 dX11_turns_46 rfl c18 (slo_el c18).1 ?_
          refine r_iload_n dX11_turns_47 rfl 3 rfl ?_
          obtain ⟨r20, hc19, h⟩ := of_bd1 h
          refine r_callVI (st := []) dX11_turns_48 v_X11_278 (run_X1_turnsOfWay (slo_el (M := M16) c18).2 hc19) (by decide) (by decide) rfl rfl (Nat.le_of_ble_eq_true rfl) rfl ?_
          refine r_sub (lv2 := []) [] rfl ?_
          cases h
          exact kJ
        · rw [if_neg c17] at h
          refine r_if_ge (tgt := 33) dX11_turns_26 (by decide) (fun q => absurd q c17) (fun _ => ?_)
          refine r_iload_n dX11_turns_29 rfl 0 rfl ?_
          refine r_goto (tgt := 51) dX11_turns_30 (by decide) ?_
          refine r_sub (lv2 := []) [] rfl ?_
          cases h
          exact kJ
      · rw [if_neg c13] at h
        refine r_icmp_eq (tgt := 18) dX11_turns_13 (by decide) (fun q => absurd q c13) (fun _ => ?_)
        refine r_iconst dX11_turns_16 ?_
        cases h
        exact hQ _ _ dX11_turns_17

def m_X11_settle (M : Mem) (a1 : Int) (a2 : Int) : Option (Int × Mem) :=
  bd1 (m_X11_isSlot a1) fun b2 =>
  if wr (bI b2) = 0 then
    some ((-1), M)
  else
    if wr a2 = 0 then
      bd2 (m_X11_wholeFault M a1 a1) fun r6 M7 =>
      bd2 (
        if 0 ≤ wr r6 then
          if 0 ≤ wr a1 ∧ wr a1 < 4 then
          bd2 (m_X1_turnAll M7 (39 + 2 * (wr a1).toNat) a2) fun r11 M12 =>
          some (r11, M12)
          else none
        else
          some (r6, M7)) fun (v13 : Int) (M14 : Mem) =>
      some (v13, M14)
    else
      if wr a2 = wr 1 then
        bd2 (m_X11_wholeFault M a1 a1) fun r17 M18 =>
        bd2 (
          if 0 ≤ wr r17 then
            if 0 ≤ wr a1 ∧ wr a1 < 4 then
            bd2 (m_X1_turnAll M18 (39 + 2 * (wr a1).toNat) a2) fun r22 M23 =>
            some (r22, M23)
            else none
          else
            some (r17, M18)) fun (v24 : Int) (M25 : Mem) =>
        some (v24, M25)
      else
        some ((-1), M)
set_option maxRecDepth 10000 in
theorem run_X11_settle {M : Mem} {M2 : Mem} {a1 : Int} {a2 : Int} {r : Int}   (h : m_X11_settle M a1 a2 = some (r, M2)) : RunI 5 yX11_settle cX11_settle 4 (some .int) [vR 0, vI a1, vI a2] M r M2 := by
  refine runI_of (lv := [(0, vR 0), (1, vI a1), (2, vI a2)]) (by decide +kernel) (Or.inl rfl) (Nat.le_of_ble_eq_true rfl) rfl ?_
  intro G hQ
  unfold m_X11_settle at h
  refine r_iload_n dX11_settle_0 rfl 1 rfl ?_
  obtain ⟨b2, hc1, h⟩ := of_bd1 h
  refine r_callSI (st := []) dX11_settle_1 v_X11_194 (run_X11_isSlot hc1) (by decide) (by decide) rfl (Nat.le_of_ble_eq_true rfl) rfl ?_
  by_cases c3 : wr (bI b2) = 0
  · rw [if_pos c3] at h
    refine r_if_eq (tgt := 16) dX11_settle_4 (by decide) (fun _ => ?_) (fun q => absurd c3 q)
    refine r_iconst dX11_settle_16 ?_
    cases h
    exact hQ _ _ dX11_settle_17
  · rw [if_neg c3] at h
    refine r_if_eq (tgt := 16) dX11_settle_4 (by decide) (fun q => absurd q c3) (fun _ => ?_)
    refine r_iload_n dX11_settle_7 rfl 2 rfl ?_
    by_cases c4 : wr a2 = 0
    · rw [if_pos c4] at h
      refine r_if_eq (tgt := 18) dX11_settle_8 (by decide) (fun _ => ?_) (fun q => absurd c4 q)
      refine r_aload_n dX11_settle_18 rfl 0 rfl ?_
      refine r_iload_n dX11_settle_19 rfl 1 rfl ?_
      refine r_iload_n dX11_settle_20 rfl 1 rfl ?_
      obtain ⟨r6, M7, hc5, h⟩ := of_bd2 h
      refine r_callVI (st := []) dX11_settle_21 v_X11_260 (run_X11_wholeFault hc5) (by decide) (by decide) rfl rfl (Nat.le_of_ble_eq_true rfl) rfl ?_
      refine r_istore_n (lv2 := [(3, vI r6), (0, vR 0), (1, vI a1), (2, vI a2)]) dX11_settle_24 rfl (by decide) rfl ?_
      refine r_iload_n dX11_settle_25 rfl 0 rfl ?_
      obtain ⟨v13, M14, h9, h⟩ := of_bd2 h
      have kJ : Ex G 5 cX11_settle RX11 4 51 [] [vI v13] M14 := by
        cases h
        exact hQ _ _ dX11_settle_51
      clear h
      have h := h9
      clear h9
      by_cases c8 : 0 ≤ wr r6
      · rw [if_pos c8] at h
        refine r_if_ge (tgt := 33) dX11_settle_26 (by decide) (fun _ => ?_) (fun q => absurd c8 q)
        refine r_aload_n dX11_settle_33 rfl 1 rfl ?_
        refine r_getR (j := 6) (v := 28) dX11_settle_34 f_X11_54 rfl rfl rfl ?_
        refine r_aload_n dX11_settle_37 rfl 1 rfl ?_
        refine r_getR (j := 0) (v := 1) dX11_settle_38 f_X11_10 rfl rfl rfl ?_
        refine r_aload_n dX11_settle_41 rfl 1 rfl ?_
        refine r_getR (j := 8) (v := 37) dX11_settle_42 f_X11_67 rfl rfl rfl ?_
        refine r_iload_n dX11_settle_45 rfl 2 rfl ?_
        obtain ⟨c9, h⟩ := of_ck h
        refine r_aald3 dX11_settle_46 rfl c9 (slo_el c9).1 ?_
        refine r_iload_n dX11_settle_47 rfl 3 rfl ?_
        obtain ⟨r11, M12, hc10, h⟩ := of_bd2 h
        refine r_callVI (st := []) dX11_settle_48 v_X11_282 (run_X1_turnAll (slo_el (M := M7) c9).2 hc10) (by decide) (by decide) rfl rfl (Nat.le_of_ble_eq_true rfl) rfl ?_
        refine r_sub (lv2 := []) [] rfl ?_
        cases h
        exact kJ
      · rw [if_neg c8] at h
        refine r_if_ge (tgt := 33) dX11_settle_26 (by decide) (fun q => absurd q c8) (fun _ => ?_)
        refine r_iload_n dX11_settle_29 rfl 0 rfl ?_
        refine r_goto (tgt := 51) dX11_settle_30 (by decide) ?_
        refine r_sub (lv2 := []) [] rfl ?_
        cases h
        exact kJ
    · rw [if_neg c4] at h
      refine r_if_eq (tgt := 18) dX11_settle_8 (by decide) (fun q => absurd q c4) (fun _ => ?_)
      refine r_iload_n dX11_settle_11 rfl 2 rfl ?_
      refine r_iconst dX11_settle_12 ?_
      by_cases c15 : wr a2 = wr 1
      · rw [if_pos c15] at h
        refine r_icmp_eq (tgt := 18) dX11_settle_13 (by decide) (fun _ => ?_) (fun q => absurd c15 q)
        refine r_aload_n dX11_settle_18 rfl 0 rfl ?_
        refine r_iload_n dX11_settle_19 rfl 1 rfl ?_
        refine r_iload_n dX11_settle_20 rfl 1 rfl ?_
        obtain ⟨r17, M18, hc16, h⟩ := of_bd2 h
        refine r_callVI (st := []) dX11_settle_21 v_X11_260 (run_X11_wholeFault hc16) (by decide) (by decide) rfl rfl (Nat.le_of_ble_eq_true rfl) rfl ?_
        refine r_istore_n (lv2 := [(3, vI r17), (0, vR 0), (1, vI a1), (2, vI a2)]) dX11_settle_24 rfl (by decide) rfl ?_
        refine r_iload_n dX11_settle_25 rfl 0 rfl ?_
        obtain ⟨v24, M25, h9, h⟩ := of_bd2 h
        have kJ : Ex G 5 cX11_settle RX11 4 51 [] [vI v24] M25 := by
          cases h
          exact hQ _ _ dX11_settle_51
        clear h
        have h := h9
        clear h9
        by_cases c19 : 0 ≤ wr r17
        · rw [if_pos c19] at h
          refine r_if_ge (tgt := 33) dX11_settle_26 (by decide) (fun _ => ?_) (fun q => absurd c19 q)
          refine r_aload_n dX11_settle_33 rfl 1 rfl ?_
          refine r_getR (j := 6) (v := 28) dX11_settle_34 f_X11_54 rfl rfl rfl ?_
          refine r_aload_n dX11_settle_37 rfl 1 rfl ?_
          refine r_getR (j := 0) (v := 1) dX11_settle_38 f_X11_10 rfl rfl rfl ?_
          refine r_aload_n dX11_settle_41 rfl 1 rfl ?_
          refine r_getR (j := 8) (v := 37) dX11_settle_42 f_X11_67 rfl rfl rfl ?_
          refine r_iload_n dX11_settle_45 rfl 2 rfl ?_
          obtain ⟨c20, h⟩ := of_ck h
          refine r_aald3 dX11_settle_46 rfl c20 (slo_el c20).1 ?_
          refine r_iload_n dX11_settle_47 rfl 3 rfl ?_
          obtain ⟨r22, M23, hc21, h⟩ := of_bd2 h
          refine r_callVI (st := []) dX11_settle_48 v_X11_282 (run_X1_turnAll (slo_el (M := M18) c20).2 hc21) (by decide) (by decide) rfl rfl (Nat.le_of_ble_eq_true rfl) rfl ?_
          refine r_sub (lv2 := []) [] rfl ?_
          cases h
          exact kJ
        · rw [if_neg c19] at h
          refine r_if_ge (tgt := 33) dX11_settle_26 (by decide) (fun q => absurd q c19) (fun _ => ?_)
          refine r_iload_n dX11_settle_29 rfl 0 rfl ?_
          refine r_goto (tgt := 51) dX11_settle_30 (by decide) ?_
          refine r_sub (lv2 := []) [] rfl ?_
          cases h
          exact kJ
      · rw [if_neg c15] at h
        refine r_icmp_eq (tgt := 18) dX11_settle_13 (by decide) (fun q => absurd q c15) (fun _ => ?_)
        refine r_iconst dX11_settle_16 ?_
        cases h
        exact hQ _ _ dX11_settle_17

def m_X11_far (M : Mem) (a1 : Int) (a2 : Int) : Option (Int × Mem) :=
  bd2 (m_X11_wholeFault M a1 a2) fun r2 M3 =>
  bd2 (
    if 0 ≤ wr r2 then
      if 0 ≤ wr a1 ∧ wr a1 < 4 then
      if 0 ≤ wr a2 ∧ wr a2 < 4 then
      bd2 (m_X1_distance M3 (39 + 2 * (wr a1).toNat) (39 + 2 * (wr a2).toNat)) fun r8 M9 =>
      some (r8, M9)
      else none
      else none
    else
      some (r2, M3)) fun (v10 : Int) (M11 : Mem) =>
  some (v10, M11)
set_option maxRecDepth 10000 in
theorem run_X11_far {M : Mem} {M2 : Mem} {a1 : Int} {a2 : Int} {r : Int}   (h : m_X11_far M a1 a2 = some (r, M2)) : RunI 5 yX11_far cX11_far 4 (some .int) [vR 0, vI a1, vI a2] M r M2 := by
  refine runI_of (lv := [(0, vR 0), (1, vI a1), (2, vI a2)]) (by decide +kernel) (Or.inl rfl) (Nat.le_of_ble_eq_true rfl) rfl ?_
  intro G hQ
  unfold m_X11_far at h
  refine r_aload_n dX11_far_0 rfl 0 rfl ?_
  refine r_iload_n dX11_far_1 rfl 1 rfl ?_
  refine r_iload_n dX11_far_2 rfl 2 rfl ?_
  obtain ⟨r2, M3, hc1, h⟩ := of_bd2 h
  refine r_callVI (st := []) dX11_far_3 v_X11_260 (run_X11_wholeFault hc1) (by decide) (by decide) rfl rfl (Nat.le_of_ble_eq_true rfl) rfl ?_
  refine r_istore_n (lv2 := [(3, vI r2), (0, vR 0), (1, vI a1), (2, vI a2)]) dX11_far_6 rfl (by decide) rfl ?_
  refine r_iload_n dX11_far_7 rfl 0 rfl ?_
  obtain ⟨v10, M11, h9, h⟩ := of_bd2 h
  have kJ : Ex G 5 cX11_far RX11 4 38 [] [vI v10] M11 := by
    cases h
    exact hQ _ _ dX11_far_38
  clear h
  have h := h9
  clear h9
  by_cases c4 : 0 ≤ wr r2
  · rw [if_pos c4] at h
    refine r_if_ge (tgt := 15) dX11_far_8 (by decide) (fun _ => ?_) (fun q => absurd c4 q)
    refine r_aload_n dX11_far_15 rfl 1 rfl ?_
    refine r_getR (j := 6) (v := 28) dX11_far_16 f_X11_54 rfl rfl rfl ?_
    refine r_aload_n dX11_far_19 rfl 1 rfl ?_
    refine r_getR (j := 0) (v := 1) dX11_far_20 f_X11_10 rfl rfl rfl ?_
    refine r_aload_n dX11_far_23 rfl 1 rfl ?_
    refine r_getR (j := 8) (v := 37) dX11_far_24 f_X11_67 rfl rfl rfl ?_
    refine r_iload_n dX11_far_27 rfl 2 rfl ?_
    obtain ⟨c5, h⟩ := of_ck h
    refine r_aald3 dX11_far_28 rfl c5 (slo_el c5).1 ?_
    refine r_aload_n dX11_far_29 rfl 1 rfl ?_
    refine r_getR (j := 8) (v := 37) dX11_far_30 f_X11_67 rfl rfl rfl ?_
    refine r_iload_n dX11_far_33 rfl 3 rfl ?_
    obtain ⟨c6, h⟩ := of_ck h
    refine r_aald3 dX11_far_34 rfl c6 (slo_el c6).1 ?_
    obtain ⟨r8, M9, hc7, h⟩ := of_bd2 h
    refine r_callVI (st := []) dX11_far_35 v_X11_285 (run_X1_distance (slo_el (M := M3) c5).2 (slo_el (M := M3) c6).2 hc7) (by decide) (by decide) rfl rfl (Nat.le_of_ble_eq_true rfl) rfl ?_
    refine r_sub (lv2 := []) [] rfl ?_
    cases h
    exact kJ
  · rw [if_neg c4] at h
    refine r_if_ge (tgt := 15) dX11_far_8 (by decide) (fun q => absurd q c4) (fun _ => ?_)
    refine r_iload_n dX11_far_11 rfl 0 rfl ?_
    refine r_goto (tgt := 38) dX11_far_12 (by decide) ?_
    refine r_sub (lv2 := []) [] rfl ?_
    cases h
    exact kJ

