def m_X11_toward (M : Mem) (a1 : Int) (a2 : Int) : Option (Int × Mem) :=
  bd2 (m_X11_wholeFault M a1 a2) fun r2 M3 =>
  if 0 ≤ wr r2 then
    if 0 ≤ wr a1 ∧ wr a1 < 4 then
    if 0 ≤ wr a2 ∧ wr a2 < 4 then
    bd2 (m_X1_turnToward M3 (39 + 2 * (wr a1).toNat) (39 + 2 * (wr a2).toNat)) fun r8 M9 =>
    lt (if 0 ≤ wr r8 then r8 else (-2)) fun (v11 : Int) =>
    some (v11, M9)
    else none
    else none
  else
    some (r2, M3)
set_option maxRecDepth 10000 in
theorem run_X11_toward {M : Mem} {M2 : Mem} {a1 : Int} {a2 : Int} {r : Int}   (h : m_X11_toward M a1 a2 = some (r, M2)) : RunI 5 yX11_toward cX11_toward 5 (some .int) [vR 0, vI a1, vI a2] M r M2 := by
  refine runI_of (lv := [(0, vR 0), (1, vI a1), (2, vI a2)]) (by decide +kernel) (Or.inl rfl) (Nat.le_of_ble_eq_true rfl) rfl ?_
  intro G hQ
  unfold m_X11_toward at h
  refine r_aload_n dX11_toward_0 rfl 0 rfl ?_
  refine r_iload_n dX11_toward_1 rfl 1 rfl ?_
  refine r_iload_n dX11_toward_2 rfl 2 rfl ?_
  obtain ⟨r2, M3, hc1, h⟩ := of_bd2 h
  refine r_callVI (st := []) dX11_toward_3 v_X11_260 (run_X11_wholeFault hc1) (by decide) (by decide) rfl rfl (Nat.le_of_ble_eq_true rfl) rfl ?_
  refine r_istore_n (lv2 := [(3, vI r2), (0, vR 0), (1, vI a1), (2, vI a2)]) dX11_toward_6 rfl (by decide) rfl ?_
  refine r_iload_n dX11_toward_7 rfl 0 rfl ?_
  by_cases c4 : 0 ≤ wr r2
  · rw [if_pos c4] at h
    refine r_if_ge (tgt := 13) dX11_toward_8 (by decide) (fun _ => ?_) (fun q => absurd c4 q)
    refine r_aload_n dX11_toward_13 rfl 1 rfl ?_
    refine r_getR (j := 6) (v := 28) dX11_toward_14 f_X11_54 rfl rfl rfl ?_
    refine r_aload_n dX11_toward_17 rfl 1 rfl ?_
    refine r_getR (j := 0) (v := 1) dX11_toward_18 f_X11_10 rfl rfl rfl ?_
    refine r_aload_n dX11_toward_21 rfl 1 rfl ?_
    refine r_getR (j := 8) (v := 37) dX11_toward_22 f_X11_67 rfl rfl rfl ?_
    refine r_iload_n dX11_toward_25 rfl 2 rfl ?_
    obtain ⟨c5, h⟩ := of_ck h
    refine r_aald3 dX11_toward_26 rfl c5 (slo_el c5).1 ?_
    refine r_aload_n dX11_toward_27 rfl 1 rfl ?_
    refine r_getR (j := 8) (v := 37) dX11_toward_28 f_X11_67 rfl rfl rfl ?_
    refine r_iload_n dX11_toward_31 rfl 3 rfl ?_
    obtain ⟨c6, h⟩ := of_ck h
    refine r_aald3 dX11_toward_32 rfl c6 (slo_el c6).1 ?_
    obtain ⟨r8, M9, hc7, h⟩ := of_bd2 h
    refine r_callVI (st := []) dX11_toward_33 v_X11_289 (run_X1_turnToward (slo_el (M := M3) c5).2 (slo_el (M := M3) c6).2 hc7) (by decide) (by decide) rfl rfl (Nat.le_of_ble_eq_true rfl) rfl ?_
    refine r_istore (lv2 := [(4, vI r8), (3, vI r2), (0, vR 0), (1, vI a1), (2, vI a2)]) dX11_toward_36 (by decide) rfl ?_
    refine r_iload dX11_toward_38 0 rfl ?_
    obtain ⟨v11, ev11, h⟩ := of_lt h
    have kJ : Ex G 5 cX11_toward RX11 5 50 [] [vI v11] M9 := by
      cases h
      exact hQ _ _ dX11_toward_50
    clear h
    by_cases c10 : 0 ≤ wr r8
    · skip
      refine r_if_ge (tgt := 48) dX11_toward_40 (by decide) (fun _ => ?_) (fun q => absurd c10 q)
      refine r_iload dX11_toward_48 0 rfl ?_
      rw [show v11 = r8 from by rw [ev11, if_pos c10]] at kJ
      refine r_sub (lv2 := []) [] rfl ?_
      exact kJ
    · skip
      refine r_if_ge (tgt := 48) dX11_toward_40 (by decide) (fun q => absurd q c10) (fun _ => ?_)
      refine r_bipush dX11_toward_43 (by decide) ?_
      refine r_goto (tgt := 50) dX11_toward_45 (by decide) ?_
      rw [show v11 = (-2) from by rw [ev11, if_neg c10]] at kJ
      refine r_sub (lv2 := []) [] rfl ?_
      exact kJ
  · rw [if_neg c4] at h
    refine r_if_ge (tgt := 13) dX11_toward_8 (by decide) (fun q => absurd q c4) (fun _ => ?_)
    refine r_iload_n dX11_toward_11 rfl 0 rfl ?_
    cases h
    exact hQ _ _ dX11_toward_12

def m_X11_lines (M : Mem) (a1 : Int) : Option (Int) :=
  bd1 (m_X11_slotFault M a1) fun r2 =>
  bd1 (
    if 0 ≤ wr r2 then
      if 0 ≤ wr a1 ∧ wr a1 < 4 then
      bd1 (m_X3_linesNotCrossed M (39 + 2 * (wr a1).toNat)) fun r6 =>
      some (r6)
      else none
    else
      some (r2)) fun (v7 : Int) =>
  some v7
set_option maxRecDepth 10000 in
theorem run_X11_lines {M : Mem} {a1 : Int} {r : Int}   (h : m_X11_lines M a1 = some r) : RunI 3 yX11_lines cX11_lines 3 (some .int) [vR 0, vI a1] M r M := by
  refine runI_of (lv := [(0, vR 0), (1, vI a1)]) (by decide +kernel) (Or.inl rfl) (Nat.le_of_ble_eq_true rfl) rfl ?_
  intro G hQ
  unfold m_X11_lines at h
  refine r_aload_n dX11_lines_0 rfl 0 rfl ?_
  refine r_iload_n dX11_lines_1 rfl 1 rfl ?_
  obtain ⟨r2, hc1, h⟩ := of_bd1 h
  refine r_callVI (st := []) dX11_lines_2 v_X11_201 (run_X11_slotFault hc1) (by decide) (by decide) rfl rfl (Nat.le_of_ble_eq_true rfl) rfl ?_
  refine r_istore_n (lv2 := [(2, vI r2), (0, vR 0), (1, vI a1)]) dX11_lines_5 rfl (by decide) rfl ?_
  refine r_iload_n dX11_lines_6 rfl 0 rfl ?_
  obtain ⟨v7, h9, h⟩ := of_bd1 h
  have kJ : Ex G 3 cX11_lines RX11 3 27 [] [vI v7] M := by
    cases h
    exact hQ _ _ dX11_lines_27
  clear h
  have h := h9
  clear h9
  by_cases c3 : 0 ≤ wr r2
  · rw [if_pos c3] at h
    refine r_if_ge (tgt := 14) dX11_lines_7 (by decide) (fun _ => ?_) (fun q => absurd c3 q)
    refine r_aload_n dX11_lines_14 rfl 1 rfl ?_
    refine r_getR (j := 8) (v := 37) dX11_lines_15 f_X11_67 rfl rfl rfl ?_
    refine r_iload_n dX11_lines_18 rfl 2 rfl ?_
    obtain ⟨c4, h⟩ := of_ck h
    refine r_aald3 dX11_lines_19 rfl c4 (slo_el c4).1 ?_
    refine r_aload_n dX11_lines_20 rfl 1 rfl ?_
    refine r_getR (j := 0) (v := 1) dX11_lines_21 f_X11_10 rfl rfl rfl ?_
    obtain ⟨r6, hc5, h⟩ := of_bd1 h
    refine r_callVI (st := []) dX11_lines_24 v_X11_292 (run_X3_linesNotCrossed (slo_el (M := M) c4).2 hc5) (by decide) (by decide) (slo_el (M := M) c4).2 rfl (Nat.le_of_ble_eq_true rfl) rfl ?_
    refine r_sub (lv2 := []) [] rfl ?_
    cases h
    exact kJ
  · rw [if_neg c3] at h
    refine r_if_ge (tgt := 14) dX11_lines_7 (by decide) (fun q => absurd q c3) (fun _ => ?_)
    refine r_iload_n dX11_lines_10 rfl 0 rfl ?_
    refine r_goto (tgt := 27) dX11_lines_11 (by decide) ?_
    refine r_sub (lv2 := []) [] rfl ?_
    cases h
    exact kJ

def m_X11_sound (M : Mem) : Option (Int64 × Mem) :=
  bd2 (m_X0_countSound M) fun r2 M3 =>
  some (r2, M3)
set_option maxRecDepth 10000 in
theorem run_X11_sound {M : Mem} {M2 : Mem} {r : Int64}   (h : m_X11_sound M = some (r, M2)) : RunL 3 yX11_sound cX11_sound 1 (some .long) [vR 0] M r M2 := by
  refine runL_of (lv := [(0, vR 0)]) (by decide +kernel) rfl (Nat.le_of_ble_eq_true rfl) rfl ?_
  intro G hQ
  unfold m_X11_sound at h
  refine r_aload_n dX11_sound_0 rfl 0 rfl ?_
  refine r_getR (j := 3) (v := 14) dX11_sound_1 f_X11_33 rfl rfl rfl ?_
  refine r_aload_n dX11_sound_4 rfl 0 rfl ?_
  refine r_getR (j := 0) (v := 1) dX11_sound_5 f_X11_10 rfl rfl rfl ?_
  obtain ⟨r2, M3, hc1, h⟩ := of_bd2 h
  refine r_callVL (st := []) dX11_sound_8 v_X11_295 (run_X0_countSound hc1) (by decide) (by decide) rfl rfl (Nat.le_of_ble_eq_true rfl) rfl ?_
  cases h
  exact hQ _ _ dX11_sound_11

def m_X11_rings (M : Mem) (a1 : Int) (a2 : Int) : Option (Int × Mem) :=
  bd1 (m_X11_slotsFault M a1 a2) fun r2 =>
  bd2 (
    if 0 ≤ wr r2 then
      if 0 ≤ wr a1 ∧ wr a1 < 4 then
      if 0 ≤ wr a2 ∧ wr a2 < 4 then
      bd2 (m_X4_trace M (39 + 2 * (wr a1).toNat) (39 + 2 * (wr a2).toNat)) fun r7 M8 =>
      some (r7, M8)
      else none
      else none
    else
      some (r2, M)) fun (v9 : Int) (M10 : Mem) =>
  some (v9, M10)
set_option maxRecDepth 10000 in
theorem run_X11_rings {M : Mem} {M2 : Mem} {a1 : Int} {a2 : Int} {r : Int}   (h : m_X11_rings M a1 a2 = some (r, M2)) : RunI 5 yX11_rings cX11_rings 4 (some .int) [vR 0, vI a1, vI a2] M r M2 := by
  refine runI_of (lv := [(0, vR 0), (1, vI a1), (2, vI a2)]) (by decide +kernel) (Or.inl rfl) (Nat.le_of_ble_eq_true rfl) rfl ?_
  intro G hQ
  unfold m_X11_rings at h
  refine r_aload_n dX11_rings_0 rfl 0 rfl ?_
  refine r_iload_n dX11_rings_1 rfl 1 rfl ?_
  refine r_iload_n dX11_rings_2 rfl 2 rfl ?_
  obtain ⟨r2, hc1, h⟩ := of_bd1 h
  refine r_callVI (st := []) dX11_rings_3 v_X11_298 (run_X11_slotsFault hc1) (by decide) (by decide) rfl rfl (Nat.le_of_ble_eq_true rfl) rfl ?_
  refine r_istore_n (lv2 := [(3, vI r2), (0, vR 0), (1, vI a1), (2, vI a2)]) dX11_rings_6 rfl (by decide) rfl ?_
  refine r_iload_n dX11_rings_7 rfl 0 rfl ?_
  obtain ⟨v9, M10, h9, h⟩ := of_bd2 h
  have kJ : Ex G 5 cX11_rings RX11 4 38 [] [vI v9] M10 := by
    cases h
    exact hQ _ _ dX11_rings_38
  clear h
  have h := h9
  clear h9
  by_cases c3 : 0 ≤ wr r2
  · rw [if_pos c3] at h
    refine r_if_ge (tgt := 15) dX11_rings_8 (by decide) (fun _ => ?_) (fun q => absurd c3 q)
    refine r_aload_n dX11_rings_15 rfl 1 rfl ?_
    refine r_getR (j := 7) (v := 34) dX11_rings_16 f_X11_61 rfl rfl rfl ?_
    refine r_aload_n dX11_rings_19 rfl 1 rfl ?_
    refine r_getR (j := 0) (v := 1) dX11_rings_20 f_X11_10 rfl rfl rfl ?_
    refine r_aload_n dX11_rings_23 rfl 1 rfl ?_
    refine r_getR (j := 8) (v := 37) dX11_rings_24 f_X11_67 rfl rfl rfl ?_
    refine r_iload_n dX11_rings_27 rfl 2 rfl ?_
    obtain ⟨c4, h⟩ := of_ck h
    refine r_aald3 dX11_rings_28 rfl c4 (slo_el c4).1 ?_
    refine r_aload_n dX11_rings_29 rfl 1 rfl ?_
    refine r_getR (j := 8) (v := 37) dX11_rings_30 f_X11_67 rfl rfl rfl ?_
    refine r_iload_n dX11_rings_33 rfl 3 rfl ?_
    obtain ⟨c5, h⟩ := of_ck h
    refine r_aald3 dX11_rings_34 rfl c5 (slo_el c5).1 ?_
    obtain ⟨r7, M8, hc6, h⟩ := of_bd2 h
    refine r_callVI (st := []) dX11_rings_35 v_X11_301 (run_X4_trace (slo_el (M := M) c4).2 (slo_el (M := M) c5).2 hc6) (by decide) (by decide) rfl rfl (Nat.le_of_ble_eq_true rfl) rfl ?_
    refine r_sub (lv2 := []) [] rfl ?_
    cases h
    exact kJ
  · rw [if_neg c3] at h
    refine r_if_ge (tgt := 15) dX11_rings_8 (by decide) (fun q => absurd q c3) (fun _ => ?_)
    refine r_iload_n dX11_rings_11 rfl 0 rfl ?_
    refine r_goto (tgt := 38) dX11_rings_12 (by decide) ?_
    refine r_sub (lv2 := []) [] rfl ?_
    cases h
    exact kJ

def m_X11_ringFault (M : Mem) (a1 : Int) (a2 : Int) (a3 : Int) : Option (Int × Mem) :=
  if 0 ≤ wr a3 then
    bd1 (m_X11_slotsFault M a1 a2) fun r3 =>
    if 0 ≤ wr r3 then
      if 0 ≤ wr a1 ∧ wr a1 < 4 then
      if 0 ≤ wr a2 ∧ wr a2 < 4 then
      bd2 (m_X4_trace M (39 + 2 * (wr a1).toNat) (39 + 2 * (wr a2).toNat)) fun r8 M9 =>
      lt (if wr r8 ≤ wr a3 then (-1) else 0) fun (v11 : Int) =>
      some (v11, M9)
      else none
      else none
    else
      some (r3, M)
  else
    some ((-1), M)
set_option maxRecDepth 10000 in
theorem run_X11_ringFault {M : Mem} {M2 : Mem} {a1 : Int} {a2 : Int} {a3 : Int} {r : Int}   (h : m_X11_ringFault M a1 a2 a3 = some (r, M2)) : RunI 5 yX11_ringFault cX11_ringFault 5 (some .int) [vR 0, vI a1, vI a2, vI a3] M r M2 := by
  refine runI_of (lv := [(0, vR 0), (1, vI a1), (2, vI a2), (3, vI a3)]) (by decide +kernel) (Or.inl rfl) (Nat.le_of_ble_eq_true rfl) rfl ?_
  intro G hQ
  unfold m_X11_ringFault at h
  refine r_iload_n dX11_ringFault_0 rfl 3 rfl ?_
  by_cases c1 : 0 ≤ wr a3
  · rw [if_pos c1] at h
    refine r_if_ge (tgt := 6) dX11_ringFault_1 (by decide) (fun _ => ?_) (fun q => absurd c1 q)
    refine r_aload_n dX11_ringFault_6 rfl 0 rfl ?_
    refine r_iload_n dX11_ringFault_7 rfl 1 rfl ?_
    refine r_iload_n dX11_ringFault_8 rfl 2 rfl ?_
    obtain ⟨r3, hc2, h⟩ := of_bd1 h
    refine r_callVI (st := []) dX11_ringFault_9 v_X11_298 (run_X11_slotsFault hc2) (by decide) (by decide) rfl rfl (Nat.le_of_ble_eq_true rfl) rfl ?_
    refine r_istore (lv2 := [(4, vI r3), (0, vR 0), (1, vI a1), (2, vI a2), (3, vI a3)]) dX11_ringFault_12 (by decide) rfl ?_
    refine r_iload dX11_ringFault_14 0 rfl ?_
    by_cases c4 : 0 ≤ wr r3
    · rw [if_pos c4] at h
      refine r_if_ge (tgt := 22) dX11_ringFault_16 (by decide) (fun _ => ?_) (fun q => absurd c4 q)
      refine r_iload_n dX11_ringFault_22 rfl 4 rfl ?_
      refine r_aload_n dX11_ringFault_23 rfl 1 rfl ?_
      refine r_getR (j := 7) (v := 34) dX11_ringFault_24 f_X11_61 rfl rfl rfl ?_
      refine r_aload_n dX11_ringFault_27 rfl 1 rfl ?_
      refine r_getR (j := 0) (v := 1) dX11_ringFault_28 f_X11_10 rfl rfl rfl ?_
      refine r_aload_n dX11_ringFault_31 rfl 1 rfl ?_
      refine r_getR (j := 8) (v := 37) dX11_ringFault_32 f_X11_67 rfl rfl rfl ?_
      refine r_iload_n dX11_ringFault_35 rfl 2 rfl ?_
      obtain ⟨c5, h⟩ := of_ck h
      refine r_aald3 dX11_ringFault_36 rfl c5 (slo_el c5).1 ?_
      refine r_aload_n dX11_ringFault_37 rfl 1 rfl ?_
      refine r_getR (j := 8) (v := 37) dX11_ringFault_38 f_X11_67 rfl rfl rfl ?_
      refine r_iload_n dX11_ringFault_41 rfl 3 rfl ?_
      obtain ⟨c6, h⟩ := of_ck h
      refine r_aald3 dX11_ringFault_42 rfl c6 (slo_el c6).1 ?_
      obtain ⟨r8, M9, hc7, h⟩ := of_bd2 h
      refine r_callVI (st := [vI a3]) dX11_ringFault_43 v_X11_301 (run_X4_trace (slo_el (M := M) c5).2 (slo_el (M := M) c6).2 hc7) (by decide) (by decide) rfl rfl (Nat.le_of_ble_eq_true rfl) rfl ?_
      obtain ⟨v11, ev11, h⟩ := of_lt h
      have kJ : Ex G 5 cX11_ringFault RX11 5 54 [] [vI v11] M9 := by
        cases h
        exact hQ _ _ dX11_ringFault_54
      clear h
      by_cases c10 : wr r8 ≤ wr a3
      · skip
        refine r_icmp_ge (tgt := 53) dX11_ringFault_46 (by decide) (fun _ => ?_) (fun q => absurd c10 q)
        refine r_iconst dX11_ringFault_53 ?_
        rw [show v11 = (-1) from by rw [ev11, if_pos c10]] at kJ
        refine r_sub (lv2 := []) [] rfl ?_
        exact kJ
      · skip
        refine r_icmp_ge (tgt := 53) dX11_ringFault_46 (by decide) (fun q => absurd q c10) (fun _ => ?_)
        refine r_iconst dX11_ringFault_49 ?_
        refine r_goto (tgt := 54) dX11_ringFault_50 (by decide) ?_
        rw [show v11 = 0 from by rw [ev11, if_neg c10]] at kJ
        refine r_sub (lv2 := []) [] rfl ?_
        exact kJ
    · rw [if_neg c4] at h
      refine r_if_ge (tgt := 22) dX11_ringFault_16 (by decide) (fun q => absurd q c4) (fun _ => ?_)
      refine r_iload dX11_ringFault_19 0 rfl ?_
      cases h
      exact hQ _ _ dX11_ringFault_21
  · rw [if_neg c1] at h
    refine r_if_ge (tgt := 6) dX11_ringFault_1 (by decide) (fun q => absurd q c1) (fun _ => ?_)
    refine r_iconst dX11_ringFault_4 ?_
    cases h
    exact hQ _ _ dX11_ringFault_5

def m_X11_ring (M : Mem) (a1 : Int) (a2 : Int) (a3 : Int) : Option (Int × Mem) :=
  bd2 (m_X11_ringFault M a1 a2 a3) fun r2 M3 =>
  bd1 (
    if 0 ≤ wr r2 then
      if 0 ≤ wr a3 ∧ wr a3 < 64 then
      some ((gI M3 35 (wr a3)))
      else none
    else
      some (r2)) fun (v6 : Int) =>
  some (v6, M3)
set_option maxRecDepth 10000 in
theorem run_X11_ring {M : Mem} {M2 : Mem} {a1 : Int} {a2 : Int} {a3 : Int} {r : Int}   (h : m_X11_ring M a1 a2 a3 = some (r, M2)) : RunI 6 yX11_ring cX11_ring 5 (some .int) [vR 0, vI a1, vI a2, vI a3] M r M2 := by
  refine runI_of (lv := [(0, vR 0), (1, vI a1), (2, vI a2), (3, vI a3)]) (by decide +kernel) (Or.inl rfl) (Nat.le_of_ble_eq_true rfl) rfl ?_
  intro G hQ
  unfold m_X11_ring at h
  refine r_aload_n dX11_ring_0 rfl 0 rfl ?_
  refine r_iload_n dX11_ring_1 rfl 1 rfl ?_
  refine r_iload_n dX11_ring_2 rfl 2 rfl ?_
  refine r_iload_n dX11_ring_3 rfl 3 rfl ?_
  obtain ⟨r2, M3, hc1, h⟩ := of_bd2 h
  refine r_callVI (st := []) dX11_ring_4 v_X11_304 (run_X11_ringFault hc1) (by decide) (by decide) rfl rfl (Nat.le_of_ble_eq_true rfl) rfl ?_
  refine r_istore (lv2 := [(4, vI r2), (0, vR 0), (1, vI a1), (2, vI a2), (3, vI a3)]) dX11_ring_7 (by decide) rfl ?_
  refine r_iload dX11_ring_9 0 rfl ?_
  obtain ⟨v6, h9, h⟩ := of_bd1 h
  have kJ : Ex G 6 cX11_ring RX11 5 28 [] [vI v6] M3 := by
    cases h
    exact hQ _ _ dX11_ring_28
  clear h
  have h := h9
  clear h9
  by_cases c4 : 0 ≤ wr r2
  · rw [if_pos c4] at h
    refine r_if_ge (tgt := 19) dX11_ring_11 (by decide) (fun _ => ?_) (fun q => absurd c4 q)
    refine r_aload_n dX11_ring_19 rfl 1 rfl ?_
    refine r_getR (j := 7) (v := 34) dX11_ring_20 f_X11_61 rfl rfl rfl ?_
    refine r_getR (j := 0) (v := 35) dX11_ring_23 f_X11_308 rfl rfl rfl ?_
    refine r_iload_n dX11_ring_26 rfl 4 rfl ?_
    obtain ⟨c5, h⟩ := of_ck h
    refine r_iald dX11_ring_27 rfl c5 ?_
    refine r_sub (lv2 := []) [] rfl ?_
    cases h
    exact kJ
  · rw [if_neg c4] at h
    refine r_if_ge (tgt := 19) dX11_ring_11 (by decide) (fun q => absurd q c4) (fun _ => ?_)
    refine r_iload dX11_ring_14 0 rfl ?_
    refine r_goto (tgt := 28) dX11_ring_16 (by decide) ?_
    refine r_sub (lv2 := []) [] rfl ?_
    cases h
    exact kJ

def m_X11_wind (M : Mem) (a1 : Int) (a2 : Int) (a3 : Int) : Option (Int × Mem) :=
  bd2 (m_X11_ringFault M a1 a2 a3) fun r2 M3 =>
  if 0 ≤ wr r2 then
    if 0 ≤ wr a1 ∧ wr a1 < 4 then
    if 0 ≤ wr a2 ∧ wr a2 < 4 then
    bd1 (m_X4_takeOver M3 (39 + 2 * (wr a1).toNat) (39 + 2 * (wr a2).toNat) a3) fun M8 =>
    if 0 ≤ wr a3 ∧ wr a3 < 64 then
    some ((idv (gI M8 35 (wr a3)) 2), M8)
    else none
    else none
    else none
  else
    some (r2, M3)
set_option maxRecDepth 10000 in
theorem run_X11_wind {M : Mem} {M2 : Mem} {a1 : Int} {a2 : Int} {a3 : Int} {r : Int}   (h : m_X11_wind M a1 a2 a3 = some (r, M2)) : RunI 6 yX11_wind cX11_wind 5 (some .int) [vR 0, vI a1, vI a2, vI a3] M r M2 := by
  refine runI_of (lv := [(0, vR 0), (1, vI a1), (2, vI a2), (3, vI a3)]) (by decide +kernel) (Or.inl rfl) (Nat.le_of_ble_eq_true rfl) rfl ?_
  intro G hQ
  unfold m_X11_wind at h
  refine r_aload_n dX11_wind_0 rfl 0 rfl ?_
  refine r_iload_n dX11_wind_1 rfl 1 rfl ?_
  refine r_iload_n dX11_wind_2 rfl 2 rfl ?_
  refine r_iload_n dX11_wind_3 rfl 3 rfl ?_
  obtain ⟨r2, M3, hc1, h⟩ := of_bd2 h
  refine r_callVI (st := []) dX11_wind_4 v_X11_304 (run_X11_ringFault hc1) (by decide) (by decide) rfl rfl (Nat.le_of_ble_eq_true rfl) rfl ?_
  refine r_istore (lv2 := [(4, vI r2), (0, vR 0), (1, vI a1), (2, vI a2), (3, vI a3)]) dX11_wind_7 (by decide) rfl ?_
  refine r_iload dX11_wind_9 0 rfl ?_
  by_cases c4 : 0 ≤ wr r2
  · rw [if_pos c4] at h
    refine r_if_ge (tgt := 17) dX11_wind_11 (by decide) (fun _ => ?_) (fun q => absurd c4 q)
    refine r_aload_n dX11_wind_17 rfl 1 rfl ?_
    refine r_getR (j := 7) (v := 34) dX11_wind_18 f_X11_61 rfl rfl rfl ?_
    refine r_aload_n dX11_wind_21 rfl 1 rfl ?_
    refine r_getR (j := 0) (v := 1) dX11_wind_22 f_X11_10 rfl rfl rfl ?_
    refine r_aload_n dX11_wind_25 rfl 1 rfl ?_
    refine r_getR (j := 8) (v := 37) dX11_wind_26 f_X11_67 rfl rfl rfl ?_
    refine r_iload_n dX11_wind_29 rfl 2 rfl ?_
    obtain ⟨c5, h⟩ := of_ck h
    refine r_aald3 dX11_wind_30 rfl c5 (slo_el c5).1 ?_
    refine r_aload_n dX11_wind_31 rfl 1 rfl ?_
    refine r_getR (j := 8) (v := 37) dX11_wind_32 f_X11_67 rfl rfl rfl ?_
    refine r_iload_n dX11_wind_35 rfl 3 rfl ?_
    obtain ⟨c6, h⟩ := of_ck h
    refine r_aald3 dX11_wind_36 rfl c6 (slo_el c6).1 ?_
    refine r_iload_n dX11_wind_37 rfl 4 rfl ?_
    obtain ⟨M8, hc7, h⟩ := of_bd1 h
    refine r_callVV (st := []) dX11_wind_38 v_X11_311 (run_X4_takeOver (slo_el (M := M3) c5).2 (slo_el (M := M3) c6).2 hc7) (by decide) (by decide) rfl rfl (Nat.le_of_ble_eq_true rfl) rfl ?_
    refine r_aload_n dX11_wind_41 rfl 1 rfl ?_
    refine r_getR (j := 7) (v := 34) dX11_wind_42 f_X11_61 rfl rfl rfl ?_
    refine r_getR (j := 0) (v := 35) dX11_wind_45 f_X11_308 rfl rfl rfl ?_
    refine r_iload_n dX11_wind_48 rfl 4 rfl ?_
    obtain ⟨c9, h⟩ := of_ck h
    refine r_iald dX11_wind_49 rfl c9 ?_
    refine r_iconst dX11_wind_50 ?_
    refine r_idiv dX11_wind_51 (by decide) ?_
    cases h
    exact hQ _ _ dX11_wind_52
  · rw [if_neg c4] at h
    refine r_if_ge (tgt := 17) dX11_wind_11 (by decide) (fun q => absurd q c4) (fun _ => ?_)
    refine r_iload dX11_wind_14 0 rfl ?_
    cases h
    exact hQ _ _ dX11_wind_16

def m_X11_isLane (a0 : Int) : Option (Bool) :=
  lt (if wr a0 < 0 then 0 else (if wr 2 < wr a0 then 0 else 1)) fun (v3 : Int) =>
  if v3 = 0 ∨ v3 = 1 then some (decide (v3 = 1)) else none
set_option maxRecDepth 10000 in
theorem run_X11_isLane {M : Mem} {a0 : Int} {r : Bool}   (h : m_X11_isLane a0 = some r) : RunI 0 yX11_isLane cX11_isLane 1 (some .boolean) [vI a0] M (bI r) M := by
  refine runI_of (lv := [(0, vI a0)]) (by decide +kernel) (Or.inr ⟨rfl, bI_01 r⟩) (Nat.le_of_ble_eq_true rfl) rfl ?_
  intro G hQ
  unfold m_X11_isLane at h
  refine r_iload_n dX11_isLane_0 rfl 0 rfl ?_
  obtain ⟨v3, ev3, h⟩ := of_lt h
  have kJ : Ex G 0 cX11_isLane RX11 1 14 [] [vI v3] M := by
    obtain ⟨cz, h⟩ := of_ck h
    rw [← bI_dec cz]
    cases h
    exact hQ _ _ dX11_isLane_14
  clear h
  by_cases c1 : wr a0 < 0
  · skip
    refine r_if_lt (tgt := 13) dX11_isLane_1 (by decide) (fun _ => ?_) (fun q => absurd c1 q)
    refine r_iconst dX11_isLane_13 ?_
    rw [show v3 = 0 from by rw [ev3, if_pos c1]] at kJ
    refine r_sub (lv2 := []) [] rfl ?_
    exact kJ
  · skip
    refine r_if_lt (tgt := 13) dX11_isLane_1 (by decide) (fun q => absurd q c1) (fun _ => ?_)
    refine r_iload_n dX11_isLane_4 rfl 0 rfl ?_
    refine r_iconst dX11_isLane_5 ?_
    by_cases c2 : wr 2 < wr a0
    · skip
      refine r_icmp_gt (tgt := 13) dX11_isLane_6 (by decide) (fun _ => ?_) (fun q => absurd c2 q)
      refine r_iconst dX11_isLane_13 ?_
      rw [show v3 = 0 from by rw [ev3, if_neg c1, if_pos c2]] at kJ
      refine r_sub (lv2 := []) [] rfl ?_
      exact kJ
    · skip
      refine r_icmp_gt (tgt := 13) dX11_isLane_6 (by decide) (fun q => absurd q c2) (fun _ => ?_)
      refine r_iconst dX11_isLane_9 ?_
      refine r_goto (tgt := 14) dX11_isLane_10 (by decide) ?_
      rw [show v3 = 1 from by rw [ev3, if_neg c1, if_neg c2]] at kJ
      refine r_sub (lv2 := []) [] rfl ?_
      exact kJ

def m_X11_sheet (M : Mem) (a1 : Int) (a2 : Int) (a3 : Int) : Option (Int × Mem) :=
  bd1 (m_X11_isSheet a1) fun b2 =>
  if wr (bI b2) = 0 then
    some ((-1), M)
  else
    bd1 (m_X11_isLane a2) fun b5 =>
    if wr (bI b5) = 0 then
      some ((-1), M)
    else
      if wr a3 ≤ wr 64 then
        if 0 ≤ wr a3 then
          if 0 ≤ wr a1 ∧ wr a1 < 4 then
          bd1 (m_X6_start M (47 + 2 * (wr a1).toNat) a2 a3) fun M11 =>
          some (a3, M11)
          else none
        else
          some ((-14), M)
      else
        some ((-1), M)
set_option maxRecDepth 10000 in
theorem run_X11_sheet {M : Mem} {M2 : Mem} {a1 : Int} {a2 : Int} {a3 : Int} {r : Int}   (h : m_X11_sheet M a1 a2 a3 = some (r, M2)) : RunI 2 yX11_sheet cX11_sheet 4 (some .int) [vR 0, vI a1, vI a2, vI a3] M r M2 := by
  refine runI_of (lv := [(0, vR 0), (1, vI a1), (2, vI a2), (3, vI a3)]) (by decide +kernel) (Or.inl rfl) (Nat.le_of_ble_eq_true rfl) rfl ?_
  intro G hQ
  unfold m_X11_sheet at h
  refine r_iload_n dX11_sheet_0 rfl 1 rfl ?_
  obtain ⟨b2, hc1, h⟩ := of_bd1 h
  refine r_callSI (st := []) dX11_sheet_1 v_X11_134 (run_X11_isSheet hc1) (by decide) (by decide) rfl (Nat.le_of_ble_eq_true rfl) rfl ?_
  by_cases c3 : wr (bI b2) = 0
  · rw [if_pos c3] at h
    refine r_if_eq (tgt := 20) dX11_sheet_4 (by decide) (fun _ => ?_) (fun q => absurd c3 q)
    refine r_iconst dX11_sheet_20 ?_
    cases h
    exact hQ _ _ dX11_sheet_21
  · rw [if_neg c3] at h
    refine r_if_eq (tgt := 20) dX11_sheet_4 (by decide) (fun q => absurd q c3) (fun _ => ?_)
    refine r_iload_n dX11_sheet_7 rfl 2 rfl ?_
    obtain ⟨b5, hc4, h⟩ := of_bd1 h
    refine r_callSI (st := []) dX11_sheet_8 v_X11_315 (run_X11_isLane hc4) (by decide) (by decide) rfl (Nat.le_of_ble_eq_true rfl) rfl ?_
    by_cases c6 : wr (bI b5) = 0
    · rw [if_pos c6] at h
      refine r_if_eq (tgt := 20) dX11_sheet_11 (by decide) (fun _ => ?_) (fun q => absurd c6 q)
      refine r_iconst dX11_sheet_20 ?_
      cases h
      exact hQ _ _ dX11_sheet_21
    · rw [if_neg c6] at h
      refine r_if_eq (tgt := 20) dX11_sheet_11 (by decide) (fun q => absurd q c6) (fun _ => ?_)
      refine r_iload_n dX11_sheet_14 rfl 3 rfl ?_
      refine r_bipush dX11_sheet_15 (by decide) ?_
      by_cases c7 : wr a3 ≤ wr 64
      · rw [if_pos c7] at h
        refine r_icmp_le (tgt := 22) dX11_sheet_17 (by decide) (fun _ => ?_) (fun q => absurd c7 q)
        refine r_iload_n dX11_sheet_22 rfl 3 rfl ?_
        by_cases c8 : 0 ≤ wr a3
        · rw [if_pos c8] at h
          refine r_if_ge (tgt := 29) dX11_sheet_23 (by decide) (fun _ => ?_) (fun q => absurd c8 q)
          refine r_aload_n dX11_sheet_29 rfl 0 rfl ?_
          refine r_getR (j := 9) (v := 38) dX11_sheet_30 f_X11_73 rfl rfl rfl ?_
          refine r_iload_n dX11_sheet_33 rfl 1 rfl ?_
          obtain ⟨c9, h⟩ := of_ck h
          refine r_aald4 dX11_sheet_34 rfl c9 (she_el c9).1 ?_
          refine r_iload_n dX11_sheet_35 rfl 2 rfl ?_
          refine r_iload_n dX11_sheet_36 rfl 3 rfl ?_
          obtain ⟨M11, hc10, h⟩ := of_bd1 h
          refine r_callVV (st := []) dX11_sheet_37 v_X11_318 (run_X6_start (she_el (M := M) c9).2 hc10) (by decide) (by decide) (she_el (M := M) c9).2 rfl (Nat.le_of_ble_eq_true rfl) rfl ?_
          refine r_iload_n dX11_sheet_40 rfl 3 rfl ?_
          cases h
          exact hQ _ _ dX11_sheet_41
        · rw [if_neg c8] at h
          refine r_if_ge (tgt := 29) dX11_sheet_23 (by decide) (fun q => absurd q c8) (fun _ => ?_)
          refine r_bipush dX11_sheet_26 (by decide) ?_
          cases h
          exact hQ _ _ dX11_sheet_28
      · rw [if_neg c7] at h
        refine r_icmp_le (tgt := 22) dX11_sheet_17 (by decide) (fun q => absurd q c7) (fun _ => ?_)
        refine r_iconst dX11_sheet_20 ?_
        cases h
        exact hQ _ _ dX11_sheet_21

def m_X11_drop (M : Mem) (a1 : Int) : Option (Int × Mem) :=
  bd1 (m_X11_isSheet a1) fun b2 =>
  if wr (bI b2) = 0 then
    some ((-1), M)
  else
    if 0 ≤ wr a1 ∧ wr a1 < 4 then
    if wr (gI M (47 + 2 * (wr a1).toNat) 0) = 0 then
      some ((-11), M)
    else
      lt (sI M (47 + 2 * (wr a1).toNat) 0 0) fun M6 =>
      some ((gI M6 (47 + 2 * (wr a1).toNat) 2), M6)
    else none
set_option maxRecDepth 10000 in
theorem run_X11_drop {M : Mem} {M2 : Mem} {a1 : Int} {r : Int}   (h : m_X11_drop M a1 = some (r, M2)) : RunI 1 yX11_drop cX11_drop 2 (some .int) [vR 0, vI a1] M r M2 := by
  refine runI_of (lv := [(0, vR 0), (1, vI a1)]) (by decide +kernel) (Or.inl rfl) (Nat.le_of_ble_eq_true rfl) rfl ?_
  intro G hQ
  unfold m_X11_drop at h
  refine r_iload_n dX11_drop_0 rfl 1 rfl ?_
  obtain ⟨b2, hc1, h⟩ := of_bd1 h
  refine r_callSI (st := []) dX11_drop_1 v_X11_134 (run_X11_isSheet hc1) (by decide) (by decide) rfl (Nat.le_of_ble_eq_true rfl) rfl ?_
  by_cases c3 : wr (bI b2) = 0
  · rw [if_pos c3] at h
    refine r_if_ne (tgt := 9) dX11_drop_4 (by decide) (fun q => absurd c3 q) (fun _ => ?_)
    refine r_iconst dX11_drop_7 ?_
    cases h
    exact hQ _ _ dX11_drop_8
  · rw [if_neg c3] at h
    refine r_if_ne (tgt := 9) dX11_drop_4 (by decide) (fun _ => ?_) (fun q => absurd q c3)
    refine r_aload_n dX11_drop_9 rfl 0 rfl ?_
    refine r_getR (j := 9) (v := 38) dX11_drop_10 f_X11_73 rfl rfl rfl ?_
    refine r_iload_n dX11_drop_13 rfl 1 rfl ?_
    obtain ⟨c4, h⟩ := of_ck h
    refine r_aald4 dX11_drop_14 rfl c4 (she_el c4).1 ?_
    refine r_getI (j := 0) (jz := 0) dX11_drop_15 f_X11_321 (she_el (M := M) c4).2 rfl rfl ?_
    by_cases c5 : wr (gI M (47 + 2 * (wr a1).toNat) 0) = 0
    · rw [if_pos c5] at h
      refine r_if_ne (tgt := 24) dX11_drop_18 (by decide) (fun q => absurd c5 q) (fun _ => ?_)
      refine r_bipush dX11_drop_21 (by decide) ?_
      cases h
      exact hQ _ _ dX11_drop_23
    · rw [if_neg c5] at h
      refine r_if_ne (tgt := 24) dX11_drop_18 (by decide) (fun _ => ?_) (fun q => absurd q c5)
      refine r_aload_n dX11_drop_24 rfl 0 rfl ?_
      refine r_getR (j := 9) (v := 38) dX11_drop_25 f_X11_73 rfl rfl rfl ?_
      refine r_iload_n dX11_drop_28 rfl 1 rfl ?_
      refine r_aald4 dX11_drop_29 rfl c4 (she_el c4).1 ?_
      refine r_iconst dX11_drop_30 ?_
      obtain ⟨M6, eM6, h⟩ := of_lt h
      refine r_putI (j := 0) (jz := 0) dX11_drop_31 p_X11_321 (she_el (M := M) c4).2 rfl rfl rfl rfl ?_
      rw [← eM6]
      refine r_aload_n dX11_drop_34 rfl 0 rfl ?_
      refine r_getR (j := 9) (v := 38) dX11_drop_35 f_X11_73 rfl rfl rfl ?_
      refine r_iload_n dX11_drop_38 rfl 1 rfl ?_
      refine r_aald4 dX11_drop_39 rfl c4 (she_el c4).1 ?_
      refine r_getI (j := 2) (jz := 2) dX11_drop_40 f_X11_141 (she_el (M := M6) c4).2 rfl rfl ?_
      cases h
      exact hQ _ _ dX11_drop_43

def m_X11_item (M : Mem) (a1 : Int) (a2 : Int) (a3 : Int) (a4 : Int) : Option (Int × Mem) :=
  bd1 (m_X11_isSheet a1) fun b2 =>
  if wr (bI b2) = 0 then
    some ((-1), M)
  else
    bd1 (m_X11_isLane a2) fun b5 =>
    if wr (bI b5) = 0 then
      some ((-1), M)
    else
      bd1 (m_X11_sheetFault M a1 a2) fun r8 =>
      if 0 ≤ wr r8 then
        if wr a3 < 0 then
          some ((-13), M)
        else
          if 0 ≤ wr a1 ∧ wr a1 < 4 then
          if wr a3 < wr (gI M (47 + 2 * (wr a1).toNat) 2) then
            bd1 (m_X6_put M (47 + 2 * (wr a1).toNat) a3 a4) fun M14 =>
            some (1, M14)
          else
            some ((-13), M)
          else none
      else
        some (r8, M)
set_option maxRecDepth 10000 in
theorem run_X11_item {M : Mem} {M2 : Mem} {a1 : Int} {a2 : Int} {a3 : Int} {a4 : Int} {r : Int}   (h : m_X11_item M a1 a2 a3 a4 = some (r, M2)) : RunI 2 yX11_item cX11_item 6 (some .int) [vR 0, vI a1, vI a2, vI a3, vI a4] M r M2 := by
  refine runI_of (lv := [(0, vR 0), (1, vI a1), (2, vI a2), (3, vI a3), (4, vI a4)]) (by decide +kernel) (Or.inl rfl) (Nat.le_of_ble_eq_true rfl) rfl ?_
  intro G hQ
  unfold m_X11_item at h
  refine r_iload_n dX11_item_0 rfl 1 rfl ?_
  obtain ⟨b2, hc1, h⟩ := of_bd1 h
  refine r_callSI (st := []) dX11_item_1 v_X11_134 (run_X11_isSheet hc1) (by decide) (by decide) rfl (Nat.le_of_ble_eq_true rfl) rfl ?_
  by_cases c3 : wr (bI b2) = 0
  · rw [if_pos c3] at h
    refine r_if_eq (tgt := 14) dX11_item_4 (by decide) (fun _ => ?_) (fun q => absurd c3 q)
    refine r_iconst dX11_item_14 ?_
    cases h
    exact hQ _ _ dX11_item_15
  · rw [if_neg c3] at h
    refine r_if_eq (tgt := 14) dX11_item_4 (by decide) (fun q => absurd q c3) (fun _ => ?_)
    refine r_iload_n dX11_item_7 rfl 2 rfl ?_
    obtain ⟨b5, hc4, h⟩ := of_bd1 h
    refine r_callSI (st := []) dX11_item_8 v_X11_315 (run_X11_isLane hc4) (by decide) (by decide) rfl (Nat.le_of_ble_eq_true rfl) rfl ?_
    by_cases c6 : wr (bI b5) = 0
    · rw [if_pos c6] at h
      refine r_if_ne (tgt := 16) dX11_item_11 (by decide) (fun q => absurd c6 q) (fun _ => ?_)
      refine r_iconst dX11_item_14 ?_
      cases h
      exact hQ _ _ dX11_item_15
    · rw [if_neg c6] at h
      refine r_if_ne (tgt := 16) dX11_item_11 (by decide) (fun _ => ?_) (fun q => absurd q c6)
      refine r_aload_n dX11_item_16 rfl 0 rfl ?_
      refine r_iload_n dX11_item_17 rfl 1 rfl ?_
      refine r_iload_n dX11_item_18 rfl 2 rfl ?_
      obtain ⟨r8, hc7, h⟩ := of_bd1 h
      refine r_callVI (st := []) dX11_item_19 v_X11_137 (run_X11_sheetFault hc7) (by decide) (by decide) rfl rfl (Nat.le_of_ble_eq_true rfl) rfl ?_
      refine r_istore (lv2 := [(5, vI r8), (0, vR 0), (1, vI a1), (2, vI a2), (3, vI a3), (4, vI a4)]) dX11_item_22 (by decide) rfl ?_
      refine r_iload dX11_item_24 0 rfl ?_
      by_cases c9 : 0 ≤ wr r8
      · rw [if_pos c9] at h
        refine r_if_ge (tgt := 32) dX11_item_26 (by decide) (fun _ => ?_) (fun q => absurd c9 q)
        refine r_iload_n dX11_item_32 rfl 4 rfl ?_
        by_cases c10 : wr a3 < 0
        · rw [if_pos c10] at h
          refine r_if_lt (tgt := 49) dX11_item_33 (by decide) (fun _ => ?_) (fun q => absurd c10 q)
          refine r_bipush dX11_item_49 (by decide) ?_
          cases h
          exact hQ _ _ dX11_item_51
        · rw [if_neg c10] at h
          refine r_if_lt (tgt := 49) dX11_item_33 (by decide) (fun q => absurd q c10) (fun _ => ?_)
          refine r_iload_n dX11_item_36 rfl 4 rfl ?_
          refine r_aload_n dX11_item_37 rfl 1 rfl ?_
          refine r_getR (j := 9) (v := 38) dX11_item_38 f_X11_73 rfl rfl rfl ?_
          refine r_iload_n dX11_item_41 rfl 2 rfl ?_
          obtain ⟨c11, h⟩ := of_ck h
          refine r_aald4 dX11_item_42 rfl c11 (she_el c11).1 ?_
          refine r_getI (j := 2) (jz := 2) dX11_item_43 f_X11_141 (she_el (M := M) c11).2 rfl rfl ?_
          by_cases c12 : wr a3 < wr (gI M (47 + 2 * (wr a1).toNat) 2)
          · rw [if_pos c12] at h
            refine r_icmp_lt (tgt := 52) dX11_item_46 (by decide) (fun _ => ?_) (fun q => absurd c12 q)
            refine r_aload_n dX11_item_52 rfl 1 rfl ?_
            refine r_getR (j := 9) (v := 38) dX11_item_53 f_X11_73 rfl rfl rfl ?_
            refine r_iload_n dX11_item_56 rfl 2 rfl ?_
            refine r_aald4 dX11_item_57 rfl c11 (she_el c11).1 ?_
            refine r_iload_n dX11_item_58 rfl 4 rfl ?_
            refine r_iload dX11_item_59 5 rfl ?_
            obtain ⟨M14, hc13, h⟩ := of_bd1 h
            refine r_callVV (st := []) dX11_item_61 v_X11_322 (run_X6_put (she_el (M := M) c11).2 hc13) (by decide) (by decide) (she_el (M := M) c11).2 rfl (Nat.le_of_ble_eq_true rfl) rfl ?_
            refine r_iconst dX11_item_64 ?_
            cases h
            exact hQ _ _ dX11_item_65
          · rw [if_neg c12] at h
            refine r_icmp_lt (tgt := 52) dX11_item_46 (by decide) (fun q => absurd q c12) (fun _ => ?_)
            refine r_bipush dX11_item_49 (by decide) ?_
            cases h
            exact hQ _ _ dX11_item_51
      · rw [if_neg c9] at h
        refine r_if_ge (tgt := 32) dX11_item_26 (by decide) (fun q => absurd q c9) (fun _ => ?_)
        refine r_iload dX11_item_29 0 rfl ?_
        cases h
        exact hQ _ _ dX11_item_31

def m_X11_copy (M : Mem) (a1 : Int) (a2 : Int) (a3 : Int) (a4 : Int) (a5 : Int) : Option (Int × Mem) :=
  bd1 (m_X11_isSheet a1) fun b2 =>
  if wr (bI b2) = 0 then
    some ((-1), M)
  else
    bd1 (m_X11_isSheet a3) fun b5 =>
    if wr (bI b5) = 0 then
      some ((-1), M)
    else
      if 0 ≤ wr a1 ∧ wr a1 < 4 then
      if 0 ≤ wr a3 ∧ wr a3 < 4 then
      if wr (gI M (47 + 2 * (wr a1).toNat) 0) = 0 then
        some ((-11), M)
      else
        if wr (gI M (47 + 2 * (wr a3).toNat) 0) = 0 then
          some ((-11), M)
        else
          if wr (gI M (47 + 2 * (wr a1).toNat) 1) = wr (gI M (47 + 2 * (wr a3).toNat) 1) then
            bd1 (m_X6_hasStretch M (47 + 2 * (wr a1).toNat) a2 a5) fun b13 =>
            if wr (bI b13) = 0 then
              some ((-13), M)
            else
              bd1 (m_X6_hasStretch M (47 + 2 * (wr a3).toNat) a4 a5) fun b16 =>
              if wr (bI b16) = 0 then
                some ((-13), M)
              else
                if 0 ≤ wr a2 ∧ 0 ≤ wr a4 ∧ 0 ≤ wr a5 ∧ wr a2 + wr a5 ≤ 64 ∧ wr a4 + wr a5 ≤ 64 then
                lt (cpI M ((47 + 2 * (wr a1).toNat) + 1) (wr a2) ((47 + 2 * (wr a3).toNat) + 1) (wr a4) (wr a5)) fun M19 =>
                some (a5, M19)
                else none
          else
            some ((-12), M)
      else none
      else none
set_option maxRecDepth 10000 in
theorem run_X11_copy {M : Mem} {M2 : Mem} {a1 : Int} {a2 : Int} {a3 : Int} {a4 : Int} {a5 : Int} {r : Int}   (h : m_X11_copy M a1 a2 a3 a4 a5 = some (r, M2)) : RunI 2 yX11_copy cX11_copy 8 (some .int) [vR 0, vI a1, vI a2, vI a3, vI a4, vI a5] M r M2 := by
  refine runI_of (lv := [(0, vR 0), (1, vI a1), (2, vI a2), (3, vI a3), (4, vI a4), (5, vI a5)]) (by decide +kernel) (Or.inl rfl) (Nat.le_of_ble_eq_true rfl) rfl ?_
  intro G hQ
  unfold m_X11_copy at h
  refine r_iload_n dX11_copy_0 rfl 1 rfl ?_
  obtain ⟨b2, hc1, h⟩ := of_bd1 h
  refine r_callSI (st := []) dX11_copy_1 v_X11_134 (run_X11_isSheet hc1) (by decide) (by decide) rfl (Nat.le_of_ble_eq_true rfl) rfl ?_
  by_cases c3 : wr (bI b2) = 0
  · rw [if_pos c3] at h
    refine r_if_eq (tgt := 14) dX11_copy_4 (by decide) (fun _ => ?_) (fun q => absurd c3 q)
    refine r_iconst dX11_copy_14 ?_
    cases h
    exact hQ _ _ dX11_copy_15
  · rw [if_neg c3] at h
    refine r_if_eq (tgt := 14) dX11_copy_4 (by decide) (fun q => absurd q c3) (fun _ => ?_)
    refine r_iload_n dX11_copy_7 rfl 3 rfl ?_
    obtain ⟨b5, hc4, h⟩ := of_bd1 h
    refine r_callSI (st := []) dX11_copy_8 v_X11_134 (run_X11_isSheet hc4) (by decide) (by decide) rfl (Nat.le_of_ble_eq_true rfl) rfl ?_
    by_cases c6 : wr (bI b5) = 0
    · rw [if_pos c6] at h
      refine r_if_ne (tgt := 16) dX11_copy_11 (by decide) (fun q => absurd c6 q) (fun _ => ?_)
      refine r_iconst dX11_copy_14 ?_
      cases h
      exact hQ _ _ dX11_copy_15
    · rw [if_neg c6] at h
      refine r_if_ne (tgt := 16) dX11_copy_11 (by decide) (fun _ => ?_) (fun q => absurd q c6)
      refine r_aload_n dX11_copy_16 rfl 0 rfl ?_
      refine r_getR (j := 9) (v := 38) dX11_copy_17 f_X11_73 rfl rfl rfl ?_
      refine r_iload_n dX11_copy_20 rfl 1 rfl ?_
      obtain ⟨c7, h⟩ := of_ck h
      refine r_aald4 dX11_copy_21 rfl c7 (she_el c7).1 ?_
      refine r_astore (lv2 := [(6, vR (47 + 2 * (wr a1).toNat)), (0, vR 0), (1, vI a1), (2, vI a2), (3, vI a3), (4, vI a4), (5, vI a5)]) dX11_copy_22 (by decide) rfl ?_
      refine r_aload_n dX11_copy_24 rfl 1 rfl ?_
      refine r_getR (j := 9) (v := 38) dX11_copy_25 f_X11_73 rfl rfl rfl ?_
      refine r_iload_n dX11_copy_28 rfl 4 rfl ?_
      obtain ⟨c8, h⟩ := of_ck h
      refine r_aald4 dX11_copy_29 rfl c8 (she_el c8).1 ?_
      refine r_astore (lv2 := [(7, vR (47 + 2 * (wr a3).toNat)), (6, vR (47 + 2 * (wr a1).toNat)), (0, vR 0), (1, vI a1), (2, vI a2), (3, vI a3), (4, vI a4), (5, vI a5)]) dX11_copy_30 (by decide) rfl ?_
      refine r_aload dX11_copy_32 1 rfl ?_
      refine r_getI (j := 0) (jz := 0) dX11_copy_34 f_X11_321 (she_el (M := M) c7).2 rfl rfl ?_
      by_cases c9 : wr (gI M (47 + 2 * (wr a1).toNat) 0) = 0
      · rw [if_pos c9] at h
        refine r_if_eq (tgt := 48) dX11_copy_37 (by decide) (fun _ => ?_) (fun q => absurd c9 q)
        refine r_bipush dX11_copy_48 (by decide) ?_
        cases h
        exact hQ _ _ dX11_copy_50
      · rw [if_neg c9] at h
        refine r_if_eq (tgt := 48) dX11_copy_37 (by decide) (fun q => absurd q c9) (fun _ => ?_)
        refine r_aload dX11_copy_40 0 rfl ?_
        refine r_getI (j := 0) (jz := 0) dX11_copy_42 f_X11_321 (she_el (M := M) c8).2 rfl rfl ?_
        by_cases c10 : wr (gI M (47 + 2 * (wr a3).toNat) 0) = 0
        · rw [if_pos c10] at h
          refine r_if_ne (tgt := 51) dX11_copy_45 (by decide) (fun q => absurd c10 q) (fun _ => ?_)
          refine r_bipush dX11_copy_48 (by decide) ?_
          cases h
          exact hQ _ _ dX11_copy_50
        · rw [if_neg c10] at h
          refine r_if_ne (tgt := 51) dX11_copy_45 (by decide) (fun _ => ?_) (fun q => absurd q c10)
          refine r_aload dX11_copy_51 1 rfl ?_
          refine r_getI (j := 1) (jz := 1) dX11_copy_53 f_X11_325 (she_el (M := M) c7).2 rfl rfl ?_
          refine r_aload dX11_copy_56 0 rfl ?_
          refine r_getI (j := 1) (jz := 1) dX11_copy_58 f_X11_325 (she_el (M := M) c8).2 rfl rfl ?_
          by_cases c11 : wr (gI M (47 + 2 * (wr a1).toNat) 1) = wr (gI M (47 + 2 * (wr a3).toNat) 1)
          · rw [if_pos c11] at h
            refine r_icmp_eq (tgt := 67) dX11_copy_61 (by decide) (fun _ => ?_) (fun q => absurd c11 q)
            refine r_aload dX11_copy_67 1 rfl ?_
            refine r_iload_n dX11_copy_69 rfl 4 rfl ?_
            refine r_iload dX11_copy_70 7 rfl ?_
            obtain ⟨b13, hc12, h⟩ := of_bd1 h
            refine r_callVI (st := []) dX11_copy_72 v_X11_328 (run_X6_hasStretch (she_el (M := M) c7).2 hc12) (by decide) (by decide) (she_el (M := M) c7).2 rfl (Nat.le_of_ble_eq_true rfl) rfl ?_
            by_cases c14 : wr (bI b13) = 0
            · rw [if_pos c14] at h
              refine r_if_eq (tgt := 90) dX11_copy_75 (by decide) (fun _ => ?_) (fun q => absurd c14 q)
              refine r_bipush dX11_copy_90 (by decide) ?_
              cases h
              exact hQ _ _ dX11_copy_92
            · rw [if_neg c14] at h
              refine r_if_eq (tgt := 90) dX11_copy_75 (by decide) (fun q => absurd q c14) (fun _ => ?_)
              refine r_aload dX11_copy_78 0 rfl ?_
              refine r_iload dX11_copy_80 6 rfl ?_
              refine r_iload dX11_copy_82 7 rfl ?_
              obtain ⟨b16, hc15, h⟩ := of_bd1 h
              refine r_callVI (st := []) dX11_copy_84 v_X11_328 (run_X6_hasStretch (she_el (M := M) c8).2 hc15) (by decide) (by decide) (she_el (M := M) c8).2 rfl (Nat.le_of_ble_eq_true rfl) rfl ?_
              by_cases c17 : wr (bI b16) = 0
              · rw [if_pos c17] at h
                refine r_if_ne (tgt := 93) dX11_copy_87 (by decide) (fun q => absurd c17 q) (fun _ => ?_)
                refine r_bipush dX11_copy_90 (by decide) ?_
                cases h
                exact hQ _ _ dX11_copy_92
              · rw [if_neg c17] at h
                refine r_if_ne (tgt := 93) dX11_copy_87 (by decide) (fun _ => ?_) (fun q => absurd q c17)
                refine r_aload dX11_copy_93 1 rfl ?_
                refine r_getR (j := 3) (v := ((47 + 2 * (wr a1).toNat) + 1)) dX11_copy_95 f_X11_142 (she_el (M := M) c7).2 rfl (she_it (she_el (M := M) c7).2).1 ?_
                refine r_iload_n dX11_copy_98 rfl 4 rfl ?_
                refine r_aload dX11_copy_99 0 rfl ?_
                refine r_getR (j := 3) (v := ((47 + 2 * (wr a3).toNat) + 1)) dX11_copy_101 f_X11_142 (she_el (M := M) c8).2 rfl (she_it (she_el (M := M) c8).2).1 ?_
                refine r_iload dX11_copy_104 6 rfl ?_
                refine r_iload dX11_copy_106 7 rfl ?_
                obtain ⟨c18, h⟩ := of_ck h
                obtain ⟨M19, eM19, h⟩ := of_lt h
                refine r_copy dX11_copy_108 mc_X11_331 (by decide) (Nat.le_of_ble_eq_true rfl) (she_it (M := M) (she_el (M := M) c7).2).2 (she_it (M := M) (she_el (M := M) c8).2).2 c18.1 c18.2.1 c18.2.2.1 c18.2.2.2.1 c18.2.2.2.2 ?_
                rw [← eM19]
                refine r_iload dX11_copy_111 7 rfl ?_
                cases h
                exact hQ _ _ dX11_copy_113
          · rw [if_neg c11] at h
            refine r_icmp_eq (tgt := 67) dX11_copy_61 (by decide) (fun q => absurd q c11) (fun _ => ?_)
            refine r_bipush dX11_copy_64 (by decide) ?_
            cases h
            exact hQ _ _ dX11_copy_66

def m_X12_in (a0 : Int64) (a1 : Int64) (a2 : Int64) : Option (Bool) :=
  lt (if a0 < a1 then 0 else (if a2 < a0 then 0 else 1)) fun (v3 : Int) =>
  if v3 = 0 ∨ v3 = 1 then some (decide (v3 = 1)) else none
set_option maxRecDepth 10000 in
theorem run_X12_in {M : Mem} {a0 : Int64} {a1 : Int64} {a2 : Int64} {r : Bool}   (h : m_X12_in a0 a1 a2 = some r) : RunI 0 yX12_in cX12_in 6 (some .boolean) [vL a0, vL a1, vL a2] M (bI r) M := by
  refine runI_of (lv := [(0, vL a0), (2, vL a1), (4, vL a2)]) (by decide +kernel) (Or.inr ⟨rfl, bI_01 r⟩) (Nat.le_of_ble_eq_true rfl) rfl ?_
  intro G hQ
  unfold m_X12_in at h
  refine r_lload_n dX12_in_0 rfl 0 rfl ?_
  refine r_lload_n dX12_in_1 rfl 1 rfl ?_
  obtain ⟨v3, ev3, h⟩ := of_lt h
  have kJ : Ex G 0 cX12_in RX12 6 18 [] [vI v3] M := by
    obtain ⟨cz, h⟩ := of_ck h
    rw [← bI_dec cz]
    cases h
    exact hQ _ _ dX12_in_18
  clear h
  by_cases c1 : a0 < a1
  · skip
    refine r_lcmp_lt (tgt := 17) dX12_in_2 dX12_in_3 (by decide) (fun _ => ?_) (fun q => absurd c1 q)
    refine r_iconst dX12_in_17 ?_
    rw [show v3 = 0 from by rw [ev3, if_pos c1]] at kJ
    refine r_sub (lv2 := []) [] rfl ?_
    exact kJ
  · skip
    refine r_lcmp_lt (tgt := 17) dX12_in_2 dX12_in_3 (by decide) (fun q => absurd q c1) (fun _ => ?_)
    refine r_lload_n dX12_in_6 rfl 0 rfl ?_
    refine r_lload dX12_in_7 2 rfl ?_
    by_cases c2 : a2 < a0
    · skip
      refine r_lcmp_gt (tgt := 17) dX12_in_9 dX12_in_10 (by decide) (fun _ => ?_) (fun q => absurd c2 q)
      refine r_iconst dX12_in_17 ?_
      rw [show v3 = 0 from by rw [ev3, if_neg c1, if_pos c2]] at kJ
      refine r_sub (lv2 := []) [] rfl ?_
      exact kJ
    · skip
      refine r_lcmp_gt (tgt := 17) dX12_in_9 dX12_in_10 (by decide) (fun q => absurd q c2) (fun _ => ?_)
      refine r_iconst dX12_in_13 ?_
      refine r_goto (tgt := 18) dX12_in_14 (by decide) ?_
      rw [show v3 = 1 from by rw [ev3, if_neg c1, if_neg c2]] at kJ
      refine r_sub (lv2 := []) [] rfl ?_
      exact kJ

def m_X12_emptySlots_L2 (M : Mem)  (x1 : Int) : Option ((Int × Mem) ⊕ (Int × Mem)) :=
  if wr 4 ≤ wr x1 then
    some (.inr (x1, M))
  else
    if 0 ≤ wr x1 ∧ wr x1 < 4 then
    lt (sI M 59 (wr x1) 0) fun M3 =>
    some (.inl ((x1 + 1), M3))
    else none
def m_X12_emptySlots (M : Mem) : Option (Mem) :=
  bd2 (itr (fun s => m_X12_emptySlots_L2 s.2  s.1) FU (0, M)) fun y4 M5 =>
  some M5
set_option maxRecDepth 10000 in
theorem lp_X12_emptySlots_L2 {G : Gx}    (X : (Int × Mem) → Prop) (hX1 : ∀ (x1 : Int) (M : Mem), X (x1, M) → Ex G 0 cX12_emptySlots RX12 2 20 [(0, vR 55), (1, vI x1)] [] M) : ∀ (nn : Nat) (x1 : Int) (M : Mem) (out : Int × Mem), itr (fun s => m_X12_emptySlots_L2 s.2  s.1) nn (x1, M) = some out → X out → Ex G 0 cX12_emptySlots RX12 2 2 [(0, vR 55), (1, vI x1)] [] M := by
  intro nn
  induction nn with
  | zero =>
    intro x1 M out h _
    cases h
  | succ nn ih =>
    intro x1 M out h0 hX
    obtain ⟨w, h, k1, k2⟩ := itr_inv h0
    have h : m_X12_emptySlots_L2 M  x1 = some w := h
    unfold m_X12_emptySlots_L2 at h
    refine r_iload_n dX12_emptySlots_2 rfl 1 rfl ?_
    refine r_iconst dX12_emptySlots_3 ?_
    by_cases c1 : wr 4 ≤ wr x1
    · rw [if_pos c1] at h
      refine r_icmp_ge (tgt := 20) dX12_emptySlots_4 (by decide) (fun _ => ?_) (fun q => absurd c1 q)
      cases h
      cases k2 _ rfl
      exact hX1 _ _ hX
    · rw [if_neg c1] at h
      refine r_icmp_ge (tgt := 20) dX12_emptySlots_4 (by decide) (fun q => absurd q c1) (fun _ => ?_)
      refine r_aload_n dX12_emptySlots_7 rfl 0 rfl ?_
      refine r_getR (j := 5) (v := 59) dX12_emptySlots_8 f_X12_20 rfl rfl rfl ?_
      refine r_iload_n dX12_emptySlots_11 rfl 1 rfl ?_
      refine r_iconst dX12_emptySlots_12 ?_
      obtain ⟨c2, h⟩ := of_ck h
      obtain ⟨M3, eM3, h⟩ := of_lt h
      refine r_zast dX12_emptySlots_13 rfl c2 (by decide) ?_
      rw [← eM3]
      refine r_iinc (lv2 := [(1, vI (x1 + 1)), (0, vR 55)]) dX12_emptySlots_14 1 rfl (by decide) rfl ?_
      refine r_goto (tgt := 2) dX12_emptySlots_17 (by decide) ?_
      refine r_sub (lv2 := [(0, vR 55), (1, vI (x1 + 1))]) [1, 0] rfl ?_
      cases h
      exact ih _ _  _ (k1 _ rfl) hX

set_option maxRecDepth 10000 in
theorem run_X12_emptySlots {M : Mem} {M2 : Mem}   (h : m_X12_emptySlots M = some (M2)) : RunV 0 yX12_emptySlots cX12_emptySlots 2 none [vR 55] M M2 := by
  refine runV_of (lv := [(0, vR 55)]) (by decide +kernel) rfl (Nat.le_of_ble_eq_true rfl) rfl ?_
  intro G hQ
  unfold m_X12_emptySlots at h
  refine r_iconst dX12_emptySlots_0 ?_
  refine r_istore_n (lv2 := [(1, vI 0), (0, vR 55)]) dX12_emptySlots_1 rfl (by decide) rfl ?_
  obtain ⟨y4, M5, h9, h⟩ := of_bd2 h
  refine r_sub (lv2 := [(0, vR 55), (1, vI 0)]) [1, 0] rfl ?_
  refine lp_X12_emptySlots_L2   (fun w => w = (y4, M5)) ?_ FU 0 M _ h9 rfl
  intro z0 z1 hw
  cases hw
  cases h
  exact hQ _ _ dX12_emptySlots_20

def m_X12_begins_L12 (M : Mem)  (x3 : Int) : Option ((Int × Mem) ⊕ (Int × Mem)) :=
  if wr 64 ≤ wr x3 then
    some (.inr (x3, M))
  else
    if 0 ≤ wr x3 ∧ wr x3 < 64 then
    lt (sI M 56 (wr x3) 1) fun M5 =>
    some (.inl ((x3 + 1), M5))
    else none
def m_X12_begins_L33 (M : Mem)  (x3 : Int) : Option ((Int × Mem) ⊕ (Int × Mem)) :=
  if wr 128 ≤ wr x3 then
    some (.inr (x3, M))
  else
    if 0 ≤ wr x3 ∧ wr x3 < 128 then
    lt (sI M 57 (wr x3) 0) fun M10 =>
    lt (sI M10 58 (wr x3) 0) fun M11 =>
    some (.inl ((x3 + 1), M11))
    else none
def m_X12_begins (M : Mem) (a1 : Int) (a2 : Int) : Option (Mem) :=
  lt (sI M 55 0 a1) fun M1 =>
  lt (sI M1 55 1 a2) fun M2 =>
  bd2 (itr (fun s => m_X12_begins_L12 s.2  s.1) FU (0, M2)) fun y6 M7 =>
  bd2 (itr (fun s => m_X12_begins_L33 s.2  s.1) FU (0, M7)) fun y12 M13 =>
  bd1 (m_X12_emptySlots M13) fun M15 =>
  some M15
set_option maxRecDepth 10000 in
theorem lp_X12_begins_L12 {G : Gx}    (X : (Int × Mem) → Prop) (hX1 : ∀ (x3 : Int) (M : Mem), X (x3, M) → Ex G 1 cX12_begins RX12 4 31 [(0, vR 55), (3, vI x3)] [] M) : ∀ (nn : Nat) (x3 : Int) (M : Mem) (out : Int × Mem), itr (fun s => m_X12_begins_L12 s.2  s.1) nn (x3, M) = some out → X out → Ex G 1 cX12_begins RX12 4 12 [(0, vR 55), (3, vI x3)] [] M := by
  intro nn
  induction nn with
  | zero =>
    intro x3 M out h _
    cases h
  | succ nn ih =>
    intro x3 M out h0 hX
    obtain ⟨w, h, k1, k2⟩ := itr_inv h0
    have h : m_X12_begins_L12 M  x3 = some w := h
    unfold m_X12_begins_L12 at h
    refine r_iload_n dX12_begins_12 rfl 1 rfl ?_
    refine r_bipush dX12_begins_13 (by decide) ?_
    by_cases c3 : wr 64 ≤ wr x3
    · rw [if_pos c3] at h
      refine r_icmp_ge (tgt := 31) dX12_begins_15 (by decide) (fun _ => ?_) (fun q => absurd c3 q)
      cases h
      cases k2 _ rfl
      exact hX1 _ _ hX
    · rw [if_neg c3] at h
      refine r_icmp_ge (tgt := 31) dX12_begins_15 (by decide) (fun q => absurd q c3) (fun _ => ?_)
      refine r_aload_n dX12_begins_18 rfl 0 rfl ?_
      refine r_getR (j := 2) (v := 56) dX12_begins_19 f_X12_7 rfl rfl rfl ?_
      refine r_iload_n dX12_begins_22 rfl 1 rfl ?_
      refine r_iconst dX12_begins_23 ?_
      obtain ⟨c4, h⟩ := of_ck h
      obtain ⟨M5, eM5, h⟩ := of_lt h
      refine r_zast dX12_begins_24 rfl c4 (by decide) ?_
      rw [← eM5]
      refine r_iinc (lv2 := [(3, vI (x3 + 1)), (0, vR 55)]) dX12_begins_25 1 rfl (by decide) rfl ?_
      refine r_goto (tgt := 12) dX12_begins_28 (by decide) ?_
      refine r_sub (lv2 := [(0, vR 55), (3, vI (x3 + 1))]) [1, 0] rfl ?_
      cases h
      exact ih _ _  _ (k1 _ rfl) hX

set_option maxRecDepth 10000 in
theorem lp_X12_begins_L33 {G : Gx}    (X : (Int × Mem) → Prop) (hX1 : ∀ (x3 : Int) (M : Mem), X (x3, M) → Ex G 1 cX12_begins RX12 4 60 [(0, vR 55), (3, vI x3)] [] M) : ∀ (nn : Nat) (x3 : Int) (M : Mem) (out : Int × Mem), itr (fun s => m_X12_begins_L33 s.2  s.1) nn (x3, M) = some out → X out → Ex G 1 cX12_begins RX12 4 33 [(0, vR 55), (3, vI x3)] [] M := by
  intro nn
  induction nn with
  | zero =>
    intro x3 M out h _
    cases h
  | succ nn ih =>
    intro x3 M out h0 hX
    obtain ⟨w, h, k1, k2⟩ := itr_inv h0
    have h : m_X12_begins_L33 M  x3 = some w := h
    unfold m_X12_begins_L33 at h
    refine r_iload_n dX12_begins_33 rfl 1 rfl ?_
    refine r_sipush dX12_begins_34 (by decide) ?_
    by_cases c8 : wr 128 ≤ wr x3
    · rw [if_pos c8] at h
      refine r_icmp_ge (tgt := 60) dX12_begins_37 (by decide) (fun _ => ?_) (fun q => absurd c8 q)
      cases h
      cases k2 _ rfl
      exact hX1 _ _ hX
    · rw [if_neg c8] at h
      refine r_icmp_ge (tgt := 60) dX12_begins_37 (by decide) (fun q => absurd q c8) (fun _ => ?_)
      refine r_aload_n dX12_begins_40 rfl 0 rfl ?_
      refine r_getR (j := 3) (v := 57) dX12_begins_41 f_X12_13 rfl rfl rfl ?_
      refine r_iload_n dX12_begins_44 rfl 1 rfl ?_
      refine r_iconst dX12_begins_45 ?_
      obtain ⟨c9, h⟩ := of_ck h
      obtain ⟨M10, eM10, h⟩ := of_lt h
      refine r_iast dX12_begins_46 rfl c9 ?_
      rw [← eM10]
      refine r_aload_n dX12_begins_47 rfl 0 rfl ?_
      refine r_getR (j := 4) (v := 58) dX12_begins_48 f_X12_17 rfl rfl rfl ?_
      refine r_iload_n dX12_begins_51 rfl 1 rfl ?_
      refine r_iconst dX12_begins_52 ?_
      obtain ⟨M11, eM11, h⟩ := of_lt h
      refine r_iast dX12_begins_53 rfl c9 ?_
      rw [← eM11]
      refine r_iinc (lv2 := [(3, vI (x3 + 1)), (0, vR 55)]) dX12_begins_54 1 rfl (by decide) rfl ?_
      refine r_goto (tgt := 33) dX12_begins_57 (by decide) ?_
      refine r_sub (lv2 := [(0, vR 55), (3, vI (x3 + 1))]) [1, 0] rfl ?_
      cases h
      exact ih _ _  _ (k1 _ rfl) hX

set_option maxRecDepth 10000 in
theorem run_X12_begins {M : Mem} {M2 : Mem} {a1 : Int} {a2 : Int}   (h : m_X12_begins M a1 a2 = some (M2)) : RunV 1 yX12_begins cX12_begins 4 none [vR 55, vI a1, vI a2] M M2 := by
  refine runV_of (lv := [(0, vR 55), (1, vI a1), (2, vI a2)]) (by decide +kernel) rfl (Nat.le_of_ble_eq_true rfl) rfl ?_
  intro G hQ
  unfold m_X12_begins at h
  refine r_aload_n dX12_begins_0 rfl 0 rfl ?_
  refine r_iload_n dX12_begins_1 rfl 1 rfl ?_
  obtain ⟨M1, eM1, h⟩ := of_lt h
  refine r_putI (j := 0) (jz := 0) dX12_begins_2 p_X12_88 rfl rfl rfl rfl rfl ?_
  rw [← eM1]
  refine r_aload_n dX12_begins_5 rfl 0 rfl ?_
  refine r_iload_n dX12_begins_6 rfl 2 rfl ?_
  obtain ⟨M2, eM2, h⟩ := of_lt h
  refine r_putI (j := 1) (jz := 1) dX12_begins_7 p_X12_92 rfl rfl rfl rfl rfl ?_
  rw [← eM2]
  refine r_iconst dX12_begins_10 ?_
  refine r_istore_n (lv2 := [(3, vI 0), (0, vR 55), (1, vI a1), (2, vI a2)]) dX12_begins_11 rfl (by decide) rfl ?_
  obtain ⟨y6, M7, h9, h⟩ := of_bd2 h
  refine r_sub (lv2 := [(0, vR 55), (3, vI 0)]) [1, 0] rfl ?_
  refine lp_X12_begins_L12   (fun w => w = (y6, M7)) ?_ FU 0 M2 _ h9 rfl
  intro z0 z1 hw
  cases hw
  refine r_iconst dX12_begins_31 ?_
  refine r_istore_n (lv2 := [(3, vI 0), (0, vR 55)]) dX12_begins_32 rfl (by decide) rfl ?_
  obtain ⟨y12, M13, h9, h⟩ := of_bd2 h
  refine r_sub (lv2 := [(0, vR 55), (3, vI 0)]) [1, 0] rfl ?_
  refine lp_X12_begins_L33   (fun w => w = (y12, M13)) ?_ FU 0 M7 _ h9 rfl
  intro z0 z1 hw
  cases hw
  refine r_aload_n dX12_begins_60 rfl 0 rfl ?_
  obtain ⟨M15, hc14, h⟩ := of_bd1 h
  refine r_callVV (st := []) dX12_begins_61 v_X12_95 (run_X12_emptySlots hc14) (by decide) (by decide) rfl rfl (Nat.le_of_ble_eq_true rfl) rfl ?_
  cases h
  exact hQ _ _ dX12_begins_64

def m_X12_yard (M : Mem) (a1 : Int) (a2 : Int) : Option (Int × Mem) :=
  bd1 (m_X12_in (i2l a1) (1 : Int64) (8)) fun b2 =>
  if wr (bI b2) = 0 then
    some ((-1), M)
  else
    bd1 (m_X12_in (i2l a2) (1 : Int64) (8)) fun b5 =>
    if wr (bI b5) = 0 then
      some ((-1), M)
    else
      bd1 (m_X12_begins M a1 a2) fun M8 =>
      some (((gI M8 55 0) * (gI M8 55 1)), M8)
set_option maxRecDepth 10000 in
theorem run_X12_yard {M : Mem} {M2 : Mem} {a1 : Int} {a2 : Int} {r : Int}   (h : m_X12_yard M a1 a2 = some (r, M2)) : RunI 2 yX12_yard cX12_yard 3 (some .int) [vR 55, vI a1, vI a2] M r M2 := by
  refine runI_of (lv := [(0, vR 55), (1, vI a1), (2, vI a2)]) (by decide +kernel) (Or.inl rfl) (Nat.le_of_ble_eq_true rfl) rfl ?_
  intro G hQ
  unfold m_X12_yard at h
  refine r_iload_n dX12_yard_0 rfl 1 rfl ?_
  refine r_i2l dX12_yard_1 ?_
  refine r_lconst (v := 1) dX12_yard_2 rfl ?_
  refine r_ldc2 (v := (8)) dX12_yard_3 kl_X12_98 ?_
  obtain ⟨b2, hc1, h⟩ := of_bd1 h
  refine r_callSI (st := []) dX12_yard_6 v_X12_100 (run_X12_in hc1) (by decide) (by decide) rfl (Nat.le_of_ble_eq_true rfl) rfl ?_
  by_cases c3 : wr (bI b2) = 0
  · rw [if_pos c3] at h
    refine r_if_eq (tgt := 24) dX12_yard_9 (by decide) (fun _ => ?_) (fun q => absurd c3 q)
    refine r_iconst dX12_yard_24 ?_
    cases h
    exact hQ _ _ dX12_yard_25
  · rw [if_neg c3] at h
    refine r_if_eq (tgt := 24) dX12_yard_9 (by decide) (fun q => absurd q c3) (fun _ => ?_)
    refine r_iload_n dX12_yard_12 rfl 2 rfl ?_
    refine r_i2l dX12_yard_13 ?_
    refine r_lconst (v := 1) dX12_yard_14 rfl ?_
    refine r_ldc2 (v := (8)) dX12_yard_15 kl_X12_98 ?_
    obtain ⟨b5, hc4, h⟩ := of_bd1 h
    refine r_callSI (st := []) dX12_yard_18 v_X12_100 (run_X12_in hc4) (by decide) (by decide) rfl (Nat.le_of_ble_eq_true rfl) rfl ?_
    by_cases c6 : wr (bI b5) = 0
    · rw [if_pos c6] at h
      refine r_if_ne (tgt := 26) dX12_yard_21 (by decide) (fun q => absurd c6 q) (fun _ => ?_)
      refine r_iconst dX12_yard_24 ?_
      cases h
      exact hQ _ _ dX12_yard_25
    · rw [if_neg c6] at h
      refine r_if_ne (tgt := 26) dX12_yard_21 (by decide) (fun _ => ?_) (fun q => absurd q c6)
      refine r_aload_n dX12_yard_26 rfl 0 rfl ?_
      refine r_iload_n dX12_yard_27 rfl 1 rfl ?_
      refine r_iload_n dX12_yard_28 rfl 2 rfl ?_
      obtain ⟨M8, hc7, h⟩ := of_bd1 h
      refine r_callVV (st := []) dX12_yard_29 v_X12_84 (run_X12_begins hc7) (by decide) (by decide) rfl rfl (Nat.le_of_ble_eq_true rfl) rfl ?_
      refine r_aload_n dX12_yard_32 rfl 0 rfl ?_
      refine r_getI (j := 0) (jz := 0) dX12_yard_33 f_X12_88 rfl rfl rfl ?_
      refine r_aload_n dX12_yard_36 rfl 0 rfl ?_
      refine r_getI (j := 1) (jz := 1) dX12_yard_37 f_X12_92 rfl rfl rfl ?_
      refine r_imul dX12_yard_40 ?_
      cases h
      exact hQ _ _ dX12_yard_41

def m_X12_isCell (M : Mem) (a1 : Int) : Option (Bool) :=
  bd1 (m_X12_in (i2l a1) (0 : Int64) (i2l (((gI M 55 0) * (gI M 55 1)) - 1))) fun b2 =>
  some b2
set_option maxRecDepth 10000 in
theorem run_X12_isCell {M : Mem} {a1 : Int} {r : Bool}   (h : m_X12_isCell M a1 = some r) : RunI 1 yX12_isCell cX12_isCell 2 (some .boolean) [vR 55, vI a1] M (bI r) M := by
  refine runI_of (lv := [(0, vR 55), (1, vI a1)]) (by decide +kernel) (Or.inr ⟨rfl, bI_01 r⟩) (Nat.le_of_ble_eq_true rfl) rfl ?_
  intro G hQ
  unfold m_X12_isCell at h
  refine r_iload_n dX12_isCell_0 rfl 1 rfl ?_
  refine r_i2l dX12_isCell_1 ?_
  refine r_lconst (v := 0) dX12_isCell_2 rfl ?_
  refine r_aload_n dX12_isCell_3 rfl 0 rfl ?_
  refine r_getI (j := 0) (jz := 0) dX12_isCell_4 f_X12_88 rfl rfl rfl ?_
  refine r_aload_n dX12_isCell_7 rfl 0 rfl ?_
  refine r_getI (j := 1) (jz := 1) dX12_isCell_8 f_X12_92 rfl rfl rfl ?_
  refine r_imul dX12_isCell_11 ?_
  refine r_iconst dX12_isCell_12 ?_
  refine r_isub dX12_isCell_13 ?_
  refine r_i2l dX12_isCell_14 ?_
  obtain ⟨b2, hc1, h⟩ := of_bd1 h
  refine r_callSI (st := []) dX12_isCell_15 v_X12_100 (run_X12_in hc1) (by decide) (by decide) rfl (Nat.le_of_ble_eq_true rfl) rfl ?_
  cases h
  exact hQ _ _ dX12_isCell_18

def m_X12_isOpenAt (M : Mem) (a1 : Int) (a2 : Int) : Option (Bool) :=
  bd1 (m_X12_in (i2l a1) (0 : Int64) (i2l ((gI M 55 0) - 1))) fun b2 =>
  bd1 (
    if wr (bI b2) = 0 then
      some (0)
    else
      bd1 (m_X12_in (i2l a2) (0 : Int64) (i2l ((gI M 55 1) - 1))) fun b5 =>
      if wr (bI b5) = 0 then
        some (0)
      else
        if 0 ≤ wr (((gI M 55 0) * a2) + a1) ∧ wr (((gI M 55 0) * a2) + a1) < 64 then
        if wr (gI M 56 (wr (((gI M 55 0) * a2) + a1))) = 0 then
          some (0)
        else
          some (1)
        else none) fun (v9 : Int) =>
  if v9 = 0 ∨ v9 = 1 then some (decide (v9 = 1)) else none
set_option maxRecDepth 10000 in
theorem run_X12_isOpenAt {M : Mem} {a1 : Int} {a2 : Int} {r : Bool}   (h : m_X12_isOpenAt M a1 a2 = some r) : RunI 1 yX12_isOpenAt cX12_isOpenAt 3 (some .boolean) [vR 55, vI a1, vI a2] M (bI r) M := by
  refine runI_of (lv := [(0, vR 55), (1, vI a1), (2, vI a2)]) (by decide +kernel) (Or.inr ⟨rfl, bI_01 r⟩) (Nat.le_of_ble_eq_true rfl) rfl ?_
  intro G hQ
  unfold m_X12_isOpenAt at h
  refine r_iload_n dX12_isOpenAt_0 rfl 1 rfl ?_
  refine r_i2l dX12_isOpenAt_1 ?_
  refine r_lconst (v := 0) dX12_isOpenAt_2 rfl ?_
  refine r_aload_n dX12_isOpenAt_3 rfl 0 rfl ?_
  refine r_getI (j := 0) (jz := 0) dX12_isOpenAt_4 f_X12_88 rfl rfl rfl ?_
  refine r_iconst dX12_isOpenAt_7 ?_
  refine r_isub dX12_isOpenAt_8 ?_
  refine r_i2l dX12_isOpenAt_9 ?_
  obtain ⟨b2, hc1, h⟩ := of_bd1 h
  refine r_callSI (st := []) dX12_isOpenAt_10 v_X12_100 (run_X12_in hc1) (by decide) (by decide) rfl (Nat.le_of_ble_eq_true rfl) rfl ?_
  obtain ⟨v9, h9, h⟩ := of_bd1 h
  have kJ : Ex G 1 cX12_isOpenAt RX12 3 53 [] [vI v9] M := by
    obtain ⟨cz, h⟩ := of_ck h
    rw [← bI_dec cz]
    cases h
    exact hQ _ _ dX12_isOpenAt_53
  clear h
  have h := h9
  clear h9
  by_cases c3 : wr (bI b2) = 0
  · rw [if_pos c3] at h
    refine r_if_eq (tgt := 52) dX12_isOpenAt_13 (by decide) (fun _ => ?_) (fun q => absurd c3 q)
    refine r_iconst dX12_isOpenAt_52 ?_
    refine r_sub (lv2 := []) [] rfl ?_
    cases h
    exact kJ
  · rw [if_neg c3] at h
    refine r_if_eq (tgt := 52) dX12_isOpenAt_13 (by decide) (fun q => absurd q c3) (fun _ => ?_)
    refine r_iload_n dX12_isOpenAt_16 rfl 2 rfl ?_
    refine r_i2l dX12_isOpenAt_17 ?_
    refine r_lconst (v := 0) dX12_isOpenAt_18 rfl ?_
    refine r_aload_n dX12_isOpenAt_19 rfl 0 rfl ?_
    refine r_getI (j := 1) (jz := 1) dX12_isOpenAt_20 f_X12_92 rfl rfl rfl ?_
    refine r_iconst dX12_isOpenAt_23 ?_
    refine r_isub dX12_isOpenAt_24 ?_
    refine r_i2l dX12_isOpenAt_25 ?_
    obtain ⟨b5, hc4, h⟩ := of_bd1 h
    refine r_callSI (st := []) dX12_isOpenAt_26 v_X12_100 (run_X12_in hc4) (by decide) (by decide) rfl (Nat.le_of_ble_eq_true rfl) rfl ?_
    by_cases c6 : wr (bI b5) = 0
    · rw [if_pos c6] at h
      refine r_if_eq (tgt := 52) dX12_isOpenAt_29 (by decide) (fun _ => ?_) (fun q => absurd c6 q)
      refine r_iconst dX12_isOpenAt_52 ?_
      refine r_sub (lv2 := []) [] rfl ?_
      cases h
      exact kJ
    · rw [if_neg c6] at h
      refine r_if_eq (tgt := 52) dX12_isOpenAt_29 (by decide) (fun q => absurd q c6) (fun _ => ?_)
      refine r_aload_n dX12_isOpenAt_32 rfl 0 rfl ?_
      refine r_getR (j := 2) (v := 56) dX12_isOpenAt_33 f_X12_7 rfl rfl rfl ?_
      refine r_aload_n dX12_isOpenAt_36 rfl 0 rfl ?_
      refine r_getI (j := 0) (jz := 0) dX12_isOpenAt_37 f_X12_88 rfl rfl rfl ?_
      refine r_iload_n dX12_isOpenAt_40 rfl 2 rfl ?_
      refine r_imul dX12_isOpenAt_41 ?_
      refine r_iload_n dX12_isOpenAt_42 rfl 1 rfl ?_
      refine r_iadd dX12_isOpenAt_43 ?_
      obtain ⟨c7, h⟩ := of_ck h
      refine r_zald dX12_isOpenAt_44 rfl c7 ?_
      by_cases c8 : wr (gI M 56 (wr (((gI M 55 0) * a2) + a1))) = 0
      · rw [if_pos c8] at h
        refine r_if_eq (tgt := 52) dX12_isOpenAt_45 (by decide) (fun _ => ?_) (fun q => absurd c8 q)
        refine r_iconst dX12_isOpenAt_52 ?_
        refine r_sub (lv2 := []) [] rfl ?_
        cases h
        exact kJ
      · rw [if_neg c8] at h
        refine r_if_eq (tgt := 52) dX12_isOpenAt_45 (by decide) (fun q => absurd q c8) (fun _ => ?_)
        refine r_iconst dX12_isOpenAt_48 ?_
        refine r_goto (tgt := 53) dX12_isOpenAt_49 (by decide) ?_
        refine r_sub (lv2 := []) [] rfl ?_
        cases h
        exact kJ

def m_X12_isDark (a0 : Int) (a1 : Int) : Option (Bool) :=
  lt (if wr (irm (a0 + a1) 2) = 0 then 1 else 0) fun (v2 : Int) =>
  if v2 = 0 ∨ v2 = 1 then some (decide (v2 = 1)) else none
set_option maxRecDepth 10000 in
theorem run_X12_isDark {M : Mem} {a0 : Int} {a1 : Int} {r : Bool}   (h : m_X12_isDark a0 a1 = some r) : RunI 0 yX12_isDark cX12_isDark 2 (some .boolean) [vI a0, vI a1] M (bI r) M := by
  refine runI_of (lv := [(0, vI a0), (1, vI a1)]) (by decide +kernel) (Or.inr ⟨rfl, bI_01 r⟩) (Nat.le_of_ble_eq_true rfl) rfl ?_
  intro G hQ
  unfold m_X12_isDark at h
  refine r_iload_n dX12_isDark_0 rfl 0 rfl ?_
  refine r_iload_n dX12_isDark_1 rfl 1 rfl ?_
  refine r_iadd dX12_isDark_2 ?_
  refine r_iconst dX12_isDark_3 ?_
  refine r_irem dX12_isDark_4 (by decide) ?_
  obtain ⟨v2, ev2, h⟩ := of_lt h
  have kJ : Ex G 0 cX12_isDark RX12 2 13 [] [vI v2] M := by
    obtain ⟨cz, h⟩ := of_ck h
    rw [← bI_dec cz]
    cases h
    exact hQ _ _ dX12_isDark_13
  clear h
  by_cases c1 : wr (irm (a0 + a1) 2) = 0
  · skip
    refine r_if_ne (tgt := 12) dX12_isDark_5 (by decide) (fun q => absurd c1 q) (fun _ => ?_)
    refine r_iconst dX12_isDark_8 ?_
    refine r_goto (tgt := 13) dX12_isDark_9 (by decide) ?_
    rw [show v2 = 1 from by rw [ev2, if_pos c1]] at kJ
    refine r_sub (lv2 := []) [] rfl ?_
    exact kJ
  · skip
    refine r_if_ne (tgt := 12) dX12_isDark_5 (by decide) (fun _ => ?_) (fun q => absurd q c1)
    refine r_iconst dX12_isDark_12 ?_
    rw [show v2 = 0 from by rw [ev2, if_neg c1]] at kJ
    refine r_sub (lv2 := []) [] rfl ?_
    exact kJ

def m_X12_isDarkCell (M : Mem) (a1 : Int) : Option (Bool) :=
  if ¬ wr (gI M 55 0) = 0 then
  bd1 (m_X12_isDark (irm a1 (gI M 55 0)) (idv a1 (gI M 55 0))) fun b3 =>
  some b3
  else none
set_option maxRecDepth 10000 in
theorem run_X12_isDarkCell {M : Mem} {a1 : Int} {r : Bool}   (h : m_X12_isDarkCell M a1 = some r) : RunI 1 yX12_isDarkCell cX12_isDarkCell 2 (some .boolean) [vR 55, vI a1] M (bI r) M := by
  refine runI_of (lv := [(0, vR 55), (1, vI a1)]) (by decide +kernel) (Or.inr ⟨rfl, bI_01 r⟩) (Nat.le_of_ble_eq_true rfl) rfl ?_
  intro G hQ
  unfold m_X12_isDarkCell at h
  refine r_iload_n dX12_isDarkCell_0 rfl 1 rfl ?_
  refine r_aload_n dX12_isDarkCell_1 rfl 0 rfl ?_
  refine r_getI (j := 0) (jz := 0) dX12_isDarkCell_2 f_X12_88 rfl rfl rfl ?_
  obtain ⟨c1, h⟩ := of_ck h
  refine r_irem dX12_isDarkCell_5 c1 ?_
  refine r_iload_n dX12_isDarkCell_6 rfl 1 rfl ?_
  refine r_aload_n dX12_isDarkCell_7 rfl 0 rfl ?_
  refine r_getI (j := 0) (jz := 0) dX12_isDarkCell_8 f_X12_88 rfl rfl rfl ?_
  refine r_idiv dX12_isDarkCell_11 c1 ?_
  obtain ⟨b3, hc2, h⟩ := of_bd1 h
  refine r_callSI (st := []) dX12_isDarkCell_12 v_X12_104 (run_X12_isDark hc2) (by decide) (by decide) rfl (Nat.le_of_ble_eq_true rfl) rfl ?_
  cases h
  exact hQ _ _ dX12_isDarkCell_15

def m_X12_otherOf (M : Mem) (a1 : Int) : Option (Int) :=
  if wr (irm a1 2) = 0 then
    if ¬ wr (gI M 55 0) = 0 then
    lt (if wr (gI M 55 0) ≤ wr ((irm (idv a1 2) (gI M 55 0)) + 1) then (-1) else ((idv a1 2) + 1)) fun (v7 : Int) =>
    some v7
    else none
  else
    if ¬ wr (gI M 55 0) = 0 then
    lt (if wr (gI M 55 1) ≤ wr ((idv (idv a1 2) (gI M 55 0)) + 1) then (-1) else ((idv a1 2) + (gI M 55 0))) fun (v4 : Int) =>
    some v4
    else none
set_option maxRecDepth 10000 in
theorem run_X12_otherOf {M : Mem} {a1 : Int} {r : Int}   (h : m_X12_otherOf M a1 = some r) : RunI 0 yX12_otherOf cX12_otherOf 3 (some .int) [vR 55, vI a1] M r M := by
  refine runI_of (lv := [(0, vR 55), (1, vI a1)]) (by decide +kernel) (Or.inl rfl) (Nat.le_of_ble_eq_true rfl) rfl ?_
  intro G hQ
  unfold m_X12_otherOf at h
  refine r_iload_n dX12_otherOf_0 rfl 1 rfl ?_
  refine r_iconst dX12_otherOf_1 ?_
  refine r_idiv dX12_otherOf_2 (by decide) ?_
  refine r_istore_n (lv2 := [(2, vI (idv a1 2)), (0, vR 55), (1, vI a1)]) dX12_otherOf_3 rfl (by decide) rfl ?_
  refine r_iload_n dX12_otherOf_4 rfl 2 rfl ?_
  refine r_iconst dX12_otherOf_5 ?_
  refine r_irem dX12_otherOf_6 (by decide) ?_
  by_cases c1 : wr (irm a1 2) = 0
  · rw [if_pos c1] at h
    refine r_if_ne (tgt := 33) dX12_otherOf_7 (by decide) (fun q => absurd c1 q) (fun _ => ?_)
    refine r_iload_n dX12_otherOf_10 rfl 0 rfl ?_
    refine r_aload_n dX12_otherOf_11 rfl 1 rfl ?_
    refine r_getI (j := 0) (jz := 0) dX12_otherOf_12 f_X12_88 rfl rfl rfl ?_
    obtain ⟨c5, h⟩ := of_ck h
    refine r_irem dX12_otherOf_15 c5 ?_
    refine r_iconst dX12_otherOf_16 ?_
    refine r_iadd dX12_otherOf_17 ?_
    refine r_aload_n dX12_otherOf_18 rfl 1 rfl ?_
    refine r_getI (j := 0) (jz := 0) dX12_otherOf_19 f_X12_88 rfl rfl rfl ?_
    obtain ⟨v7, ev7, h⟩ := of_lt h
    have kJ : Ex G 0 cX12_otherOf RX12 3 32 [] [vI v7] M := by
      cases h
      exact hQ _ _ dX12_otherOf_32
    clear h
    by_cases c6 : wr (gI M 55 0) ≤ wr ((irm (idv a1 2) (gI M 55 0)) + 1)
    · skip
      refine r_icmp_ge (tgt := 31) dX12_otherOf_22 (by decide) (fun _ => ?_) (fun q => absurd c6 q)
      refine r_iconst dX12_otherOf_31 ?_
      rw [show v7 = (-1) from by rw [ev7, if_pos c6]] at kJ
      refine r_sub (lv2 := []) [] rfl ?_
      exact kJ
    · skip
      refine r_icmp_ge (tgt := 31) dX12_otherOf_22 (by decide) (fun q => absurd q c6) (fun _ => ?_)
      refine r_iload_n dX12_otherOf_25 rfl 0 rfl ?_
      refine r_iconst dX12_otherOf_26 ?_
      refine r_iadd dX12_otherOf_27 ?_
      refine r_goto (tgt := 32) dX12_otherOf_28 (by decide) ?_
      rw [show v7 = ((idv a1 2) + 1) from by rw [ev7, if_neg c6]] at kJ
      refine r_sub (lv2 := []) [] rfl ?_
      exact kJ
  · rw [if_neg c1] at h
    refine r_if_ne (tgt := 33) dX12_otherOf_7 (by decide) (fun _ => ?_) (fun q => absurd q c1)
    refine r_iload_n dX12_otherOf_33 rfl 0 rfl ?_
    refine r_aload_n dX12_otherOf_34 rfl 1 rfl ?_
    refine r_getI (j := 0) (jz := 0) dX12_otherOf_35 f_X12_88 rfl rfl rfl ?_
    obtain ⟨c2, h⟩ := of_ck h
    refine r_idiv dX12_otherOf_38 c2 ?_
    refine r_iconst dX12_otherOf_39 ?_
    refine r_iadd dX12_otherOf_40 ?_
    refine r_aload_n dX12_otherOf_41 rfl 1 rfl ?_
    refine r_getI (j := 1) (jz := 1) dX12_otherOf_42 f_X12_92 rfl rfl rfl ?_
    obtain ⟨v4, ev4, h⟩ := of_lt h
    have kJ : Ex G 0 cX12_otherOf RX12 3 58 [] [vI v4] M := by
      cases h
      exact hQ _ _ dX12_otherOf_58
    clear h
    by_cases c3 : wr (gI M 55 1) ≤ wr ((idv (idv a1 2) (gI M 55 0)) + 1)
    · skip
      refine r_icmp_ge (tgt := 57) dX12_otherOf_45 (by decide) (fun _ => ?_) (fun q => absurd c3 q)
      refine r_iconst dX12_otherOf_57 ?_
      rw [show v4 = (-1) from by rw [ev4, if_pos c3]] at kJ
      refine r_sub (lv2 := []) [] rfl ?_
      exact kJ
    · skip
      refine r_icmp_ge (tgt := 57) dX12_otherOf_45 (by decide) (fun q => absurd q c3) (fun _ => ?_)
      refine r_iload_n dX12_otherOf_48 rfl 0 rfl ?_
      refine r_aload_n dX12_otherOf_49 rfl 1 rfl ?_
      refine r_getI (j := 0) (jz := 0) dX12_otherOf_50 f_X12_88 rfl rfl rfl ?_
      refine r_iadd dX12_otherOf_53 ?_
      refine r_goto (tgt := 58) dX12_otherOf_54 (by decide) ?_
      rw [show v4 = ((idv a1 2) + (gI M 55 0)) from by rw [ev4, if_neg c3]] at kJ
      refine r_sub (lv2 := []) [] rfl ?_
      exact kJ

def m_X12_isBrick (M : Mem) (a1 : Int) : Option (Bool) :=
  bd1 (m_X12_in (i2l a1) (0 : Int64) (i2l (((2 * (gI M 55 0)) * (gI M 55 1)) - 1))) fun b2 =>
  if wr (bI b2) = 0 then
    some false
  else
    bd1 (m_X12_otherOf M a1) fun r5 =>
    bd1 (
      if wr r5 < 0 then
        some (0)
      else
        if 0 ≤ wr (idv a1 2) ∧ wr (idv a1 2) < 64 then
        if wr (gI M 56 (wr (idv a1 2))) = 0 then
          some (0)
        else
          if 0 ≤ wr r5 ∧ wr r5 < 64 then
          if wr (gI M 56 (wr r5)) = 0 then
            some (0)
          else
            some (1)
          else none
        else none) fun (v11 : Int) =>
    if v11 = 0 ∨ v11 = 1 then some (decide (v11 = 1)) else none
set_option maxRecDepth 10000 in
theorem run_X12_isBrick {M : Mem} {a1 : Int} {r : Bool}   (h : m_X12_isBrick M a1 = some r) : RunI 1 yX12_isBrick cX12_isBrick 3 (some .boolean) [vR 55, vI a1] M (bI r) M := by
  refine runI_of (lv := [(0, vR 55), (1, vI a1)]) (by decide +kernel) (Or.inr ⟨rfl, bI_01 r⟩) (Nat.le_of_ble_eq_true rfl) rfl ?_
  intro G hQ
  unfold m_X12_isBrick at h
  refine r_iload_n dX12_isBrick_0 rfl 1 rfl ?_
  refine r_i2l dX12_isBrick_1 ?_
  refine r_lconst (v := 0) dX12_isBrick_2 rfl ?_
  refine r_iconst dX12_isBrick_3 ?_
  refine r_aload_n dX12_isBrick_4 rfl 0 rfl ?_
  refine r_getI (j := 0) (jz := 0) dX12_isBrick_5 f_X12_88 rfl rfl rfl ?_
  refine r_imul dX12_isBrick_8 ?_
  refine r_aload_n dX12_isBrick_9 rfl 0 rfl ?_
  refine r_getI (j := 1) (jz := 1) dX12_isBrick_10 f_X12_92 rfl rfl rfl ?_
  refine r_imul dX12_isBrick_13 ?_
  refine r_iconst dX12_isBrick_14 ?_
  refine r_isub dX12_isBrick_15 ?_
  refine r_i2l dX12_isBrick_16 ?_
  obtain ⟨b2, hc1, h⟩ := of_bd1 h
  refine r_callSI (st := []) dX12_isBrick_17 v_X12_100 (run_X12_in hc1) (by decide) (by decide) rfl (Nat.le_of_ble_eq_true rfl) rfl ?_
  by_cases c3 : wr (bI b2) = 0
  · rw [if_pos c3] at h
    refine r_if_ne (tgt := 25) dX12_isBrick_20 (by decide) (fun q => absurd c3 q) (fun _ => ?_)
    refine r_iconst dX12_isBrick_23 ?_
    cases h
    exact hQ _ _ dX12_isBrick_24
  · rw [if_neg c3] at h
    refine r_if_ne (tgt := 25) dX12_isBrick_20 (by decide) (fun _ => ?_) (fun q => absurd q c3)
    refine r_aload_n dX12_isBrick_25 rfl 0 rfl ?_
    refine r_iload_n dX12_isBrick_26 rfl 1 rfl ?_
    obtain ⟨r5, hc4, h⟩ := of_bd1 h
    refine r_callVI (st := []) dX12_isBrick_27 v_X12_108 (run_X12_otherOf hc4) (by decide) (by decide) rfl rfl (Nat.le_of_ble_eq_true rfl) rfl ?_
    refine r_istore_n (lv2 := [(2, vI r5), (0, vR 55), (1, vI a1)]) dX12_isBrick_30 rfl (by decide) rfl ?_
    refine r_iload_n dX12_isBrick_31 rfl 0 rfl ?_
    obtain ⟨v11, h9, h⟩ := of_bd1 h
    have kJ : Ex G 1 cX12_isBrick RX12 3 60 [] [vI v11] M := by
      obtain ⟨cz, h⟩ := of_ck h
      rw [← bI_dec cz]
      cases h
      exact hQ _ _ dX12_isBrick_60
    clear h
    have h := h9
    clear h9
    by_cases c6 : wr r5 < 0
    · rw [if_pos c6] at h
      refine r_if_lt (tgt := 59) dX12_isBrick_32 (by decide) (fun _ => ?_) (fun q => absurd c6 q)
      refine r_iconst dX12_isBrick_59 ?_
      refine r_sub (lv2 := []) [] rfl ?_
      cases h
      exact kJ
    · rw [if_neg c6] at h
      refine r_if_lt (tgt := 59) dX12_isBrick_32 (by decide) (fun q => absurd q c6) (fun _ => ?_)
      refine r_aload_n dX12_isBrick_35 rfl 1 rfl ?_
      refine r_getR (j := 2) (v := 56) dX12_isBrick_36 f_X12_7 rfl rfl rfl ?_
      refine r_iload_n dX12_isBrick_39 rfl 2 rfl ?_
      refine r_iconst dX12_isBrick_40 ?_
      refine r_idiv dX12_isBrick_41 (by decide) ?_
      obtain ⟨c7, h⟩ := of_ck h
      refine r_zald dX12_isBrick_42 rfl c7 ?_
      by_cases c8 : wr (gI M 56 (wr (idv a1 2))) = 0
      · rw [if_pos c8] at h
        refine r_if_eq (tgt := 59) dX12_isBrick_43 (by decide) (fun _ => ?_) (fun q => absurd c8 q)
        refine r_iconst dX12_isBrick_59 ?_
        refine r_sub (lv2 := []) [] rfl ?_
        cases h
        exact kJ
      · rw [if_neg c8] at h
        refine r_if_eq (tgt := 59) dX12_isBrick_43 (by decide) (fun q => absurd q c8) (fun _ => ?_)
        refine r_aload_n dX12_isBrick_46 rfl 1 rfl ?_
        refine r_getR (j := 2) (v := 56) dX12_isBrick_47 f_X12_7 rfl rfl rfl ?_
        refine r_iload_n dX12_isBrick_50 rfl 0 rfl ?_
        obtain ⟨c9, h⟩ := of_ck h
        refine r_zald dX12_isBrick_51 rfl c9 ?_
        by_cases c10 : wr (gI M 56 (wr r5)) = 0
        · rw [if_pos c10] at h
          refine r_if_eq (tgt := 59) dX12_isBrick_52 (by decide) (fun _ => ?_) (fun q => absurd c10 q)
          refine r_iconst dX12_isBrick_59 ?_
          refine r_sub (lv2 := []) [] rfl ?_
          cases h
          exact kJ
        · rw [if_neg c10] at h
          refine r_if_eq (tgt := 59) dX12_isBrick_52 (by decide) (fun q => absurd q c10) (fun _ => ?_)
          refine r_iconst dX12_isBrick_55 ?_
          refine r_goto (tgt := 60) dX12_isBrick_56 (by decide) ?_
          refine r_sub (lv2 := []) [] rfl ?_
          cases h
          exact kJ

def m_X12_frees (M : Mem) (a1 : Int) : Option (Mem) :=
  if 0 ≤ wr a1 ∧ wr a1 < 128 then
  lt (sI M 57 (wr a1) 0) fun M2 =>
  lt (sI M2 58 (wr a1) 0) fun M3 =>
  some M3
  else none
set_option maxRecDepth 10000 in
theorem run_X12_frees {M : Mem} {M2 : Mem} {a1 : Int}   (h : m_X12_frees M a1 = some (M2)) : RunV 0 yX12_frees cX12_frees 2 none [vR 55, vI a1] M M2 := by
  refine runV_of (lv := [(0, vR 55), (1, vI a1)]) (by decide +kernel) rfl (Nat.le_of_ble_eq_true rfl) rfl ?_
  intro G hQ
  unfold m_X12_frees at h
  refine r_aload_n dX12_frees_0 rfl 0 rfl ?_
  refine r_getR (j := 3) (v := 57) dX12_frees_1 f_X12_13 rfl rfl rfl ?_
  refine r_iload_n dX12_frees_4 rfl 1 rfl ?_
  refine r_iconst dX12_frees_5 ?_
  obtain ⟨c1, h⟩ := of_ck h
  obtain ⟨M2, eM2, h⟩ := of_lt h
  refine r_iast dX12_frees_6 rfl c1 ?_
  rw [← eM2]
  refine r_aload_n dX12_frees_7 rfl 0 rfl ?_
  refine r_getR (j := 4) (v := 58) dX12_frees_8 f_X12_17 rfl rfl rfl ?_
  refine r_iload_n dX12_frees_11 rfl 1 rfl ?_
  refine r_iconst dX12_frees_12 ?_
  obtain ⟨M3, eM3, h⟩ := of_lt h
  refine r_iast dX12_frees_13 rfl c1 ?_
  rw [← eM3]
  cases h
  exact hQ _ _ dX12_frees_14

def m_X12_sets (M : Mem) (a1 : Int) (a2 : Int) : Option (Mem) :=
  if 0 ≤ wr a1 ∧ wr a1 < 64 then
  if wr (gI M 56 (wr a1)) = wr a2 then
    some M
  else
    if a2 = 0 ∨ a2 = 1 then
    lt (sI M 56 (wr a1) a2) fun M4 =>
    bd1 (m_X12_frees M4 (2 * a1)) fun M6 =>
    bd1 (m_X12_frees M6 ((2 * a1) + 1)) fun M8 =>
    if ¬ wr (gI M8 55 0) = 0 then
    bd1 (
      if wr (irm a1 (gI M8 55 0)) ≤ 0 then
        some (M8)
      else
        bd1 (m_X12_frees M8 ((2 * a1) - 2)) fun M12 =>
        some (M12)) fun (M13 : Mem) =>
    bd1 (
      if wr a1 < wr (gI M13 55 0) then
        some (M13)
      else
        bd1 (m_X12_frees M13 ((2 * (a1 - (gI M13 55 0))) + 1)) fun M16 =>
        some (M16)) fun (M17 : Mem) =>
    bd1 (m_X12_emptySlots M17) fun M19 =>
    some M19
    else none
    else none
  else none
set_option maxRecDepth 10000 in
theorem run_X12_sets {M : Mem} {M2 : Mem} {a1 : Int} {a2 : Int}   (h : m_X12_sets M a1 a2 = some (M2)) : RunV 1 yX12_sets cX12_sets 3 none [vR 55, vI a1, vI a2] M M2 := by
  refine runV_of (lv := [(0, vR 55), (1, vI a1), (2, vI a2)]) (by decide +kernel) rfl (Nat.le_of_ble_eq_true rfl) rfl ?_
  intro G hQ
  unfold m_X12_sets at h
  refine r_aload_n dX12_sets_0 rfl 0 rfl ?_
  refine r_getR (j := 2) (v := 56) dX12_sets_1 f_X12_7 rfl rfl rfl ?_
  refine r_iload_n dX12_sets_4 rfl 1 rfl ?_
  obtain ⟨c1, h⟩ := of_ck h
  refine r_zald dX12_sets_5 rfl c1 ?_
  refine r_iload_n dX12_sets_6 rfl 2 rfl ?_
  by_cases c2 : wr (gI M 56 (wr a1)) = wr a2
  · rw [if_pos c2] at h
    refine r_icmp_ne (tgt := 11) dX12_sets_7 (by decide) (fun q => absurd c2 q) (fun _ => ?_)
    cases h
    exact hQ _ _ dX12_sets_10
  · rw [if_neg c2] at h
    refine r_icmp_ne (tgt := 11) dX12_sets_7 (by decide) (fun _ => ?_) (fun q => absurd q c2)
    refine r_aload_n dX12_sets_11 rfl 0 rfl ?_
    refine r_getR (j := 2) (v := 56) dX12_sets_12 f_X12_7 rfl rfl rfl ?_
    refine r_iload_n dX12_sets_15 rfl 1 rfl ?_
    refine r_iload_n dX12_sets_16 rfl 2 rfl ?_
    obtain ⟨c3, h⟩ := of_ck h
    obtain ⟨M4, eM4, h⟩ := of_lt h
    refine r_zast dX12_sets_17 rfl c1 c3 ?_
    rw [← eM4]
    refine r_aload_n dX12_sets_18 rfl 0 rfl ?_
    refine r_iconst dX12_sets_19 ?_
    refine r_iload_n dX12_sets_20 rfl 1 rfl ?_
    refine r_imul dX12_sets_21 ?_
    obtain ⟨M6, hc5, h⟩ := of_bd1 h
    refine r_callVV (st := []) dX12_sets_22 v_X12_112 (run_X12_frees hc5) (by decide) (by decide) rfl rfl (Nat.le_of_ble_eq_true rfl) rfl ?_
    refine r_aload_n dX12_sets_25 rfl 0 rfl ?_
    refine r_iconst dX12_sets_26 ?_
    refine r_iload_n dX12_sets_27 rfl 1 rfl ?_
    refine r_imul dX12_sets_28 ?_
    refine r_iconst dX12_sets_29 ?_
    refine r_iadd dX12_sets_30 ?_
    obtain ⟨M8, hc7, h⟩ := of_bd1 h
    refine r_callVV (st := []) dX12_sets_31 v_X12_112 (run_X12_frees hc7) (by decide) (by decide) rfl rfl (Nat.le_of_ble_eq_true rfl) rfl ?_
    refine r_iload_n dX12_sets_34 rfl 1 rfl ?_
    refine r_aload_n dX12_sets_35 rfl 0 rfl ?_
    refine r_getI (j := 0) (jz := 0) dX12_sets_36 f_X12_88 rfl rfl rfl ?_
    obtain ⟨c9, h⟩ := of_ck h
    refine r_irem dX12_sets_39 c9 ?_
    obtain ⟨M13, h9, h⟩ := of_bd1 h
    have kJ : Ex G 1 cX12_sets RX12 3 52 [(0, vR 55), (1, vI a1)] [] M13 := by
      refine r_iload_n dX12_sets_52 rfl 1 rfl ?_
      refine r_aload_n dX12_sets_53 rfl 0 rfl ?_
      refine r_getI (j := 0) (jz := 0) dX12_sets_54 f_X12_88 rfl rfl rfl ?_
      obtain ⟨M17, h9, h⟩ := of_bd1 h
      have kJ : Ex G 1 cX12_sets RX12 3 74 [(0, vR 55)] [] M17 := by
        refine r_aload_n dX12_sets_74 rfl 0 rfl ?_
        obtain ⟨M19, hc18, h⟩ := of_bd1 h
        refine r_callVV (st := []) dX12_sets_75 v_X12_95 (run_X12_emptySlots hc18) (by decide) (by decide) rfl rfl (Nat.le_of_ble_eq_true rfl) rfl ?_
        cases h
        exact hQ _ _ dX12_sets_78
      clear h
      have h := h9
      clear h9
      by_cases c14 : wr a1 < wr (gI M13 55 0)
      · rw [if_pos c14] at h
        refine r_icmp_lt (tgt := 74) dX12_sets_57 (by decide) (fun _ => ?_) (fun q => absurd c14 q)
        refine r_sub (lv2 := [(0, vR 55)]) [0] rfl ?_
        cases h
        exact kJ
      · rw [if_neg c14] at h
        refine r_icmp_lt (tgt := 74) dX12_sets_57 (by decide) (fun q => absurd q c14) (fun _ => ?_)
        refine r_aload_n dX12_sets_60 rfl 0 rfl ?_
        refine r_iconst dX12_sets_61 ?_
        refine r_iload_n dX12_sets_62 rfl 1 rfl ?_
        refine r_aload_n dX12_sets_63 rfl 0 rfl ?_
        refine r_getI (j := 0) (jz := 0) dX12_sets_64 f_X12_88 rfl rfl rfl ?_
        refine r_isub dX12_sets_67 ?_
        refine r_imul dX12_sets_68 ?_
        refine r_iconst dX12_sets_69 ?_
        refine r_iadd dX12_sets_70 ?_
        obtain ⟨M16, hc15, h⟩ := of_bd1 h
        refine r_callVV (st := []) dX12_sets_71 v_X12_112 (run_X12_frees hc15) (by decide) (by decide) rfl rfl (Nat.le_of_ble_eq_true rfl) rfl ?_
        refine r_sub (lv2 := [(0, vR 55)]) [0] rfl ?_
        cases h
        exact kJ
    clear h
    have h := h9
    clear h9
    by_cases c10 : wr (irm a1 (gI M8 55 0)) ≤ 0
    · rw [if_pos c10] at h
      refine r_if_le (tgt := 52) dX12_sets_40 (by decide) (fun _ => ?_) (fun q => absurd c10 q)
      refine r_sub (lv2 := [(0, vR 55), (1, vI a1)]) [0, 1] rfl ?_
      cases h
      exact kJ
    · rw [if_neg c10] at h
      refine r_if_le (tgt := 52) dX12_sets_40 (by decide) (fun q => absurd q c10) (fun _ => ?_)
      refine r_aload_n dX12_sets_43 rfl 0 rfl ?_
      refine r_iconst dX12_sets_44 ?_
      refine r_iload_n dX12_sets_45 rfl 1 rfl ?_
      refine r_imul dX12_sets_46 ?_
      refine r_iconst dX12_sets_47 ?_
      refine r_isub dX12_sets_48 ?_
      obtain ⟨M12, hc11, h⟩ := of_bd1 h
      refine r_callVV (st := []) dX12_sets_49 v_X12_112 (run_X12_frees hc11) (by decide) (by decide) rfl rfl (Nat.le_of_ble_eq_true rfl) rfl ?_
      refine r_sub (lv2 := [(0, vR 55), (1, vI a1)]) [0, 1] rfl ?_
      cases h
      exact kJ

def m_X12_cell (M : Mem) (a1 : Int) (a2 : Int) : Option (Int × Mem) :=
  bd1 (m_X12_isCell M a1) fun b2 =>
  if wr (bI b2) = 0 then
    some ((-1), M)
  else
    if 0 ≤ wr a1 ∧ wr a1 < 64 then
    bd1 (m_X12_sets M a1 a2) fun M6 =>
    lt (if wr (gI M 56 (wr a1)) = 0 then 0 else 1) fun (v8 : Int) =>
    some (v8, M6)
    else none
set_option maxRecDepth 10000 in
theorem run_X12_cell {M : Mem} {M2 : Mem} {a1 : Int} {a2 : Int} {r : Int}   (h : m_X12_cell M a1 a2 = some (r, M2)) : RunI 2 yX12_cell cX12_cell 4 (some .int) [vR 55, vI a1, vI a2] M r M2 := by
  refine runI_of (lv := [(0, vR 55), (1, vI a1), (2, vI a2)]) (by decide +kernel) (Or.inl rfl) (Nat.le_of_ble_eq_true rfl) rfl ?_
  intro G hQ
  unfold m_X12_cell at h
  refine r_aload_n dX12_cell_0 rfl 0 rfl ?_
  refine r_iload_n dX12_cell_1 rfl 1 rfl ?_
  obtain ⟨b2, hc1, h⟩ := of_bd1 h
  refine r_callVI (st := []) dX12_cell_2 v_X12_116 (run_X12_isCell hc1) (by decide) (by decide) rfl rfl (Nat.le_of_ble_eq_true rfl) rfl ?_
  by_cases c3 : wr (bI b2) = 0
  · rw [if_pos c3] at h
    refine r_if_ne (tgt := 10) dX12_cell_5 (by decide) (fun q => absurd c3 q) (fun _ => ?_)
    refine r_iconst dX12_cell_8 ?_
    cases h
    exact hQ _ _ dX12_cell_9
  · rw [if_neg c3] at h
    refine r_if_ne (tgt := 10) dX12_cell_5 (by decide) (fun _ => ?_) (fun q => absurd q c3)
    refine r_aload_n dX12_cell_10 rfl 0 rfl ?_
    refine r_getR (j := 2) (v := 56) dX12_cell_11 f_X12_7 rfl rfl rfl ?_
    refine r_iload_n dX12_cell_14 rfl 1 rfl ?_
    obtain ⟨c4, h⟩ := of_ck h
    refine r_zald dX12_cell_15 rfl c4 ?_
    refine r_istore_n (lv2 := [(3, vI (gI M 56 (wr a1))), (0, vR 55), (1, vI a1), (2, vI a2)]) dX12_cell_16 rfl (by decide) rfl ?_
    refine r_aload_n dX12_cell_17 rfl 1 rfl ?_
    refine r_iload_n dX12_cell_18 rfl 2 rfl ?_
    refine r_iload_n dX12_cell_19 rfl 3 rfl ?_
    obtain ⟨M6, hc5, h⟩ := of_bd1 h
    refine r_callVV (st := []) dX12_cell_20 v_X12_120 (run_X12_sets hc5) (by decide) (by decide) rfl rfl (Nat.le_of_ble_eq_true rfl) rfl ?_
    refine r_iload_n dX12_cell_23 rfl 0 rfl ?_
    obtain ⟨v8, ev8, h⟩ := of_lt h
    have kJ : Ex G 2 cX12_cell RX12 4 32 [] [vI v8] M6 := by
      cases h
      exact hQ _ _ dX12_cell_32
    clear h
    by_cases c7 : wr (gI M 56 (wr a1)) = 0
    · skip
      refine r_if_eq (tgt := 31) dX12_cell_24 (by decide) (fun _ => ?_) (fun q => absurd c7 q)
      refine r_iconst dX12_cell_31 ?_
      rw [show v8 = 0 from by rw [ev8, if_pos c7]] at kJ
      refine r_sub (lv2 := []) [] rfl ?_
      exact kJ
    · skip
      refine r_if_eq (tgt := 31) dX12_cell_24 (by decide) (fun q => absurd q c7) (fun _ => ?_)
      refine r_iconst dX12_cell_27 ?_
      refine r_goto (tgt := 32) dX12_cell_28 (by decide) ?_
      rw [show v8 = 1 from by rw [ev8, if_neg c7]] at kJ
      refine r_sub (lv2 := []) [] rfl ?_
      exact kJ

def m_X12_type_L17 (M : Mem) (p1 : Int64) (p3 : Int) (x4 : Int) : Option ((Int) ⊕ ((Int) ⊕ (Int × Mem))) :=
  if wr p3 ≤ wr x4 then
    some (.inr (.inl (x4)))
  else
    bd1 (m_X12_in ((lshr p1 (8 * x4)) &&& (255)) (32) (126)) fun b6 =>
    if wr (bI b6) = 0 then
      some (.inr (.inr ((-1), M)))
    else
      some (.inl ((x4 + 1)))
def m_X12_type_L73 (M : Mem) (p1 : Int64) (x4 : Int) : Option ((Int × Mem) ⊕ (Int × Mem)) :=
  if wr x4 < 0 then
    some (.inr (x4, M))
  else
    if 0 ≤ wr (gI M 55 8) ∧ wr (gI M 55 8) < 90 then
    lt (sI M 61 (wr (gI M 55 8)) (l2i ((lshr p1 (8 * x4)) &&& (255)))) fun M12 =>
    lt (sI M12 55 8 ((gI M12 55 8) + 1)) fun M13 =>
    some (.inl ((x4 + (-1)), M13))
    else none
def m_X12_type (M : Mem) (a1 : Int64) (a2 : Int) : Option (Int × Mem) :=
  bd1 (m_X12_in (i2l a2) (1 : Int64) (8)) fun b2 =>
  if wr (bI b2) = 0 then
    some ((-1), M)
  else
    be1 (itr (fun s => m_X12_type_L17 M a1 a2 s) FU (0)) (fun y8 =>
    if wr ((gI M 55 8) + a2) ≤ wr 90 then
      bd2 (itr (fun s => m_X12_type_L73 s.2 a1 s.1) FU ((a2 - 1), M)) fun y14 M15 =>
      some ((gI M15 55 8), M15)
    else
      some ((-3), M))
set_option maxRecDepth 10000 in
theorem lp_X12_type_L17 {G : Gx} (M : Mem) (p1 : Int64) (p3 : Int)   (X : ((Int) ⊕ (Int × Mem)) → Prop) (hX1 : ∀ (x4 : Int), X (.inl (x4)) → Ex G 1 cX12_type RX12 5 54 [(0, vR 55), (1, vL p1), (3, vI p3), (4, vI x4)] [] M) (hX2 : ∀ (r : Int) (M2 : Mem), X (.inr (r, M2)) → RetI G 1 cX12_type RX12 5 r M2) : ∀ (nn : Nat) (x4 : Int) (out : (Int) ⊕ (Int × Mem)), itr (fun s => m_X12_type_L17 M p1 p3 s) nn (x4) = some out → X out → Ex G 1 cX12_type RX12 5 17 [(0, vR 55), (1, vL p1), (3, vI p3), (4, vI x4)] [] M := by
  intro nn
  induction nn with
  | zero =>
    intro x4 out h _
    cases h
  | succ nn ih =>
    intro x4 out h0 hX
    obtain ⟨w, h, k1, k2⟩ := itr_inv h0
    have h : m_X12_type_L17 M p1 p3 x4 = some w := h
    unfold m_X12_type_L17 at h
    refine r_iload dX12_type_17 3 rfl ?_
    refine r_iload_n dX12_type_19 rfl 2 rfl ?_
    by_cases c4 : wr p3 ≤ wr x4
    · rw [if_pos c4] at h
      refine r_icmp_ge (tgt := 54) dX12_type_20 (by decide) (fun _ => ?_) (fun q => absurd c4 q)
      cases h
      cases k2 _ rfl
      exact hX1 _ hX
    · rw [if_neg c4] at h
      refine r_icmp_ge (tgt := 54) dX12_type_20 (by decide) (fun q => absurd q c4) (fun _ => ?_)
      refine r_lload_n dX12_type_23 rfl 1 rfl ?_
      refine r_bipush dX12_type_24 (by decide) ?_
      refine r_iload dX12_type_26 3 rfl ?_
      refine r_imul dX12_type_28 ?_
      refine r_lshr dX12_type_29 ?_
      refine r_ldc2 (v := (255)) dX12_type_30 kl_X12_124 ?_
      refine r_land dX12_type_33 ?_
      refine r_ldc2 (v := (32)) dX12_type_34 kl_X12_126 ?_
      refine r_ldc2 (v := (126)) dX12_type_37 kl_X12_128 ?_
      obtain ⟨b6, hc5, h⟩ := of_bd1 h
      refine r_callSI (st := []) dX12_type_40 v_X12_100 (run_X12_in hc5) (by decide) (by decide) rfl (Nat.le_of_ble_eq_true rfl) rfl ?_
      by_cases c7 : wr (bI b6) = 0
      · rw [if_pos c7] at h
        refine r_if_ne (tgt := 48) dX12_type_43 (by decide) (fun q => absurd c7 q) (fun _ => ?_)
        refine r_iconst dX12_type_46 ?_
        cases h
        cases k2 _ rfl
        exact hX2 _ _ hX _ _ dX12_type_47
      · rw [if_neg c7] at h
        refine r_if_ne (tgt := 48) dX12_type_43 (by decide) (fun _ => ?_) (fun q => absurd q c7)
        refine r_iinc (lv2 := [(4, vI (x4 + 1)), (0, vR 55), (1, vL p1), (3, vI p3)]) dX12_type_48 3 rfl (by decide) rfl ?_
        refine r_goto (tgt := 17) dX12_type_51 (by decide) ?_
        refine r_sub (lv2 := [(0, vR 55), (1, vL p1), (3, vI p3), (4, vI (x4 + 1))]) [1, 2, 3, 0] rfl ?_
        cases h
        exact ih _  _ (k1 _ rfl) hX

set_option maxRecDepth 10000 in
theorem lp_X12_type_L73 {G : Gx} (p1 : Int64)   (X : (Int × Mem) → Prop) (hX1 : ∀ (x4 : Int) (M : Mem), X (x4, M) → Ex G 1 cX12_type RX12 5 115 [(0, vR 55), (1, vL p1), (4, vI x4)] [] M) : ∀ (nn : Nat) (x4 : Int) (M : Mem) (out : Int × Mem), itr (fun s => m_X12_type_L73 s.2 p1 s.1) nn (x4, M) = some out → X out → Ex G 1 cX12_type RX12 5 73 [(0, vR 55), (1, vL p1), (4, vI x4)] [] M := by
  intro nn
  induction nn with
  | zero =>
    intro x4 M out h _
    cases h
  | succ nn ih =>
    intro x4 M out h0 hX
    obtain ⟨w, h, k1, k2⟩ := itr_inv h0
    have h : m_X12_type_L73 M p1 x4 = some w := h
    unfold m_X12_type_L73 at h
    refine r_iload dX12_type_73 2 rfl ?_
    by_cases c10 : wr x4 < 0
    · rw [if_pos c10] at h
      refine r_if_lt (tgt := 115) dX12_type_75 (by decide) (fun _ => ?_) (fun q => absurd c10 q)
      cases h
      cases k2 _ rfl
      exact hX1 _ _ hX
    · rw [if_neg c10] at h
      refine r_if_lt (tgt := 115) dX12_type_75 (by decide) (fun q => absurd q c10) (fun _ => ?_)
      refine r_aload_n dX12_type_78 rfl 0 rfl ?_
      refine r_getR (j := 7) (v := 61) dX12_type_79 f_X12_26 rfl rfl rfl ?_
      refine r_aload_n dX12_type_82 rfl 0 rfl ?_
      refine r_getI (j := 8) (jz := 8) dX12_type_83 f_X12_130 rfl rfl rfl ?_
      refine r_lload_n dX12_type_86 rfl 1 rfl ?_
      refine r_bipush dX12_type_87 (by decide) ?_
      refine r_iload dX12_type_89 2 rfl ?_
      refine r_imul dX12_type_91 ?_
      refine r_lshr dX12_type_92 ?_
      refine r_ldc2 (v := (255)) dX12_type_93 kl_X12_124 ?_
      refine r_land dX12_type_96 ?_
      refine r_l2i dX12_type_97 ?_
      obtain ⟨c11, h⟩ := of_ck h
      obtain ⟨M12, eM12, h⟩ := of_lt h
      refine r_iast dX12_type_98 rfl c11 ?_
      rw [← eM12]
      refine r_aload_n dX12_type_99 rfl 0 rfl ?_
      refine r_dup dX12_type_100 rfl ?_
      refine r_getI (j := 8) (jz := 8) dX12_type_101 f_X12_130 rfl rfl rfl ?_
      refine r_iconst dX12_type_104 ?_
      refine r_iadd dX12_type_105 ?_
      obtain ⟨M13, eM13, h⟩ := of_lt h
      refine r_putI (j := 8) (jz := 8) dX12_type_106 p_X12_130 rfl rfl rfl rfl rfl ?_
      rw [← eM13]
      refine r_iinc (lv2 := [(4, vI (x4 + (-1))), (0, vR 55), (1, vL p1)]) dX12_type_109 2 rfl (by decide) rfl ?_
      refine r_goto (tgt := 73) dX12_type_112 (by decide) ?_
      refine r_sub (lv2 := [(0, vR 55), (1, vL p1), (4, vI (x4 + (-1)))]) [1, 2, 0] rfl ?_
      cases h
      exact ih _ _  _ (k1 _ rfl) hX

set_option maxRecDepth 10000 in
theorem run_X12_type {M : Mem} {M2 : Mem} {a1 : Int64} {a2 : Int} {r : Int}   (h : m_X12_type M a1 a2 = some (r, M2)) : RunI 1 yX12_type cX12_type 5 (some .int) [vR 55, vL a1, vI a2] M r M2 := by
  refine runI_of (lv := [(0, vR 55), (1, vL a1), (3, vI a2)]) (by decide +kernel) (Or.inl rfl) (Nat.le_of_ble_eq_true rfl) rfl ?_
  intro G hQ
  unfold m_X12_type at h
  refine r_iload_n dX12_type_0 rfl 2 rfl ?_
  refine r_i2l dX12_type_1 ?_
  refine r_lconst (v := 1) dX12_type_2 rfl ?_
  refine r_ldc2 (v := (8)) dX12_type_3 kl_X12_98 ?_
  obtain ⟨b2, hc1, h⟩ := of_bd1 h
  refine r_callSI (st := []) dX12_type_6 v_X12_100 (run_X12_in hc1) (by decide) (by decide) rfl (Nat.le_of_ble_eq_true rfl) rfl ?_
  by_cases c3 : wr (bI b2) = 0
  · rw [if_pos c3] at h
    refine r_if_ne (tgt := 14) dX12_type_9 (by decide) (fun q => absurd c3 q) (fun _ => ?_)
    refine r_iconst dX12_type_12 ?_
    cases h
    exact hQ _ _ dX12_type_13
  · rw [if_neg c3] at h
    refine r_if_ne (tgt := 14) dX12_type_9 (by decide) (fun _ => ?_) (fun q => absurd q c3)
    refine r_iconst dX12_type_14 ?_
    refine r_istore (lv2 := [(4, vI 0), (0, vR 55), (1, vL a1), (3, vI a2)]) dX12_type_15 (by decide) rfl ?_
    obtain ⟨w9, h9, h⟩ := of_be1 h
    refine r_sub (lv2 := [(0, vR 55), (1, vL a1), (3, vI a2), (4, vI 0)]) [1, 2, 3, 0] rfl ?_
    refine lp_X12_type_L17 M a1 a2  (fun w => w = w9) ?_ ?_ FU 0 w9 h9 rfl
    · intro y8 hw
      subst hw
      have h := h.1 _  rfl
      refine r_aload_n dX12_type_54 rfl 0 rfl ?_
      refine r_getI (j := 8) (jz := 8) dX12_type_55 f_X12_130 rfl rfl rfl ?_
      refine r_iload_n dX12_type_58 rfl 2 rfl ?_
      refine r_iadd dX12_type_59 ?_
      refine r_bipush dX12_type_60 (by decide) ?_
      by_cases c9 : wr ((gI M 55 8) + a2) ≤ wr 90
      · rw [if_pos c9] at h
        refine r_icmp_le (tgt := 68) dX12_type_62 (by decide) (fun _ => ?_) (fun q => absurd c9 q)
        refine r_iload_n dX12_type_68 rfl 2 rfl ?_
        refine r_iconst dX12_type_69 ?_
        refine r_isub dX12_type_70 ?_
        refine r_istore (lv2 := [(4, vI (a2 - 1)), (0, vR 55), (1, vL a1), (3, vI a2)]) dX12_type_71 (by decide) rfl ?_
        obtain ⟨y14, M15, h9, h⟩ := of_bd2 h
        refine r_sub (lv2 := [(0, vR 55), (1, vL a1), (4, vI (a2 - 1))]) [1, 2, 0] rfl ?_
        refine lp_X12_type_L73 a1  (fun w => w = (y14, M15)) ?_ FU (a2 - 1) M _ h9 rfl
        intro z0 z1 hw
        cases hw
        refine r_aload_n dX12_type_115 rfl 0 rfl ?_
        refine r_getI (j := 8) (jz := 8) dX12_type_116 f_X12_130 rfl rfl rfl ?_
        cases h
        exact hQ _ _ dX12_type_119
      · rw [if_neg c9] at h
        refine r_icmp_le (tgt := 68) dX12_type_62 (by decide) (fun q => absurd q c9) (fun _ => ?_)
        refine r_bipush dX12_type_65 (by decide) ?_
        cases h
        exact hQ _ _ dX12_type_67
    · intro r9 M9 hw
      subst hw
      have h := h.2 _ rfl
      cases h
      exact hQ

