def m_X12_whole (M : Mem) : Option (Int × Mem) :=
  bd2 (m_X12_isWhole M) fun b2 M3 =>
  lt (if wr (bI b2) = 0 then 0 else 1) fun (v5 : Int) =>
  some (v5, M3)
set_option maxRecDepth 10000 in
theorem run_X12_whole {M : Mem} {M2 : Mem} {r : Int}   (h : m_X12_whole M = some (r, M2)) : RunI 5 yX12_whole cX12_whole 1 (some .int) [vR 55] M r M2 := by
  refine runI_of (lv := [(0, vR 55)]) (by decide +kernel) (Or.inl rfl) (Nat.le_of_ble_eq_true rfl) rfl ?_
  intro G hQ
  unfold m_X12_whole at h
  refine r_aload_n dX12_whole_0 rfl 0 rfl ?_
  obtain ⟨b2, M3, hc1, h⟩ := of_bd2 h
  refine r_callVI (st := []) dX12_whole_1 v_X12_235 (run_X12_isWhole hc1) (by decide) (by decide) rfl rfl (Nat.le_of_ble_eq_true rfl) rfl ?_
  obtain ⟨v5, ev5, h⟩ := of_lt h
  have kJ : Ex G 5 cX12_whole RX12 1 12 [] [vI v5] M3 := by
    cases h
    exact hQ _ _ dX12_whole_12
  clear h
  by_cases c4 : wr (bI b2) = 0
  · skip
    refine r_if_eq (tgt := 11) dX12_whole_4 (by decide) (fun _ => ?_) (fun q => absurd c4 q)
    refine r_iconst dX12_whole_11 ?_
    rw [show v5 = 0 from by rw [ev5, if_pos c4]] at kJ
    refine r_sub (lv2 := []) [] rfl ?_
    exact kJ
  · skip
    refine r_if_eq (tgt := 11) dX12_whole_4 (by decide) (fun q => absurd q c4) (fun _ => ?_)
    refine r_iconst dX12_whole_7 ?_
    refine r_goto (tgt := 12) dX12_whole_8 (by decide) ?_
    rw [show v5 = 1 from by rw [ev5, if_neg c4]] at kJ
    refine r_sub (lv2 := []) [] rfl ?_
    exact kJ

def m_X12_isCorner (M : Mem) (a1 : Int) (a2 : Int) : Option (Bool) :=
  bd1 (m_X12_in (i2l a1) (0 : Int64) (i2l (gI M 55 0))) fun b2 =>
  bd1 (
    if wr (bI b2) = 0 then
      some (0)
    else
      bd1 (m_X12_in (i2l a2) (0 : Int64) (i2l (gI M 55 1))) fun b5 =>
      if wr (bI b5) = 0 then
        some (0)
      else
        bd1 (m_X12_isOpenAt M (a1 - 1) (a2 - 1)) fun b8 =>
        if wr (bI b8) = 0 then
          bd1 (m_X12_isOpenAt M a1 (a2 - 1)) fun b11 =>
          if wr (bI b11) = 0 then
            bd1 (m_X12_isOpenAt M (a1 - 1) a2) fun b14 =>
            if wr (bI b14) = 0 then
              bd1 (m_X12_isOpenAt M a1 a2) fun b17 =>
              if wr (bI b17) = 0 then
                some (0)
              else
                some (1)
            else
              some (1)
          else
            some (1)
        else
          some (1)) fun (v19 : Int) =>
  if v19 = 0 ∨ v19 = 1 then some (decide (v19 = 1)) else none
set_option maxRecDepth 10000 in
theorem run_X12_isCorner {M : Mem} {a1 : Int} {a2 : Int} {r : Bool}   (h : m_X12_isCorner M a1 a2 = some r) : RunI 2 yX12_isCorner cX12_isCorner 3 (some .boolean) [vR 55, vI a1, vI a2] M (bI r) M := by
  refine runI_of (lv := [(0, vR 55), (1, vI a1), (2, vI a2)]) (by decide +kernel) (Or.inr ⟨rfl, bI_01 r⟩) (Nat.le_of_ble_eq_true rfl) rfl ?_
  intro G hQ
  unfold m_X12_isCorner at h
  refine r_iload_n dX12_isCorner_0 rfl 1 rfl ?_
  refine r_i2l dX12_isCorner_1 ?_
  refine r_lconst (v := 0) dX12_isCorner_2 rfl ?_
  refine r_aload_n dX12_isCorner_3 rfl 0 rfl ?_
  refine r_getI (j := 0) (jz := 0) dX12_isCorner_4 f_X12_88 rfl rfl rfl ?_
  refine r_i2l dX12_isCorner_7 ?_
  obtain ⟨b2, hc1, h⟩ := of_bd1 h
  refine r_callSI (st := []) dX12_isCorner_8 v_X12_100 (run_X12_in hc1) (by decide) (by decide) rfl (Nat.le_of_ble_eq_true rfl) rfl ?_
  obtain ⟨v19, h9, h⟩ := of_bd1 h
  have kJ : Ex G 2 cX12_isCorner RX12 3 77 [] [vI v19] M := by
    obtain ⟨cz, h⟩ := of_ck h
    rw [← bI_dec cz]
    cases h
    exact hQ _ _ dX12_isCorner_77
  clear h
  have h := h9
  clear h9
  by_cases c3 : wr (bI b2) = 0
  · rw [if_pos c3] at h
    refine r_if_eq (tgt := 76) dX12_isCorner_11 (by decide) (fun _ => ?_) (fun q => absurd c3 q)
    refine r_iconst dX12_isCorner_76 ?_
    refine r_sub (lv2 := []) [] rfl ?_
    cases h
    exact kJ
  · rw [if_neg c3] at h
    refine r_if_eq (tgt := 76) dX12_isCorner_11 (by decide) (fun q => absurd q c3) (fun _ => ?_)
    refine r_iload_n dX12_isCorner_14 rfl 2 rfl ?_
    refine r_i2l dX12_isCorner_15 ?_
    refine r_lconst (v := 0) dX12_isCorner_16 rfl ?_
    refine r_aload_n dX12_isCorner_17 rfl 0 rfl ?_
    refine r_getI (j := 1) (jz := 1) dX12_isCorner_18 f_X12_92 rfl rfl rfl ?_
    refine r_i2l dX12_isCorner_21 ?_
    obtain ⟨b5, hc4, h⟩ := of_bd1 h
    refine r_callSI (st := []) dX12_isCorner_22 v_X12_100 (run_X12_in hc4) (by decide) (by decide) rfl (Nat.le_of_ble_eq_true rfl) rfl ?_
    by_cases c6 : wr (bI b5) = 0
    · rw [if_pos c6] at h
      refine r_if_eq (tgt := 76) dX12_isCorner_25 (by decide) (fun _ => ?_) (fun q => absurd c6 q)
      refine r_iconst dX12_isCorner_76 ?_
      refine r_sub (lv2 := []) [] rfl ?_
      cases h
      exact kJ
    · rw [if_neg c6] at h
      refine r_if_eq (tgt := 76) dX12_isCorner_25 (by decide) (fun q => absurd q c6) (fun _ => ?_)
      refine r_aload_n dX12_isCorner_28 rfl 0 rfl ?_
      refine r_iload_n dX12_isCorner_29 rfl 1 rfl ?_
      refine r_iconst dX12_isCorner_30 ?_
      refine r_isub dX12_isCorner_31 ?_
      refine r_iload_n dX12_isCorner_32 rfl 2 rfl ?_
      refine r_iconst dX12_isCorner_33 ?_
      refine r_isub dX12_isCorner_34 ?_
      obtain ⟨b8, hc7, h⟩ := of_bd1 h
      refine r_callVI (st := []) dX12_isCorner_35 v_X12_210 (run_X12_isOpenAt hc7) (by decide) (by decide) rfl rfl (Nat.le_of_ble_eq_true rfl) rfl ?_
      by_cases c9 : wr (bI b8) = 0
      · rw [if_pos c9] at h
        refine r_if_ne (tgt := 72) dX12_isCorner_38 (by decide) (fun q => absurd c9 q) (fun _ => ?_)
        refine r_aload_n dX12_isCorner_41 rfl 0 rfl ?_
        refine r_iload_n dX12_isCorner_42 rfl 1 rfl ?_
        refine r_iload_n dX12_isCorner_43 rfl 2 rfl ?_
        refine r_iconst dX12_isCorner_44 ?_
        refine r_isub dX12_isCorner_45 ?_
        obtain ⟨b11, hc10, h⟩ := of_bd1 h
        refine r_callVI (st := []) dX12_isCorner_46 v_X12_210 (run_X12_isOpenAt hc10) (by decide) (by decide) rfl rfl (Nat.le_of_ble_eq_true rfl) rfl ?_
        by_cases c12 : wr (bI b11) = 0
        · rw [if_pos c12] at h
          refine r_if_ne (tgt := 72) dX12_isCorner_49 (by decide) (fun q => absurd c12 q) (fun _ => ?_)
          refine r_aload_n dX12_isCorner_52 rfl 0 rfl ?_
          refine r_iload_n dX12_isCorner_53 rfl 1 rfl ?_
          refine r_iconst dX12_isCorner_54 ?_
          refine r_isub dX12_isCorner_55 ?_
          refine r_iload_n dX12_isCorner_56 rfl 2 rfl ?_
          obtain ⟨b14, hc13, h⟩ := of_bd1 h
          refine r_callVI (st := []) dX12_isCorner_57 v_X12_210 (run_X12_isOpenAt hc13) (by decide) (by decide) rfl rfl (Nat.le_of_ble_eq_true rfl) rfl ?_
          by_cases c15 : wr (bI b14) = 0
          · rw [if_pos c15] at h
            refine r_if_ne (tgt := 72) dX12_isCorner_60 (by decide) (fun q => absurd c15 q) (fun _ => ?_)
            refine r_aload_n dX12_isCorner_63 rfl 0 rfl ?_
            refine r_iload_n dX12_isCorner_64 rfl 1 rfl ?_
            refine r_iload_n dX12_isCorner_65 rfl 2 rfl ?_
            obtain ⟨b17, hc16, h⟩ := of_bd1 h
            refine r_callVI (st := []) dX12_isCorner_66 v_X12_210 (run_X12_isOpenAt hc16) (by decide) (by decide) rfl rfl (Nat.le_of_ble_eq_true rfl) rfl ?_
            by_cases c18 : wr (bI b17) = 0
            · rw [if_pos c18] at h
              refine r_if_eq (tgt := 76) dX12_isCorner_69 (by decide) (fun _ => ?_) (fun q => absurd c18 q)
              refine r_iconst dX12_isCorner_76 ?_
              refine r_sub (lv2 := []) [] rfl ?_
              cases h
              exact kJ
            · rw [if_neg c18] at h
              refine r_if_eq (tgt := 76) dX12_isCorner_69 (by decide) (fun q => absurd q c18) (fun _ => ?_)
              refine r_iconst dX12_isCorner_72 ?_
              refine r_goto (tgt := 77) dX12_isCorner_73 (by decide) ?_
              refine r_sub (lv2 := []) [] rfl ?_
              cases h
              exact kJ
          · rw [if_neg c15] at h
            refine r_if_ne (tgt := 72) dX12_isCorner_60 (by decide) (fun _ => ?_) (fun q => absurd q c15)
            refine r_iconst dX12_isCorner_72 ?_
            refine r_goto (tgt := 77) dX12_isCorner_73 (by decide) ?_
            refine r_sub (lv2 := []) [] rfl ?_
            cases h
            exact kJ
        · rw [if_neg c12] at h
          refine r_if_ne (tgt := 72) dX12_isCorner_49 (by decide) (fun _ => ?_) (fun q => absurd q c12)
          refine r_iconst dX12_isCorner_72 ?_
          refine r_goto (tgt := 77) dX12_isCorner_73 (by decide) ?_
          refine r_sub (lv2 := []) [] rfl ?_
          cases h
          exact kJ
      · rw [if_neg c9] at h
        refine r_if_ne (tgt := 72) dX12_isCorner_38 (by decide) (fun _ => ?_) (fun q => absurd q c9)
        refine r_iconst dX12_isCorner_72 ?_
        refine r_goto (tgt := 77) dX12_isCorner_73 (by decide) ?_
        refine r_sub (lv2 := []) [] rfl ?_
        cases h
        exact kJ

def m_X12_isBarred (M : Mem) (a1 : Int) (a2 : Int) (a3 : Int) (a4 : Int) (a5 : Int) : Option (Bool) :=
  bd1 (m_X12_isOpenAt M a2 a3) fun b2 =>
  bd1 (m_X12_isOpenAt M a4 a5) fun b4 =>
  bd1 (
    if wr (bI b2) = 0 then
      if wr (bI b4) = 0 then
        some (1)
      else
        if wr (bI b2) = 0 then
          some (0)
        else
          if wr (bI b4) = 0 then
            some (0)
          else
            if 0 ≤ wr (((64 * a1) + ((gI M 55 0) * a3)) + a2) ∧ wr (((64 * a1) + ((gI M 55 0) * a3)) + a2) < 256 then
            if 0 ≤ wr (((64 * a1) + ((gI M 55 0) * a5)) + a4) ∧ wr (((64 * a1) + ((gI M 55 0) * a5)) + a4) < 256 then
            if wr (gI M 60 (wr (((64 * a1) + ((gI M 55 0) * a3)) + a2))) = wr (gI M 60 (wr (((64 * a1) + ((gI M 55 0) * a5)) + a4))) then
              some (1)
            else
              some (0)
            else none
            else none
    else
      if wr (bI b2) = 0 then
        some (0)
      else
        if wr (bI b4) = 0 then
          some (0)
        else
          if 0 ≤ wr (((64 * a1) + ((gI M 55 0) * a3)) + a2) ∧ wr (((64 * a1) + ((gI M 55 0) * a3)) + a2) < 256 then
          if 0 ≤ wr (((64 * a1) + ((gI M 55 0) * a5)) + a4) ∧ wr (((64 * a1) + ((gI M 55 0) * a5)) + a4) < 256 then
          if wr (gI M 60 (wr (((64 * a1) + ((gI M 55 0) * a3)) + a2))) = wr (gI M 60 (wr (((64 * a1) + ((gI M 55 0) * a5)) + a4))) then
            some (1)
          else
            some (0)
          else none
          else none) fun (v17 : Int) =>
  if v17 = 0 ∨ v17 = 1 then some (decide (v17 = 1)) else none
set_option maxRecDepth 10000 in
theorem run_X12_isBarred {M : Mem} {a1 : Int} {a2 : Int} {a3 : Int} {a4 : Int} {a5 : Int} {r : Bool}   (h : m_X12_isBarred M a1 a2 a3 a4 a5 = some r) : RunI 2 yX12_isBarred cX12_isBarred 8 (some .boolean) [vR 55, vI a1, vI a2, vI a3, vI a4, vI a5] M (bI r) M := by
  refine runI_of (lv := [(0, vR 55), (1, vI a1), (2, vI a2), (3, vI a3), (4, vI a4), (5, vI a5)]) (by decide +kernel) (Or.inr ⟨rfl, bI_01 r⟩) (Nat.le_of_ble_eq_true rfl) rfl ?_
  intro G hQ
  unfold m_X12_isBarred at h
  refine r_aload_n dX12_isBarred_0 rfl 0 rfl ?_
  refine r_iload_n dX12_isBarred_1 rfl 2 rfl ?_
  refine r_iload_n dX12_isBarred_2 rfl 3 rfl ?_
  obtain ⟨b2, hc1, h⟩ := of_bd1 h
  refine r_callVI (st := []) dX12_isBarred_3 v_X12_210 (run_X12_isOpenAt hc1) (by decide) (by decide) rfl rfl (Nat.le_of_ble_eq_true rfl) rfl ?_
  refine r_istore (lv2 := [(6, vI (bI b2)), (0, vR 55), (1, vI a1), (2, vI a2), (3, vI a3), (4, vI a4), (5, vI a5)]) dX12_isBarred_6 (by decide) rfl ?_
  refine r_aload_n dX12_isBarred_8 rfl 1 rfl ?_
  refine r_iload dX12_isBarred_9 5 rfl ?_
  refine r_iload dX12_isBarred_11 6 rfl ?_
  obtain ⟨b4, hc3, h⟩ := of_bd1 h
  refine r_callVI (st := []) dX12_isBarred_13 v_X12_210 (run_X12_isOpenAt hc3) (by decide) (by decide) rfl rfl (Nat.le_of_ble_eq_true rfl) rfl ?_
  refine r_istore (lv2 := [(7, vI (bI b4)), (6, vI (bI b2)), (0, vR 55), (1, vI a1), (2, vI a2), (3, vI a3), (4, vI a4), (5, vI a5)]) dX12_isBarred_16 (by decide) rfl ?_
  refine r_iload dX12_isBarred_18 1 rfl ?_
  obtain ⟨v17, h9, h⟩ := of_bd1 h
  have kJ : Ex G 2 cX12_isBarred RX12 8 84 [] [vI v17] M := by
    obtain ⟨cz, h⟩ := of_ck h
    rw [← bI_dec cz]
    cases h
    exact hQ _ _ dX12_isBarred_84
  clear h
  have h := h9
  clear h9
  by_cases c5 : wr (bI b2) = 0
  · rw [if_pos c5] at h
    refine r_if_ne (tgt := 28) dX12_isBarred_20 (by decide) (fun q => absurd c5 q) (fun _ => ?_)
    refine r_iload dX12_isBarred_23 0 rfl ?_
    by_cases c11 : wr (bI b4) = 0
    · rw [if_pos c11] at h
      refine r_if_eq (tgt := 79) dX12_isBarred_25 (by decide) (fun _ => ?_) (fun q => absurd c11 q)
      refine r_iconst dX12_isBarred_79 ?_
      refine r_goto (tgt := 84) dX12_isBarred_80 (by decide) ?_
      refine r_sub (lv2 := []) [] rfl ?_
      cases h
      exact kJ
    · rw [if_neg c11] at h
      refine r_if_eq (tgt := 79) dX12_isBarred_25 (by decide) (fun q => absurd q c11) (fun _ => ?_)
      refine r_iload dX12_isBarred_28 1 rfl ?_
      by_cases c12 : wr (bI b2) = 0
      · rw [if_pos c12] at h
        refine r_if_eq (tgt := 83) dX12_isBarred_30 (by decide) (fun _ => ?_) (fun q => absurd c12 q)
        refine r_iconst dX12_isBarred_83 ?_
        refine r_sub (lv2 := []) [] rfl ?_
        cases h
        exact kJ
      · rw [if_neg c12] at h
        refine r_if_eq (tgt := 83) dX12_isBarred_30 (by decide) (fun q => absurd q c12) (fun _ => ?_)
        refine r_iload dX12_isBarred_33 0 rfl ?_
        by_cases c13 : wr (bI b4) = 0
        · rw [if_pos c13] at h
          refine r_if_eq (tgt := 83) dX12_isBarred_35 (by decide) (fun _ => ?_) (fun q => absurd c13 q)
          refine r_iconst dX12_isBarred_83 ?_
          refine r_sub (lv2 := []) [] rfl ?_
          cases h
          exact kJ
        · rw [if_neg c13] at h
          refine r_if_eq (tgt := 83) dX12_isBarred_35 (by decide) (fun q => absurd q c13) (fun _ => ?_)
          refine r_aload_n dX12_isBarred_38 rfl 2 rfl ?_
          refine r_getR (j := 6) (v := 60) dX12_isBarred_39 f_X12_23 rfl rfl rfl ?_
          refine r_bipush dX12_isBarred_42 (by decide) ?_
          refine r_iload_n dX12_isBarred_44 rfl 3 rfl ?_
          refine r_imul dX12_isBarred_45 ?_
          refine r_aload_n dX12_isBarred_46 rfl 2 rfl ?_
          refine r_getI (j := 0) (jz := 0) dX12_isBarred_47 f_X12_88 rfl rfl rfl ?_
          refine r_iload_n dX12_isBarred_50 rfl 5 rfl ?_
          refine r_imul dX12_isBarred_51 ?_
          refine r_iadd dX12_isBarred_52 ?_
          refine r_iload_n dX12_isBarred_53 rfl 4 rfl ?_
          refine r_iadd dX12_isBarred_54 ?_
          obtain ⟨c14, h⟩ := of_ck h
          refine r_iald dX12_isBarred_55 rfl c14 ?_
          refine r_aload_n dX12_isBarred_56 rfl 2 rfl ?_
          refine r_getR (j := 6) (v := 60) dX12_isBarred_57 f_X12_23 rfl rfl rfl ?_
          refine r_bipush dX12_isBarred_60 (by decide) ?_
          refine r_iload_n dX12_isBarred_62 rfl 3 rfl ?_
          refine r_imul dX12_isBarred_63 ?_
          refine r_aload_n dX12_isBarred_64 rfl 2 rfl ?_
          refine r_getI (j := 0) (jz := 0) dX12_isBarred_65 f_X12_88 rfl rfl rfl ?_
          refine r_iload dX12_isBarred_68 7 rfl ?_
          refine r_imul dX12_isBarred_70 ?_
          refine r_iadd dX12_isBarred_71 ?_
          refine r_iload dX12_isBarred_72 6 rfl ?_
          refine r_iadd dX12_isBarred_74 ?_
          obtain ⟨c15, h⟩ := of_ck h
          refine r_iald dX12_isBarred_75 rfl c15 ?_
          by_cases c16 : wr (gI M 60 (wr (((64 * a1) + ((gI M 55 0) * a3)) + a2))) = wr (gI M 60 (wr (((64 * a1) + ((gI M 55 0) * a5)) + a4)))
          · rw [if_pos c16] at h
            refine r_icmp_ne (tgt := 83) dX12_isBarred_76 (by decide) (fun q => absurd c16 q) (fun _ => ?_)
            refine r_iconst dX12_isBarred_79 ?_
            refine r_goto (tgt := 84) dX12_isBarred_80 (by decide) ?_
            refine r_sub (lv2 := []) [] rfl ?_
            cases h
            exact kJ
          · rw [if_neg c16] at h
            refine r_icmp_ne (tgt := 83) dX12_isBarred_76 (by decide) (fun _ => ?_) (fun q => absurd q c16)
            refine r_iconst dX12_isBarred_83 ?_
            refine r_sub (lv2 := []) [] rfl ?_
            cases h
            exact kJ
  · rw [if_neg c5] at h
    refine r_if_ne (tgt := 28) dX12_isBarred_20 (by decide) (fun _ => ?_) (fun q => absurd q c5)
    refine r_iload dX12_isBarred_28 1 rfl ?_
    by_cases c6 : wr (bI b2) = 0
    · rw [if_pos c6] at h
      refine r_if_eq (tgt := 83) dX12_isBarred_30 (by decide) (fun _ => ?_) (fun q => absurd c6 q)
      refine r_iconst dX12_isBarred_83 ?_
      refine r_sub (lv2 := []) [] rfl ?_
      cases h
      exact kJ
    · rw [if_neg c6] at h
      refine r_if_eq (tgt := 83) dX12_isBarred_30 (by decide) (fun q => absurd q c6) (fun _ => ?_)
      refine r_iload dX12_isBarred_33 0 rfl ?_
      by_cases c7 : wr (bI b4) = 0
      · rw [if_pos c7] at h
        refine r_if_eq (tgt := 83) dX12_isBarred_35 (by decide) (fun _ => ?_) (fun q => absurd c7 q)
        refine r_iconst dX12_isBarred_83 ?_
        refine r_sub (lv2 := []) [] rfl ?_
        cases h
        exact kJ
      · rw [if_neg c7] at h
        refine r_if_eq (tgt := 83) dX12_isBarred_35 (by decide) (fun q => absurd q c7) (fun _ => ?_)
        refine r_aload_n dX12_isBarred_38 rfl 2 rfl ?_
        refine r_getR (j := 6) (v := 60) dX12_isBarred_39 f_X12_23 rfl rfl rfl ?_
        refine r_bipush dX12_isBarred_42 (by decide) ?_
        refine r_iload_n dX12_isBarred_44 rfl 3 rfl ?_
        refine r_imul dX12_isBarred_45 ?_
        refine r_aload_n dX12_isBarred_46 rfl 2 rfl ?_
        refine r_getI (j := 0) (jz := 0) dX12_isBarred_47 f_X12_88 rfl rfl rfl ?_
        refine r_iload_n dX12_isBarred_50 rfl 5 rfl ?_
        refine r_imul dX12_isBarred_51 ?_
        refine r_iadd dX12_isBarred_52 ?_
        refine r_iload_n dX12_isBarred_53 rfl 4 rfl ?_
        refine r_iadd dX12_isBarred_54 ?_
        obtain ⟨c8, h⟩ := of_ck h
        refine r_iald dX12_isBarred_55 rfl c8 ?_
        refine r_aload_n dX12_isBarred_56 rfl 2 rfl ?_
        refine r_getR (j := 6) (v := 60) dX12_isBarred_57 f_X12_23 rfl rfl rfl ?_
        refine r_bipush dX12_isBarred_60 (by decide) ?_
        refine r_iload_n dX12_isBarred_62 rfl 3 rfl ?_
        refine r_imul dX12_isBarred_63 ?_
        refine r_aload_n dX12_isBarred_64 rfl 2 rfl ?_
        refine r_getI (j := 0) (jz := 0) dX12_isBarred_65 f_X12_88 rfl rfl rfl ?_
        refine r_iload dX12_isBarred_68 7 rfl ?_
        refine r_imul dX12_isBarred_70 ?_
        refine r_iadd dX12_isBarred_71 ?_
        refine r_iload dX12_isBarred_72 6 rfl ?_
        refine r_iadd dX12_isBarred_74 ?_
        obtain ⟨c9, h⟩ := of_ck h
        refine r_iald dX12_isBarred_75 rfl c9 ?_
        by_cases c10 : wr (gI M 60 (wr (((64 * a1) + ((gI M 55 0) * a3)) + a2))) = wr (gI M 60 (wr (((64 * a1) + ((gI M 55 0) * a5)) + a4)))
        · rw [if_pos c10] at h
          refine r_icmp_ne (tgt := 83) dX12_isBarred_76 (by decide) (fun q => absurd c10 q) (fun _ => ?_)
          refine r_iconst dX12_isBarred_79 ?_
          refine r_goto (tgt := 84) dX12_isBarred_80 (by decide) ?_
          refine r_sub (lv2 := []) [] rfl ?_
          cases h
          exact kJ
        · rw [if_neg c10] at h
          refine r_icmp_ne (tgt := 83) dX12_isBarred_76 (by decide) (fun _ => ?_) (fun q => absurd q c10)
          refine r_iconst dX12_isBarred_83 ?_
          refine r_sub (lv2 := []) [] rfl ?_
          cases h
          exact kJ

def m_X12_steps (M : Mem) (a1 : Int) (a2 : Int) (a3 : Int) (a4 : Int) : Option (Int) :=
  if wr a4 = 0 then
    bd1 (
      if wr a2 = wr (gI M 55 0) then
        some (0)
      else
        bd1 (m_X12_isBarred M a1 a2 (a3 - 1) a2 a3) fun b12 =>
        if wr (bI b12) = 0 then
          bd1 (m_X12_isDark (a2 + 1) a3) fun b15 =>
          if wr (bI b15) = 0 then
            some ((-1))
          else
            some (1)
        else
          some (0)) fun (v17 : Int) =>
    some v17
  else
    bd1 (
      if wr a3 = wr (gI M 55 1) then
        some (0)
      else
        bd1 (m_X12_isBarred M a1 (a2 - 1) a3 a2 a3) fun b4 =>
        if wr (bI b4) = 0 then
          bd1 (m_X12_isDark a2 a3) fun b7 =>
          if wr (bI b7) = 0 then
            some ((-1))
          else
            some (1)
        else
          some (0)) fun (v9 : Int) =>
    some v9
set_option maxRecDepth 10000 in
theorem run_X12_steps {M : Mem} {a1 : Int} {a2 : Int} {a3 : Int} {a4 : Int} {r : Int}   (h : m_X12_steps M a1 a2 a3 a4 = some r) : RunI 3 yX12_steps cX12_steps 5 (some .int) [vR 55, vI a1, vI a2, vI a3, vI a4] M r M := by
  refine runI_of (lv := [(0, vR 55), (1, vI a1), (2, vI a2), (3, vI a3), (4, vI a4)]) (by decide +kernel) (Or.inl rfl) (Nat.le_of_ble_eq_true rfl) rfl ?_
  intro G hQ
  unfold m_X12_steps at h
  refine r_iload dX12_steps_0 4 rfl ?_
  by_cases c1 : wr a4 = 0
  · rw [if_pos c1] at h
    refine r_if_ne (tgt := 47) dX12_steps_2 (by decide) (fun q => absurd c1 q) (fun _ => ?_)
    refine r_iload_n dX12_steps_5 rfl 2 rfl ?_
    refine r_aload_n dX12_steps_6 rfl 0 rfl ?_
    refine r_getI (j := 0) (jz := 0) dX12_steps_7 f_X12_88 rfl rfl rfl ?_
    obtain ⟨v17, h9, h⟩ := of_bd1 h
    have kJ : Ex G 3 cX12_steps RX12 5 46 [] [vI v17] M := by
      cases h
      exact hQ _ _ dX12_steps_46
    clear h
    have h := h9
    clear h9
    by_cases c10 : wr a2 = wr (gI M 55 0)
    · rw [if_pos c10] at h
      refine r_icmp_eq (tgt := 27) dX12_steps_10 (by decide) (fun _ => ?_) (fun q => absurd c10 q)
      refine r_iconst dX12_steps_27 ?_
      refine r_goto (tgt := 46) dX12_steps_28 (by decide) ?_
      refine r_sub (lv2 := []) [] rfl ?_
      cases h
      exact kJ
    · rw [if_neg c10] at h
      refine r_icmp_eq (tgt := 27) dX12_steps_10 (by decide) (fun q => absurd q c10) (fun _ => ?_)
      refine r_aload_n dX12_steps_13 rfl 0 rfl ?_
      refine r_iload_n dX12_steps_14 rfl 1 rfl ?_
      refine r_iload_n dX12_steps_15 rfl 2 rfl ?_
      refine r_iload_n dX12_steps_16 rfl 3 rfl ?_
      refine r_iconst dX12_steps_17 ?_
      refine r_isub dX12_steps_18 ?_
      refine r_iload_n dX12_steps_19 rfl 2 rfl ?_
      refine r_iload_n dX12_steps_20 rfl 3 rfl ?_
      obtain ⟨b12, hc11, h⟩ := of_bd1 h
      refine r_callVI (st := []) dX12_steps_21 v_X12_239 (run_X12_isBarred hc11) (by decide) (by decide) rfl rfl (Nat.le_of_ble_eq_true rfl) rfl ?_
      by_cases c13 : wr (bI b12) = 0
      · rw [if_pos c13] at h
        refine r_if_eq (tgt := 31) dX12_steps_24 (by decide) (fun _ => ?_) (fun q => absurd c13 q)
        refine r_iload_n dX12_steps_31 rfl 2 rfl ?_
        refine r_iconst dX12_steps_32 ?_
        refine r_iadd dX12_steps_33 ?_
        refine r_iload_n dX12_steps_34 rfl 3 rfl ?_
        obtain ⟨b15, hc14, h⟩ := of_bd1 h
        refine r_callSI (st := []) dX12_steps_35 v_X12_104 (run_X12_isDark hc14) (by decide) (by decide) rfl (Nat.le_of_ble_eq_true rfl) rfl ?_
        by_cases c16 : wr (bI b15) = 0
        · rw [if_pos c16] at h
          refine r_if_eq (tgt := 45) dX12_steps_38 (by decide) (fun _ => ?_) (fun q => absurd c16 q)
          refine r_iconst dX12_steps_45 ?_
          refine r_sub (lv2 := []) [] rfl ?_
          cases h
          exact kJ
        · rw [if_neg c16] at h
          refine r_if_eq (tgt := 45) dX12_steps_38 (by decide) (fun q => absurd q c16) (fun _ => ?_)
          refine r_iconst dX12_steps_41 ?_
          refine r_goto (tgt := 46) dX12_steps_42 (by decide) ?_
          refine r_sub (lv2 := []) [] rfl ?_
          cases h
          exact kJ
      · rw [if_neg c13] at h
        refine r_if_eq (tgt := 31) dX12_steps_24 (by decide) (fun q => absurd q c13) (fun _ => ?_)
        refine r_iconst dX12_steps_27 ?_
        refine r_goto (tgt := 46) dX12_steps_28 (by decide) ?_
        refine r_sub (lv2 := []) [] rfl ?_
        cases h
        exact kJ
  · rw [if_neg c1] at h
    refine r_if_ne (tgt := 47) dX12_steps_2 (by decide) (fun _ => ?_) (fun q => absurd q c1)
    refine r_iload_n dX12_steps_47 rfl 3 rfl ?_
    refine r_aload_n dX12_steps_48 rfl 0 rfl ?_
    refine r_getI (j := 1) (jz := 1) dX12_steps_49 f_X12_92 rfl rfl rfl ?_
    obtain ⟨v9, h9, h⟩ := of_bd1 h
    have kJ : Ex G 3 cX12_steps RX12 5 86 [] [vI v9] M := by
      cases h
      exact hQ _ _ dX12_steps_86
    clear h
    have h := h9
    clear h9
    by_cases c2 : wr a3 = wr (gI M 55 1)
    · rw [if_pos c2] at h
      refine r_icmp_eq (tgt := 69) dX12_steps_52 (by decide) (fun _ => ?_) (fun q => absurd c2 q)
      refine r_iconst dX12_steps_69 ?_
      refine r_goto (tgt := 86) dX12_steps_70 (by decide) ?_
      refine r_sub (lv2 := []) [] rfl ?_
      cases h
      exact kJ
    · rw [if_neg c2] at h
      refine r_icmp_eq (tgt := 69) dX12_steps_52 (by decide) (fun q => absurd q c2) (fun _ => ?_)
      refine r_aload_n dX12_steps_55 rfl 0 rfl ?_
      refine r_iload_n dX12_steps_56 rfl 1 rfl ?_
      refine r_iload_n dX12_steps_57 rfl 2 rfl ?_
      refine r_iconst dX12_steps_58 ?_
      refine r_isub dX12_steps_59 ?_
      refine r_iload_n dX12_steps_60 rfl 3 rfl ?_
      refine r_iload_n dX12_steps_61 rfl 2 rfl ?_
      refine r_iload_n dX12_steps_62 rfl 3 rfl ?_
      obtain ⟨b4, hc3, h⟩ := of_bd1 h
      refine r_callVI (st := []) dX12_steps_63 v_X12_239 (run_X12_isBarred hc3) (by decide) (by decide) rfl rfl (Nat.le_of_ble_eq_true rfl) rfl ?_
      by_cases c5 : wr (bI b4) = 0
      · rw [if_pos c5] at h
        refine r_if_eq (tgt := 73) dX12_steps_66 (by decide) (fun _ => ?_) (fun q => absurd c5 q)
        refine r_iload_n dX12_steps_73 rfl 2 rfl ?_
        refine r_iload_n dX12_steps_74 rfl 3 rfl ?_
        obtain ⟨b7, hc6, h⟩ := of_bd1 h
        refine r_callSI (st := []) dX12_steps_75 v_X12_104 (run_X12_isDark hc6) (by decide) (by decide) rfl (Nat.le_of_ble_eq_true rfl) rfl ?_
        by_cases c8 : wr (bI b7) = 0
        · rw [if_pos c8] at h
          refine r_if_eq (tgt := 85) dX12_steps_78 (by decide) (fun _ => ?_) (fun q => absurd c8 q)
          refine r_iconst dX12_steps_85 ?_
          refine r_sub (lv2 := []) [] rfl ?_
          cases h
          exact kJ
        · rw [if_neg c8] at h
          refine r_if_eq (tgt := 85) dX12_steps_78 (by decide) (fun q => absurd q c8) (fun _ => ?_)
          refine r_iconst dX12_steps_81 ?_
          refine r_goto (tgt := 86) dX12_steps_82 (by decide) ?_
          refine r_sub (lv2 := []) [] rfl ?_
          cases h
          exact kJ
      · rw [if_neg c5] at h
        refine r_if_eq (tgt := 73) dX12_steps_66 (by decide) (fun q => absurd q c5) (fun _ => ?_)
        refine r_iconst dX12_steps_69 ?_
        refine r_goto (tgt := 86) dX12_steps_70 (by decide) ?_
        refine r_sub (lv2 := []) [] rfl ?_
        cases h
        exact kJ

def m_X12_rises_L2 (M : Mem) (p1 : Int) (x2 : Int) : Option ((Int × Mem) ⊕ (Int × Mem)) :=
  if wr 81 ≤ wr x2 then
    some (.inr (x2, M))
  else
    if 0 ≤ wr x2 ∧ wr x2 < 81 then
    lt (sI M 73 (wr x2) (-1000)) fun M3 =>
    some (.inl ((x2 + 1), M3))
    else none
def m_X12_rises_L25 (M : Mem) (p1 : Int) (x2 : Int) : Option ((Int) ⊕ (Int)) :=
  bd1 (m_X12_isCorner M (irm x2 9) (idv x2 9)) fun b7 =>
  if wr (bI b7) = 0 then
    some (.inl ((x2 + 1)))
  else
    some (.inr (x2))
def m_X12_rises_L88 (M : Mem) (p1 : Int) (p4 : Int) (p5 : Int) (x3 : Int) (x6 : Int) : Option ((Int × Int × Mem) ⊕ (Int × Int × Mem)) :=
  if wr 2 ≤ wr x6 then
    some (.inr (x3, x6, M))
  else
    bd1 (m_X12_steps M p1 p5 p4 x6) fun r17 =>
    lt (if wr x6 = 0 then (((9 * p4) + p5) + 1) else (((9 * p4) + p5) + 9)) fun (v19 : Int) =>
    bd2 (
      if wr r17 = 0 then
        some (x3, M)
      else
        if 0 ≤ wr ((9 * p4) + p5) ∧ wr ((9 * p4) + p5) < 81 then
        lt (if wr (gI M 73 (wr ((9 * p4) + p5))) = wr (-1000) then 1 else 0) fun (v23 : Int) =>
        if 0 ≤ wr v19 ∧ wr v19 < 81 then
        lt (if wr (gI M 73 (wr v19)) = wr (-1000) then 1 else 0) fun (v26 : Int) =>
        if wr v23 = wr v26 then
          some (x3, M)
        else
          lt (if wr (gI M 73 (wr ((9 * p4) + p5))) = wr (-1000) then (gI M 73 (wr v19)) else ((gI M 73 (wr ((9 * p4) + p5))) + r17)) fun (v29 : Int) =>
          lt (sI M 73 (wr v19) v29) fun M30 =>
          lt (if wr (gI M30 73 (wr ((9 * p4) + p5))) = wr (-1000) then ((gI M30 73 (wr v19)) - r17) else (gI M30 73 (wr ((9 * p4) + p5)))) fun (v32 : Int) =>
          lt (sI M30 73 (wr ((9 * p4) + p5)) v32) fun M33 =>
          some (1, M33)
        else none
        else none) fun (v34 : Int) (M35 : Mem) =>
    some (.inl (v34, (x6 + 1), M35))
def m_X12_rises_L76 (M : Mem) (p1 : Int) (p4 : Int) (x3 : Int) (x5 : Int) : Option ((Int × Int × Mem) ⊕ (Int × Int × Mem)) :=
  if wr (gI M 55 0) < wr x5 then
    some (.inr (x3, x5, M))
  else
    bd3 (itr (fun s => m_X12_rises_L88 s.2.2 p1 p4 x5 s.1 s.2.1) FU (x3, 0, M)) fun y36 y37 M38 =>
    some (.inl (y36, (x5 + 1), M38))
def m_X12_rises_L64 (M : Mem) (p1 : Int) (x3 : Int) (x4 : Int) : Option ((Int × Int × Mem) ⊕ (Int × Int × Mem)) :=
  if wr (gI M 55 1) < wr x4 then
    some (.inr (x3, x4, M))
  else
    bd3 (itr (fun s => m_X12_rises_L76 s.2.2 p1 x4 s.1 s.2.1) FU (x3, 0, M)) fun y39 y40 M41 =>
    some (.inl (y39, (x4 + 1), M41))
def m_X12_rises_L55 (M : Mem) (p1 : Int) (x3 : Int) : Option ((Int × Mem) ⊕ (Int × Mem)) :=
  if wr x3 = 0 then
    some (.inr (x3, M))
  else
    bd3 (itr (fun s => m_X12_rises_L64 s.2.2 p1 s.1 s.2.1) FU (0, 0, M)) fun y42 y43 M44 =>
    some (.inl (y42, M44))
def m_X12_rises (M : Mem) (a1 : Int) : Option (Mem) :=
  bd2 (itr (fun s => m_X12_rises_L2 s.2 a1 s.1) FU (0, M)) fun y4 M5 =>
  bd1 (itr (fun s => m_X12_rises_L25 M5 a1 s) FU (0)) fun y9 =>
  if 0 ≤ wr y9 ∧ wr y9 < 81 then
  lt (sI M5 73 (wr y9) 0) fun M11 =>
  bd2 (itr (fun s => m_X12_rises_L55 s.2 a1 s.1) FU (1, M11)) fun y45 M46 =>
  some M46
  else none
set_option maxRecDepth 10000 in
theorem lp_X12_rises_L2 {G : Gx} (p1 : Int)   (X : (Int × Mem) → Prop) (hX1 : ∀ (x2 : Int) (M : Mem), X (x2, M) → Ex G 4 cX12_rises RX12 10 23 [(0, vR 55), (1, vI p1), (2, vI x2)] [] M) : ∀ (nn : Nat) (x2 : Int) (M : Mem) (out : Int × Mem), itr (fun s => m_X12_rises_L2 s.2 p1 s.1) nn (x2, M) = some out → X out → Ex G 4 cX12_rises RX12 10 2 [(0, vR 55), (1, vI p1), (2, vI x2)] [] M := by
  intro nn
  induction nn with
  | zero =>
    intro x2 M out h _
    cases h
  | succ nn ih =>
    intro x2 M out h0 hX
    obtain ⟨w, h, k1, k2⟩ := itr_inv h0
    have h : m_X12_rises_L2 M p1 x2 = some w := h
    unfold m_X12_rises_L2 at h
    refine r_iload_n dX12_rises_2 rfl 2 rfl ?_
    refine r_bipush dX12_rises_3 (by decide) ?_
    by_cases c1 : wr 81 ≤ wr x2
    · rw [if_pos c1] at h
      refine r_icmp_ge (tgt := 23) dX12_rises_5 (by decide) (fun _ => ?_) (fun q => absurd c1 q)
      cases h
      cases k2 _ rfl
      exact hX1 _ _ hX
    · rw [if_neg c1] at h
      refine r_icmp_ge (tgt := 23) dX12_rises_5 (by decide) (fun q => absurd q c1) (fun _ => ?_)
      refine r_aload_n dX12_rises_8 rfl 0 rfl ?_
      refine r_getR (j := 21) (v := 73) dX12_rises_9 f_X12_63 rfl rfl rfl ?_
      refine r_iload_n dX12_rises_12 rfl 2 rfl ?_
      refine r_sipush dX12_rises_13 (by decide) ?_
      obtain ⟨c2, h⟩ := of_ck h
      obtain ⟨M3, eM3, h⟩ := of_lt h
      refine r_iast dX12_rises_16 rfl c2 ?_
      rw [← eM3]
      refine r_iinc (lv2 := [(2, vI (x2 + 1)), (0, vR 55), (1, vI p1)]) dX12_rises_17 2 rfl (by decide) rfl ?_
      refine r_goto (tgt := 2) dX12_rises_20 (by decide) ?_
      refine r_sub (lv2 := [(0, vR 55), (1, vI p1), (2, vI (x2 + 1))]) [1, 2, 0] rfl ?_
      cases h
      exact ih _ _  _ (k1 _ rfl) hX

set_option maxRecDepth 10000 in
theorem lp_X12_rises_L25 {G : Gx} (M : Mem) (p1 : Int)   (X : (Int) → Prop) (hX1 : ∀ (x2 : Int), X (x2) → Ex G 4 cX12_rises RX12 10 46 [(0, vR 55), (1, vI p1), (2, vI x2)] [] M) : ∀ (nn : Nat) (x2 : Int) (out : Int), itr (fun s => m_X12_rises_L25 M p1 s) nn (x2) = some out → X out → Ex G 4 cX12_rises RX12 10 25 [(0, vR 55), (1, vI p1), (2, vI x2)] [] M := by
  intro nn
  induction nn with
  | zero =>
    intro x2 out h _
    cases h
  | succ nn ih =>
    intro x2 out h0 hX
    obtain ⟨w, h, k1, k2⟩ := itr_inv h0
    have h : m_X12_rises_L25 M p1 x2 = some w := h
    unfold m_X12_rises_L25 at h
    refine r_aload_n dX12_rises_25 rfl 0 rfl ?_
    refine r_iload_n dX12_rises_26 rfl 2 rfl ?_
    refine r_bipush dX12_rises_27 (by decide) ?_
    refine r_irem dX12_rises_29 (by decide) ?_
    refine r_iload_n dX12_rises_30 rfl 2 rfl ?_
    refine r_bipush dX12_rises_31 (by decide) ?_
    refine r_idiv dX12_rises_33 (by decide) ?_
    obtain ⟨b7, hc6, h⟩ := of_bd1 h
    refine r_callVI (st := []) dX12_rises_34 v_X12_243 (run_X12_isCorner hc6) (by decide) (by decide) rfl rfl (Nat.le_of_ble_eq_true rfl) rfl ?_
    by_cases c8 : wr (bI b7) = 0
    · rw [if_pos c8] at h
      refine r_if_ne (tgt := 46) dX12_rises_37 (by decide) (fun q => absurd c8 q) (fun _ => ?_)
      refine r_iinc (lv2 := [(2, vI (x2 + 1)), (0, vR 55), (1, vI p1)]) dX12_rises_40 2 rfl (by decide) rfl ?_
      refine r_goto (tgt := 25) dX12_rises_43 (by decide) ?_
      refine r_sub (lv2 := [(0, vR 55), (1, vI p1), (2, vI (x2 + 1))]) [1, 2, 0] rfl ?_
      cases h
      exact ih _  _ (k1 _ rfl) hX
    · rw [if_neg c8] at h
      refine r_if_ne (tgt := 46) dX12_rises_37 (by decide) (fun _ => ?_) (fun q => absurd q c8)
      cases h
      cases k2 _ rfl
      exact hX1 _ hX

set_option maxRecDepth 10000 in
theorem lp_X12_rises_L88 {G : Gx} (p1 : Int) (p4 : Int) (p5 : Int)   (X : (Int × Int × Mem) → Prop) (hX1 : ∀ (x3 : Int) (x6 : Int) (M : Mem), X (x3, x6, M) → Ex G 4 cX12_rises RX12 10 268 [(0, vR 55), (1, vI p1), (3, vI x3), (4, vI p4), (5, vI p5), (6, vI x6)] [] M) : ∀ (nn : Nat) (x3 : Int) (x6 : Int) (M : Mem) (out : Int × Int × Mem), itr (fun s => m_X12_rises_L88 s.2.2 p1 p4 p5 s.1 s.2.1) nn (x3, x6, M) = some out → X out → Ex G 4 cX12_rises RX12 10 88 [(0, vR 55), (1, vI p1), (3, vI x3), (4, vI p4), (5, vI p5), (6, vI x6)] [] M := by
  intro nn
  induction nn with
  | zero =>
    intro x3 x6 M out h _
    cases h
  | succ nn ih =>
    intro x3 x6 M out h0 hX
    obtain ⟨w, h, k1, k2⟩ := itr_inv h0
    have h : m_X12_rises_L88 M p1 p4 p5 x3 x6 = some w := h
    unfold m_X12_rises_L88 at h
    refine r_iload dX12_rises_88 5 rfl ?_
    refine r_iconst dX12_rises_90 ?_
    by_cases c15 : wr 2 ≤ wr x6
    · rw [if_pos c15] at h
      refine r_icmp_ge (tgt := 268) dX12_rises_91 (by decide) (fun _ => ?_) (fun q => absurd c15 q)
      cases h
      cases k2 _ rfl
      exact hX1 _ _ _ hX
    · rw [if_neg c15] at h
      refine r_icmp_ge (tgt := 268) dX12_rises_91 (by decide) (fun q => absurd q c15) (fun _ => ?_)
      refine r_aload_n dX12_rises_94 rfl 0 rfl ?_
      refine r_iload_n dX12_rises_95 rfl 1 rfl ?_
      refine r_iload dX12_rises_96 4 rfl ?_
      refine r_iload dX12_rises_98 3 rfl ?_
      refine r_iload dX12_rises_100 5 rfl ?_
      obtain ⟨r17, hc16, h⟩ := of_bd1 h
      refine r_callVI (st := []) dX12_rises_102 v_X12_246 (run_X12_steps hc16) (by decide) (by decide) rfl rfl (Nat.le_of_ble_eq_true rfl) rfl ?_
      refine r_istore (lv2 := [(7, vI r17), (0, vR 55), (1, vI p1), (3, vI x3), (4, vI p4), (5, vI p5), (6, vI x6)]) dX12_rises_105 (by decide) rfl ?_
      refine r_bipush dX12_rises_107 (by decide) ?_
      refine r_iload dX12_rises_109 4 rfl ?_
      refine r_imul dX12_rises_111 ?_
      refine r_iload dX12_rises_112 5 rfl ?_
      refine r_iadd dX12_rises_114 ?_
      refine r_istore (lv2 := [(8, vI ((9 * p4) + p5)), (7, vI r17), (0, vR 55), (1, vI p1), (3, vI x3), (4, vI p4), (5, vI p5), (6, vI x6)]) dX12_rises_115 (by decide) rfl ?_
      refine r_iload dX12_rises_117 7 rfl ?_
      obtain ⟨v19, ev19, h⟩ := of_lt h
      have kJ : Ex G 4 cX12_rises RX12 10 134 [(0, vR 55), (1, vI p1), (3, vI x3), (4, vI p4), (5, vI p5), (6, vI x6), (7, vI r17), (8, vI ((9 * p4) + p5))] [vI v19] M := by
        refine r_istore (lv2 := [(9, vI v19), (0, vR 55), (1, vI p1), (3, vI x3), (4, vI p4), (5, vI p5), (6, vI x6), (7, vI r17), (8, vI ((9 * p4) + p5))]) dX12_rises_134 (by decide) rfl ?_
        refine r_iload dX12_rises_136 7 rfl ?_
        obtain ⟨v34, M35, h9, h⟩ := of_bd2 h
        have kJ : Ex G 4 cX12_rises RX12 10 262 [(0, vR 55), (1, vI p1), (3, vI v34), (4, vI p4), (5, vI p5), (6, vI x6)] [] M35 := by
          refine r_iinc (lv2 := [(6, vI (x6 + 1)), (0, vR 55), (1, vI p1), (3, vI v34), (4, vI p4), (5, vI p5)]) dX12_rises_262 5 rfl (by decide) rfl ?_
          refine r_goto (tgt := 88) dX12_rises_265 (by decide) ?_
          refine r_sub (lv2 := [(0, vR 55), (1, vI p1), (3, vI v34), (4, vI p4), (5, vI p5), (6, vI (x6 + 1))]) [1, 2, 3, 4, 5, 0] rfl ?_
          cases h
          exact ih _ _ _  _ (k1 _ rfl) hX
        clear h
        have h := h9
        clear h9
        by_cases c20 : wr r17 = 0
        · rw [if_pos c20] at h
          refine r_if_eq (tgt := 262) dX12_rises_138 (by decide) (fun _ => ?_) (fun q => absurd c20 q)
          refine r_sub (lv2 := [(0, vR 55), (1, vI p1), (3, vI x3), (4, vI p4), (5, vI p5), (6, vI x6)]) [1, 2, 3, 4, 5, 6] rfl ?_
          cases h
          exact kJ
        · rw [if_neg c20] at h
          refine r_if_eq (tgt := 262) dX12_rises_138 (by decide) (fun q => absurd q c20) (fun _ => ?_)
          refine r_aload_n dX12_rises_141 rfl 1 rfl ?_
          refine r_getR (j := 21) (v := 73) dX12_rises_142 f_X12_63 rfl rfl rfl ?_
          refine r_iload dX12_rises_145 8 rfl ?_
          obtain ⟨c21, h⟩ := of_ck h
          refine r_iald dX12_rises_147 rfl c21 ?_
          refine r_sipush dX12_rises_148 (by decide) ?_
          obtain ⟨v23, ev23, h⟩ := of_lt h
          have kJ : Ex G 4 cX12_rises RX12 10 159 [(0, vR 55), (1, vI p1), (3, vI x3), (4, vI p4), (5, vI p5), (6, vI x6), (7, vI r17), (8, vI ((9 * p4) + p5)), (9, vI v19)] [vI v23] M := by
            refine r_aload_n dX12_rises_159 rfl 0 rfl ?_
            refine r_getR (j := 21) (v := 73) dX12_rises_160 f_X12_63 rfl rfl rfl ?_
            refine r_iload dX12_rises_163 8 rfl ?_
            obtain ⟨c24, h⟩ := of_ck h
            refine r_iald dX12_rises_165 rfl c24 ?_
            refine r_sipush dX12_rises_166 (by decide) ?_
            obtain ⟨v26, ev26, h⟩ := of_lt h
            have kJ : Ex G 4 cX12_rises RX12 10 177 [(0, vR 55), (1, vI p1), (3, vI x3), (4, vI p4), (5, vI p5), (6, vI x6), (7, vI r17), (8, vI ((9 * p4) + p5)), (9, vI v19)] [vI v26, vI v23] M := by
              by_cases c27 : wr v23 = wr v26
              · rw [if_pos c27] at h
                refine r_icmp_eq (tgt := 262) dX12_rises_177 (by decide) (fun _ => ?_) (fun q => absurd c27 q)
                refine r_sub (lv2 := [(0, vR 55), (1, vI p1), (3, vI x3), (4, vI p4), (5, vI p5), (6, vI x6)]) [0, 1, 2, 3, 4, 5] rfl ?_
                cases h
                exact kJ
              · rw [if_neg c27] at h
                refine r_icmp_eq (tgt := 262) dX12_rises_177 (by decide) (fun q => absurd q c27) (fun _ => ?_)
                refine r_aload_n dX12_rises_180 rfl 0 rfl ?_
                refine r_getR (j := 21) (v := 73) dX12_rises_181 f_X12_63 rfl rfl rfl ?_
                refine r_iload dX12_rises_184 8 rfl ?_
                refine r_aload_n dX12_rises_186 rfl 0 rfl ?_
                refine r_getR (j := 21) (v := 73) dX12_rises_187 f_X12_63 rfl rfl rfl ?_
                refine r_iload dX12_rises_190 7 rfl ?_
                refine r_iald dX12_rises_192 rfl c21 ?_
                refine r_sipush dX12_rises_193 (by decide) ?_
                obtain ⟨v29, ev29, h⟩ := of_lt h
                have kJ : Ex G 4 cX12_rises RX12 10 219 [(0, vR 55), (1, vI p1), (4, vI p4), (5, vI p5), (6, vI x6), (7, vI r17), (8, vI ((9 * p4) + p5)), (9, vI v19)] [vI v29, vI v19, vR 73] M := by
                  obtain ⟨M30, eM30, h⟩ := of_lt h
                  refine r_iast dX12_rises_219 rfl c24 ?_
                  rw [← eM30]
                  refine r_aload_n dX12_rises_220 rfl 0 rfl ?_
                  refine r_getR (j := 21) (v := 73) dX12_rises_221 f_X12_63 rfl rfl rfl ?_
                  refine r_iload dX12_rises_224 6 rfl ?_
                  refine r_aload_n dX12_rises_226 rfl 0 rfl ?_
                  refine r_getR (j := 21) (v := 73) dX12_rises_227 f_X12_63 rfl rfl rfl ?_
                  refine r_iload dX12_rises_230 6 rfl ?_
                  refine r_iald dX12_rises_232 rfl c21 ?_
                  refine r_sipush dX12_rises_233 (by decide) ?_
                  obtain ⟨v32, ev32, h⟩ := of_lt h
                  have kJ : Ex G 4 cX12_rises RX12 10 259 [(0, vR 55), (1, vI p1), (4, vI p4), (5, vI p5), (6, vI x6)] [vI v32, vI ((9 * p4) + p5), vR 73] M30 := by
                    obtain ⟨M33, eM33, h⟩ := of_lt h
                    refine r_iast dX12_rises_259 rfl c21 ?_
                    rw [← eM33]
                    refine r_iconst dX12_rises_260 ?_
                    refine r_istore_n (lv2 := [(3, vI 1), (0, vR 55), (1, vI p1), (4, vI p4), (5, vI p5), (6, vI x6)]) dX12_rises_261 rfl (by decide) rfl ?_
                    refine r_sub (lv2 := [(0, vR 55), (1, vI p1), (3, vI 1), (4, vI p4), (5, vI p5), (6, vI x6)]) [1, 2, 0, 3, 4, 5] rfl ?_
                    cases h
                    exact kJ
                  clear h
                  by_cases c31 : wr (gI M30 73 (wr ((9 * p4) + p5))) = wr (-1000)
                  · skip
                    refine r_icmp_ne (tgt := 252) dX12_rises_236 (by decide) (fun q => absurd c31 q) (fun _ => ?_)
                    refine r_aload_n dX12_rises_239 rfl 0 rfl ?_
                    refine r_getR (j := 21) (v := 73) dX12_rises_240 f_X12_63 rfl rfl rfl ?_
                    refine r_iload dX12_rises_243 7 rfl ?_
                    refine r_iald dX12_rises_245 rfl c24 ?_
                    refine r_iload dX12_rises_246 5 rfl ?_
                    refine r_isub dX12_rises_248 ?_
                    refine r_goto (tgt := 259) dX12_rises_249 (by decide) ?_
                    rw [show v32 = ((gI M30 73 (wr v19)) - r17) from by rw [ev32, if_pos c31]] at kJ
                    refine r_sub (lv2 := [(0, vR 55), (1, vI p1), (4, vI p4), (5, vI p5), (6, vI x6)]) [0, 1, 2, 3, 4] rfl ?_
                    exact kJ
                  · skip
                    refine r_icmp_ne (tgt := 252) dX12_rises_236 (by decide) (fun _ => ?_) (fun q => absurd q c31)
                    refine r_aload_n dX12_rises_252 rfl 0 rfl ?_
                    refine r_getR (j := 21) (v := 73) dX12_rises_253 f_X12_63 rfl rfl rfl ?_
                    refine r_iload dX12_rises_256 6 rfl ?_
                    refine r_iald dX12_rises_258 rfl c21 ?_
                    rw [show v32 = (gI M30 73 (wr ((9 * p4) + p5))) from by rw [ev32, if_neg c31]] at kJ
                    refine r_sub (lv2 := [(0, vR 55), (1, vI p1), (4, vI p4), (5, vI p5), (6, vI x6)]) [0, 1, 2, 3, 4] rfl ?_
                    exact kJ
                clear h
                by_cases c28 : wr (gI M 73 (wr ((9 * p4) + p5))) = wr (-1000)
                · skip
                  refine r_icmp_ne (tgt := 209) dX12_rises_196 (by decide) (fun q => absurd c28 q) (fun _ => ?_)
                  refine r_aload_n dX12_rises_199 rfl 0 rfl ?_
                  refine r_getR (j := 21) (v := 73) dX12_rises_200 f_X12_63 rfl rfl rfl ?_
                  refine r_iload dX12_rises_203 8 rfl ?_
                  refine r_iald dX12_rises_205 rfl c24 ?_
                  refine r_goto (tgt := 219) dX12_rises_206 (by decide) ?_
                  rw [show v29 = (gI M 73 (wr v19)) from by rw [ev29, if_pos c28]] at kJ
                  refine r_sub (lv2 := [(0, vR 55), (1, vI p1), (4, vI p4), (5, vI p5), (6, vI x6), (7, vI r17), (8, vI ((9 * p4) + p5)), (9, vI v19)]) [0, 1, 3, 4, 5, 6, 7, 8] rfl ?_
                  exact kJ
                · skip
                  refine r_icmp_ne (tgt := 209) dX12_rises_196 (by decide) (fun _ => ?_) (fun q => absurd q c28)
                  refine r_aload_n dX12_rises_209 rfl 0 rfl ?_
                  refine r_getR (j := 21) (v := 73) dX12_rises_210 f_X12_63 rfl rfl rfl ?_
                  refine r_iload dX12_rises_213 7 rfl ?_
                  refine r_iald dX12_rises_215 rfl c21 ?_
                  refine r_iload dX12_rises_216 6 rfl ?_
                  refine r_iadd dX12_rises_218 ?_
                  rw [show v29 = ((gI M 73 (wr ((9 * p4) + p5))) + r17) from by rw [ev29, if_neg c28]] at kJ
                  refine r_sub (lv2 := [(0, vR 55), (1, vI p1), (4, vI p4), (5, vI p5), (6, vI x6), (7, vI r17), (8, vI ((9 * p4) + p5)), (9, vI v19)]) [0, 1, 3, 4, 5, 6, 7, 8] rfl ?_
                  exact kJ
            clear h
            by_cases c25 : wr (gI M 73 (wr v19)) = wr (-1000)
            · skip
              refine r_icmp_ne (tgt := 176) dX12_rises_169 (by decide) (fun q => absurd c25 q) (fun _ => ?_)
              refine r_iconst dX12_rises_172 ?_
              refine r_goto (tgt := 177) dX12_rises_173 (by decide) ?_
              rw [show v26 = 1 from by rw [ev26, if_pos c25]] at kJ
              exact kJ
            · skip
              refine r_icmp_ne (tgt := 176) dX12_rises_169 (by decide) (fun _ => ?_) (fun q => absurd q c25)
              refine r_iconst dX12_rises_176 ?_
              rw [show v26 = 0 from by rw [ev26, if_neg c25]] at kJ
              exact kJ
          clear h
          by_cases c22 : wr (gI M 73 (wr ((9 * p4) + p5))) = wr (-1000)
          · skip
            refine r_icmp_ne (tgt := 158) dX12_rises_151 (by decide) (fun q => absurd c22 q) (fun _ => ?_)
            refine r_iconst dX12_rises_154 ?_
            refine r_goto (tgt := 159) dX12_rises_155 (by decide) ?_
            rw [show v23 = 1 from by rw [ev23, if_pos c22]] at kJ
            refine r_sub (lv2 := [(0, vR 55), (1, vI p1), (3, vI x3), (4, vI p4), (5, vI p5), (6, vI x6), (7, vI r17), (8, vI ((9 * p4) + p5)), (9, vI v19)]) [1, 2, 3, 4, 5, 6, 7, 8, 0] rfl ?_
            exact kJ
          · skip
            refine r_icmp_ne (tgt := 158) dX12_rises_151 (by decide) (fun _ => ?_) (fun q => absurd q c22)
            refine r_iconst dX12_rises_158 ?_
            rw [show v23 = 0 from by rw [ev23, if_neg c22]] at kJ
            refine r_sub (lv2 := [(0, vR 55), (1, vI p1), (3, vI x3), (4, vI p4), (5, vI p5), (6, vI x6), (7, vI r17), (8, vI ((9 * p4) + p5)), (9, vI v19)]) [1, 2, 3, 4, 5, 6, 7, 8, 0] rfl ?_
            exact kJ
      clear h
      by_cases c18 : wr x6 = 0
      · skip
        refine r_if_ne (tgt := 129) dX12_rises_119 (by decide) (fun q => absurd c18 q) (fun _ => ?_)
        refine r_iload dX12_rises_122 0 rfl ?_
        refine r_iconst dX12_rises_124 ?_
        refine r_iadd dX12_rises_125 ?_
        refine r_goto (tgt := 134) dX12_rises_126 (by decide) ?_
        rw [show v19 = (((9 * p4) + p5) + 1) from by rw [ev19, if_pos c18]] at kJ
        refine r_sub (lv2 := [(0, vR 55), (1, vI p1), (3, vI x3), (4, vI p4), (5, vI p5), (6, vI x6), (7, vI r17), (8, vI ((9 * p4) + p5))]) [2, 3, 4, 5, 6, 7, 1, 0] rfl ?_
        exact kJ
      · skip
        refine r_if_ne (tgt := 129) dX12_rises_119 (by decide) (fun _ => ?_) (fun q => absurd q c18)
        refine r_iload dX12_rises_129 0 rfl ?_
        refine r_bipush dX12_rises_131 (by decide) ?_
        refine r_iadd dX12_rises_133 ?_
        rw [show v19 = (((9 * p4) + p5) + 9) from by rw [ev19, if_neg c18]] at kJ
        refine r_sub (lv2 := [(0, vR 55), (1, vI p1), (3, vI x3), (4, vI p4), (5, vI p5), (6, vI x6), (7, vI r17), (8, vI ((9 * p4) + p5))]) [2, 3, 4, 5, 6, 7, 1, 0] rfl ?_
        exact kJ

set_option maxRecDepth 10000 in
theorem lp_X12_rises_L76 {G : Gx} (p1 : Int) (p4 : Int)   (X : (Int × Int × Mem) → Prop) (hX1 : ∀ (x3 : Int) (x5 : Int) (M : Mem), X (x3, x5, M) → Ex G 4 cX12_rises RX12 10 274 [(0, vR 55), (1, vI p1), (3, vI x3), (4, vI p4), (5, vI x5)] [] M) : ∀ (nn : Nat) (x3 : Int) (x5 : Int) (M : Mem) (out : Int × Int × Mem), itr (fun s => m_X12_rises_L76 s.2.2 p1 p4 s.1 s.2.1) nn (x3, x5, M) = some out → X out → Ex G 4 cX12_rises RX12 10 76 [(0, vR 55), (1, vI p1), (3, vI x3), (4, vI p4), (5, vI x5)] [] M := by
  intro nn
  induction nn with
  | zero =>
    intro x3 x5 M out h _
    cases h
  | succ nn ih =>
    intro x3 x5 M out h0 hX
    obtain ⟨w, h, k1, k2⟩ := itr_inv h0
    have h : m_X12_rises_L76 M p1 p4 x3 x5 = some w := h
    unfold m_X12_rises_L76 at h
    refine r_iload dX12_rises_76 4 rfl ?_
    refine r_aload_n dX12_rises_78 rfl 0 rfl ?_
    refine r_getI (j := 0) (jz := 0) dX12_rises_79 f_X12_88 rfl rfl rfl ?_
    by_cases c14 : wr (gI M 55 0) < wr x5
    · rw [if_pos c14] at h
      refine r_icmp_gt (tgt := 274) dX12_rises_82 (by decide) (fun _ => ?_) (fun q => absurd c14 q)
      cases h
      cases k2 _ rfl
      exact hX1 _ _ _ hX
    · rw [if_neg c14] at h
      refine r_icmp_gt (tgt := 274) dX12_rises_82 (by decide) (fun q => absurd q c14) (fun _ => ?_)
      refine r_iconst dX12_rises_85 ?_
      refine r_istore (lv2 := [(6, vI 0), (0, vR 55), (1, vI p1), (3, vI x3), (4, vI p4), (5, vI x5)]) dX12_rises_86 (by decide) rfl ?_
      obtain ⟨y36, y37, M38, h9, h⟩ := of_bd3 h
      refine r_sub (lv2 := [(0, vR 55), (1, vI p1), (3, vI x3), (4, vI p4), (5, vI x5), (6, vI 0)]) [1, 2, 3, 4, 5, 0] rfl ?_
      refine lp_X12_rises_L88 p1 p4 x5  (fun w => w = (y36, y37, M38)) ?_ FU x3 0 M _ h9 rfl
      intro z0 z1 z2 hw
      cases hw
      refine r_iinc (lv2 := [(5, vI (x5 + 1)), (0, vR 55), (1, vI p1), (3, vI y36), (4, vI p4), (6, vI y37)]) dX12_rises_268 4 rfl (by decide) rfl ?_
      refine r_goto (tgt := 76) dX12_rises_271 (by decide) ?_
      refine r_sub (lv2 := [(0, vR 55), (1, vI p1), (3, vI y36), (4, vI p4), (5, vI (x5 + 1))]) [1, 2, 3, 4, 0] rfl ?_
      cases h
      exact ih _ _ _  _ (k1 _ rfl) hX

set_option maxRecDepth 10000 in
theorem lp_X12_rises_L64 {G : Gx} (p1 : Int)   (X : (Int × Int × Mem) → Prop) (hX1 : ∀ (x3 : Int) (x4 : Int) (M : Mem), X (x3, x4, M) → Ex G 4 cX12_rises RX12 10 280 [(0, vR 55), (1, vI p1), (3, vI x3), (4, vI x4)] [] M) : ∀ (nn : Nat) (x3 : Int) (x4 : Int) (M : Mem) (out : Int × Int × Mem), itr (fun s => m_X12_rises_L64 s.2.2 p1 s.1 s.2.1) nn (x3, x4, M) = some out → X out → Ex G 4 cX12_rises RX12 10 64 [(0, vR 55), (1, vI p1), (3, vI x3), (4, vI x4)] [] M := by
  intro nn
  induction nn with
  | zero =>
    intro x3 x4 M out h _
    cases h
  | succ nn ih =>
    intro x3 x4 M out h0 hX
    obtain ⟨w, h, k1, k2⟩ := itr_inv h0
    have h : m_X12_rises_L64 M p1 x3 x4 = some w := h
    unfold m_X12_rises_L64 at h
    refine r_iload dX12_rises_64 3 rfl ?_
    refine r_aload_n dX12_rises_66 rfl 0 rfl ?_
    refine r_getI (j := 1) (jz := 1) dX12_rises_67 f_X12_92 rfl rfl rfl ?_
    by_cases c13 : wr (gI M 55 1) < wr x4
    · rw [if_pos c13] at h
      refine r_icmp_gt (tgt := 280) dX12_rises_70 (by decide) (fun _ => ?_) (fun q => absurd c13 q)
      cases h
      cases k2 _ rfl
      exact hX1 _ _ _ hX
    · rw [if_neg c13] at h
      refine r_icmp_gt (tgt := 280) dX12_rises_70 (by decide) (fun q => absurd q c13) (fun _ => ?_)
      refine r_iconst dX12_rises_73 ?_
      refine r_istore (lv2 := [(5, vI 0), (0, vR 55), (1, vI p1), (3, vI x3), (4, vI x4)]) dX12_rises_74 (by decide) rfl ?_
      obtain ⟨y39, y40, M41, h9, h⟩ := of_bd3 h
      refine r_sub (lv2 := [(0, vR 55), (1, vI p1), (3, vI x3), (4, vI x4), (5, vI 0)]) [1, 2, 3, 4, 0] rfl ?_
      refine lp_X12_rises_L76 p1 x4  (fun w => w = (y39, y40, M41)) ?_ FU x3 0 M _ h9 rfl
      intro z0 z1 z2 hw
      cases hw
      refine r_iinc (lv2 := [(4, vI (x4 + 1)), (0, vR 55), (1, vI p1), (3, vI y39), (5, vI y40)]) dX12_rises_274 3 rfl (by decide) rfl ?_
      refine r_goto (tgt := 64) dX12_rises_277 (by decide) ?_
      refine r_sub (lv2 := [(0, vR 55), (1, vI p1), (3, vI y39), (4, vI (x4 + 1))]) [1, 2, 3, 0] rfl ?_
      cases h
      exact ih _ _ _  _ (k1 _ rfl) hX

set_option maxRecDepth 10000 in
theorem lp_X12_rises_L55 {G : Gx} (p1 : Int)   (X : (Int × Mem) → Prop) (hX1 : ∀ (x3 : Int) (M : Mem), X (x3, M) → Ex G 4 cX12_rises RX12 10 283 [(0, vR 55), (1, vI p1), (3, vI x3)] [] M) : ∀ (nn : Nat) (x3 : Int) (M : Mem) (out : Int × Mem), itr (fun s => m_X12_rises_L55 s.2 p1 s.1) nn (x3, M) = some out → X out → Ex G 4 cX12_rises RX12 10 55 [(0, vR 55), (1, vI p1), (3, vI x3)] [] M := by
  intro nn
  induction nn with
  | zero =>
    intro x3 M out h _
    cases h
  | succ nn ih =>
    intro x3 M out h0 hX
    obtain ⟨w, h, k1, k2⟩ := itr_inv h0
    have h : m_X12_rises_L55 M p1 x3 = some w := h
    unfold m_X12_rises_L55 at h
    refine r_iload_n dX12_rises_55 rfl 2 rfl ?_
    by_cases c12 : wr x3 = 0
    · rw [if_pos c12] at h
      refine r_if_eq (tgt := 283) dX12_rises_56 (by decide) (fun _ => ?_) (fun q => absurd c12 q)
      cases h
      cases k2 _ rfl
      exact hX1 _ _ hX
    · rw [if_neg c12] at h
      refine r_if_eq (tgt := 283) dX12_rises_56 (by decide) (fun q => absurd q c12) (fun _ => ?_)
      refine r_iconst dX12_rises_59 ?_
      refine r_istore_n (lv2 := [(3, vI 0), (0, vR 55), (1, vI p1)]) dX12_rises_60 rfl (by decide) rfl ?_
      refine r_iconst dX12_rises_61 ?_
      refine r_istore (lv2 := [(4, vI 0), (3, vI 0), (0, vR 55), (1, vI p1)]) dX12_rises_62 (by decide) rfl ?_
      obtain ⟨y42, y43, M44, h9, h⟩ := of_bd3 h
      refine r_sub (lv2 := [(0, vR 55), (1, vI p1), (3, vI 0), (4, vI 0)]) [2, 3, 1, 0] rfl ?_
      refine lp_X12_rises_L64 p1  (fun w => w = (y42, y43, M44)) ?_ FU 0 0 M _ h9 rfl
      intro z0 z1 z2 hw
      cases hw
      refine r_goto (tgt := 55) dX12_rises_280 (by decide) ?_
      refine r_sub (lv2 := [(0, vR 55), (1, vI p1), (3, vI y42)]) [0, 1, 2] rfl ?_
      cases h
      exact ih _ _  _ (k1 _ rfl) hX

set_option maxRecDepth 10000 in
theorem run_X12_rises {M : Mem} {M2 : Mem} {a1 : Int}   (h : m_X12_rises M a1 = some (M2)) : RunV 4 yX12_rises cX12_rises 10 none [vR 55, vI a1] M M2 := by
  refine runV_of (lv := [(0, vR 55), (1, vI a1)]) (by decide +kernel) rfl (Nat.le_of_ble_eq_true rfl) rfl ?_
  intro G hQ
  unfold m_X12_rises at h
  refine r_iconst dX12_rises_0 ?_
  refine r_istore_n (lv2 := [(2, vI 0), (0, vR 55), (1, vI a1)]) dX12_rises_1 rfl (by decide) rfl ?_
  obtain ⟨y4, M5, h9, h⟩ := of_bd2 h
  refine r_sub (lv2 := [(0, vR 55), (1, vI a1), (2, vI 0)]) [1, 2, 0] rfl ?_
  refine lp_X12_rises_L2 a1  (fun w => w = (y4, M5)) ?_ FU 0 M _ h9 rfl
  intro z0 z1 hw
  cases hw
  refine r_iconst dX12_rises_23 ?_
  refine r_istore_n (lv2 := [(2, vI 0), (0, vR 55), (1, vI a1)]) dX12_rises_24 rfl (by decide) rfl ?_
  obtain ⟨y9, h9, h⟩ := of_bd1 h
  refine r_sub (lv2 := [(0, vR 55), (1, vI a1), (2, vI 0)]) [1, 2, 0] rfl ?_
  refine lp_X12_rises_L25 M5 a1  (fun w => w = (y9)) ?_ FU 0 _ h9 rfl
  intro z0 hw
  cases hw
  refine r_aload_n dX12_rises_46 rfl 0 rfl ?_
  refine r_getR (j := 21) (v := 73) dX12_rises_47 f_X12_63 rfl rfl rfl ?_
  refine r_iload_n dX12_rises_50 rfl 2 rfl ?_
  refine r_iconst dX12_rises_51 ?_
  obtain ⟨c10, h⟩ := of_ck h
  obtain ⟨M11, eM11, h⟩ := of_lt h
  refine r_iast dX12_rises_52 rfl c10 ?_
  rw [← eM11]
  refine r_iconst dX12_rises_53 ?_
  refine r_istore_n (lv2 := [(3, vI 1), (0, vR 55), (1, vI a1), (2, vI y9)]) dX12_rises_54 rfl (by decide) rfl ?_
  obtain ⟨y45, M46, h9, h⟩ := of_bd2 h
  refine r_sub (lv2 := [(0, vR 55), (1, vI a1), (3, vI 1)]) [1, 2, 0] rfl ?_
  refine lp_X12_rises_L55 a1  (fun w => w = (y45, M46)) ?_ FU 1 M11 _ h9 rfl
  intro z0 z1 hw
  cases hw
  cases h
  exact hQ _ _ dX12_rises_283

def m_X12_refuses (M : Mem) (a1 : Int) : Option (Int × Mem) :=
  if 0 ≤ wr a1 ∧ wr a1 < 4 then
  bd2 (
    if wr (gI M 59 (wr a1)) = 0 then
      some ((-4), M)
    else
      bd2 (m_X12_isWhole M) fun b4 M5 =>
      if wr (bI b4) = 0 then
        some ((-2), M5)
      else
        some (0, M5)) fun (v7 : Int) (M8 : Mem) =>
  some (v7, M8)
  else none
set_option maxRecDepth 10000 in
theorem run_X12_refuses {M : Mem} {M2 : Mem} {a1 : Int} {r : Int}   (h : m_X12_refuses M a1 = some (r, M2)) : RunI 5 yX12_refuses cX12_refuses 2 (some .int) [vR 55, vI a1] M r M2 := by
  refine runI_of (lv := [(0, vR 55), (1, vI a1)]) (by decide +kernel) (Or.inl rfl) (Nat.le_of_ble_eq_true rfl) rfl ?_
  intro G hQ
  unfold m_X12_refuses at h
  refine r_aload_n dX12_refuses_0 rfl 0 rfl ?_
  refine r_getR (j := 5) (v := 59) dX12_refuses_1 f_X12_20 rfl rfl rfl ?_
  refine r_iload_n dX12_refuses_4 rfl 1 rfl ?_
  obtain ⟨c1, h⟩ := of_ck h
  refine r_zald dX12_refuses_5 rfl c1 ?_
  obtain ⟨v7, M8, h9, h⟩ := of_bd2 h
  have kJ : Ex G 5 cX12_refuses RX12 2 27 [] [vI v7] M8 := by
    cases h
    exact hQ _ _ dX12_refuses_27
  clear h
  have h := h9
  clear h9
  by_cases c2 : wr (gI M 59 (wr a1)) = 0
  · rw [if_pos c2] at h
    refine r_if_ne (tgt := 14) dX12_refuses_6 (by decide) (fun q => absurd c2 q) (fun _ => ?_)
    refine r_bipush dX12_refuses_9 (by decide) ?_
    refine r_goto (tgt := 27) dX12_refuses_11 (by decide) ?_
    refine r_sub (lv2 := []) [] rfl ?_
    cases h
    exact kJ
  · rw [if_neg c2] at h
    refine r_if_ne (tgt := 14) dX12_refuses_6 (by decide) (fun _ => ?_) (fun q => absurd q c2)
    refine r_aload_n dX12_refuses_14 rfl 0 rfl ?_
    obtain ⟨b4, M5, hc3, h⟩ := of_bd2 h
    refine r_callVI (st := []) dX12_refuses_15 v_X12_235 (run_X12_isWhole hc3) (by decide) (by decide) rfl rfl (Nat.le_of_ble_eq_true rfl) rfl ?_
    by_cases c6 : wr (bI b4) = 0
    · rw [if_pos c6] at h
      refine r_if_eq (tgt := 25) dX12_refuses_18 (by decide) (fun _ => ?_) (fun q => absurd c6 q)
      refine r_bipush dX12_refuses_25 (by decide) ?_
      refine r_sub (lv2 := []) [] rfl ?_
      cases h
      exact kJ
    · rw [if_neg c6] at h
      refine r_if_eq (tgt := 25) dX12_refuses_18 (by decide) (fun q => absurd q c6) (fun _ => ?_)
      refine r_iconst dX12_refuses_21 ?_
      refine r_goto (tgt := 27) dX12_refuses_22 (by decide) ?_
      refine r_sub (lv2 := []) [] rfl ?_
      cases h
      exact kJ

def m_X12_height (M : Mem) (a1 : Int) (a2 : Int) (a3 : Int) : Option (Int × Mem) :=
  bd1 (m_X12_isSlot a1) fun b2 =>
  if wr (bI b2) = 0 then
    some ((-1001), M)
  else
    bd1 (m_X12_isCorner M a2 a3) fun b5 =>
    if wr (bI b5) = 0 then
      some ((-1001), M)
    else
      bd2 (m_X12_refuses M a1) fun r8 M9 =>
      if 0 ≤ wr r8 then
        bd1 (m_X12_rises M9 a1) fun M12 =>
        if 0 ≤ wr ((9 * a3) + a2) ∧ wr ((9 * a3) + a2) < 81 then
        some ((gI M12 73 (wr ((9 * a3) + a2))), M12)
        else none
      else
        some ((r8 - 1000), M9)
set_option maxRecDepth 10000 in
theorem run_X12_height {M : Mem} {M2 : Mem} {a1 : Int} {a2 : Int} {a3 : Int} {r : Int}   (h : m_X12_height M a1 a2 a3 = some (r, M2)) : RunI 6 yX12_height cX12_height 5 (some .int) [vR 55, vI a1, vI a2, vI a3] M r M2 := by
  refine runI_of (lv := [(0, vR 55), (1, vI a1), (2, vI a2), (3, vI a3)]) (by decide +kernel) (Or.inl rfl) (Nat.le_of_ble_eq_true rfl) rfl ?_
  intro G hQ
  unfold m_X12_height at h
  refine r_iload_n dX12_height_0 rfl 1 rfl ?_
  obtain ⟨b2, hc1, h⟩ := of_bd1 h
  refine r_callSI (st := []) dX12_height_1 v_X12_188 (run_X12_isSlot hc1) (by decide) (by decide) rfl (Nat.le_of_ble_eq_true rfl) rfl ?_
  by_cases c3 : wr (bI b2) = 0
  · rw [if_pos c3] at h
    refine r_if_eq (tgt := 16) dX12_height_4 (by decide) (fun _ => ?_) (fun q => absurd c3 q)
    refine r_sipush dX12_height_16 (by decide) ?_
    cases h
    exact hQ _ _ dX12_height_19
  · rw [if_neg c3] at h
    refine r_if_eq (tgt := 16) dX12_height_4 (by decide) (fun q => absurd q c3) (fun _ => ?_)
    refine r_aload_n dX12_height_7 rfl 0 rfl ?_
    refine r_iload_n dX12_height_8 rfl 2 rfl ?_
    refine r_iload_n dX12_height_9 rfl 3 rfl ?_
    obtain ⟨b5, hc4, h⟩ := of_bd1 h
    refine r_callVI (st := []) dX12_height_10 v_X12_243 (run_X12_isCorner hc4) (by decide) (by decide) rfl rfl (Nat.le_of_ble_eq_true rfl) rfl ?_
    by_cases c6 : wr (bI b5) = 0
    · rw [if_pos c6] at h
      refine r_if_ne (tgt := 20) dX12_height_13 (by decide) (fun q => absurd c6 q) (fun _ => ?_)
      refine r_sipush dX12_height_16 (by decide) ?_
      cases h
      exact hQ _ _ dX12_height_19
    · rw [if_neg c6] at h
      refine r_if_ne (tgt := 20) dX12_height_13 (by decide) (fun _ => ?_) (fun q => absurd q c6)
      refine r_aload_n dX12_height_20 rfl 0 rfl ?_
      refine r_iload_n dX12_height_21 rfl 1 rfl ?_
      obtain ⟨r8, M9, hc7, h⟩ := of_bd2 h
      refine r_callVI (st := []) dX12_height_22 v_X12_249 (run_X12_refuses hc7) (by decide) (by decide) rfl rfl (Nat.le_of_ble_eq_true rfl) rfl ?_
      refine r_istore (lv2 := [(4, vI r8), (0, vR 55), (1, vI a1), (2, vI a2), (3, vI a3)]) dX12_height_25 (by decide) rfl ?_
      refine r_iload dX12_height_27 0 rfl ?_
      by_cases c10 : 0 ≤ wr r8
      · rw [if_pos c10] at h
        refine r_if_ge (tgt := 39) dX12_height_29 (by decide) (fun _ => ?_) (fun q => absurd c10 q)
        refine r_aload_n dX12_height_39 rfl 1 rfl ?_
        refine r_iload_n dX12_height_40 rfl 2 rfl ?_
        obtain ⟨M12, hc11, h⟩ := of_bd1 h
        refine r_callVV (st := []) dX12_height_41 v_X12_252 (run_X12_rises hc11) (by decide) (by decide) rfl rfl (Nat.le_of_ble_eq_true rfl) rfl ?_
        refine r_aload_n dX12_height_44 rfl 1 rfl ?_
        refine r_getR (j := 21) (v := 73) dX12_height_45 f_X12_63 rfl rfl rfl ?_
        refine r_bipush dX12_height_48 (by decide) ?_
        refine r_iload_n dX12_height_50 rfl 4 rfl ?_
        refine r_imul dX12_height_51 ?_
        refine r_iload_n dX12_height_52 rfl 3 rfl ?_
        refine r_iadd dX12_height_53 ?_
        obtain ⟨c13, h⟩ := of_ck h
        refine r_iald dX12_height_54 rfl c13 ?_
        cases h
        exact hQ _ _ dX12_height_55
      · rw [if_neg c10] at h
        refine r_if_ge (tgt := 39) dX12_height_29 (by decide) (fun q => absurd q c10) (fun _ => ?_)
        refine r_iload dX12_height_32 0 rfl ?_
        refine r_sipush dX12_height_34 (by decide) ?_
        refine r_isub dX12_height_37 ?_
        cases h
        exact hQ _ _ dX12_height_38

def m_X12_turnOf (M : Mem) (a1 : Int) (a2 : Int) (a3 : Int) : Option (Int) :=
  bd1 (m_X12_in (i2l a2) (1 : Int64) (i2l ((gI M 55 0) - 1))) fun b2 =>
  if wr (bI b2) = 0 then
    some (-4)
  else
    bd1 (m_X12_in (i2l a3) (1 : Int64) (i2l ((gI M 55 1) - 1))) fun b5 =>
    if wr (bI b5) = 0 then
      some (-4)
    else
      if 0 ≤ wr ((((gI M 55 0) * (a3 - 1)) + a2) - 1) ∧ wr ((((gI M 55 0) * (a3 - 1)) + a2) - 1) < 64 then
      bd1 (
        if wr (gI M 56 (wr ((((gI M 55 0) * (a3 - 1)) + a2) - 1))) = 0 then
          some (0)
        else
          if 0 ≤ wr (((((gI M 55 0) * (a3 - 1)) + a2) - 1) + 1) ∧ wr (((((gI M 55 0) * (a3 - 1)) + a2) - 1) + 1) < 64 then
          if wr (gI M 56 (wr (((((gI M 55 0) * (a3 - 1)) + a2) - 1) + 1))) = 0 then
            some (0)
          else
            if 0 ≤ wr (((((gI M 55 0) * (a3 - 1)) + a2) - 1) + (gI M 55 0)) ∧ wr (((((gI M 55 0) * (a3 - 1)) + a2) - 1) + (gI M 55 0)) < 64 then
            if wr (gI M 56 (wr (((((gI M 55 0) * (a3 - 1)) + a2) - 1) + (gI M 55 0)))) = 0 then
              some (0)
            else
              if 0 ≤ wr ((((((gI M 55 0) * (a3 - 1)) + a2) - 1) + (gI M 55 0)) + 1) ∧ wr ((((((gI M 55 0) * (a3 - 1)) + a2) - 1) + (gI M 55 0)) + 1) < 64 then
              if wr (gI M 56 (wr ((((((gI M 55 0) * (a3 - 1)) + a2) - 1) + (gI M 55 0)) + 1))) = 0 then
                some (0)
              else
                some (1)
              else none
            else none
          else none) fun (v15 : Int) =>
      bd1 (
        if wr v15 = 0 then
          some (0)
        else
          if 0 ≤ wr ((64 * a1) + ((((gI M 55 0) * (a3 - 1)) + a2) - 1)) ∧ wr ((64 * a1) + ((((gI M 55 0) * (a3 - 1)) + a2) - 1)) < 256 then
          if wr (gI M 60 (wr ((64 * a1) + ((((gI M 55 0) * (a3 - 1)) + a2) - 1)))) = wr (2 * ((((gI M 55 0) * (a3 - 1)) + a2) - 1)) then
            if 0 ≤ wr (((64 * a1) + ((((gI M 55 0) * (a3 - 1)) + a2) - 1)) + (gI M 55 0)) ∧ wr (((64 * a1) + ((((gI M 55 0) * (a3 - 1)) + a2) - 1)) + (gI M 55 0)) < 256 then
            if wr (gI M 60 (wr (((64 * a1) + ((((gI M 55 0) * (a3 - 1)) + a2) - 1)) + (gI M 55 0)))) = wr (2 * (((((gI M 55 0) * (a3 - 1)) + a2) - 1) + (gI M 55 0))) then
              some (1)
            else
              some (0)
            else none
          else
            some (0)
          else none) fun (v21 : Int) =>
      bd1 (
        if wr v15 = 0 then
          some (0)
        else
          if 0 ≤ wr ((64 * a1) + ((((gI M 55 0) * (a3 - 1)) + a2) - 1)) ∧ wr ((64 * a1) + ((((gI M 55 0) * (a3 - 1)) + a2) - 1)) < 256 then
          if wr (gI M 60 (wr ((64 * a1) + ((((gI M 55 0) * (a3 - 1)) + a2) - 1)))) = wr ((2 * ((((gI M 55 0) * (a3 - 1)) + a2) - 1)) + 1) then
            if 0 ≤ wr (((64 * a1) + ((((gI M 55 0) * (a3 - 1)) + a2) - 1)) + 1) ∧ wr (((64 * a1) + ((((gI M 55 0) * (a3 - 1)) + a2) - 1)) + 1) < 256 then
            if wr (gI M 60 (wr (((64 * a1) + ((((gI M 55 0) * (a3 - 1)) + a2) - 1)) + 1))) = wr ((2 * ((((gI M 55 0) * (a3 - 1)) + a2) - 1)) + 3) then
              some (1)
            else
              some (0)
            else none
          else
            some (0)
          else none) fun (v27 : Int) =>
      if wr v21 = 0 then
        if wr v27 = 0 then
          some (-4)
        else
          bd1 (m_X12_isDarkCell M ((((gI M 55 0) * (a3 - 1)) + a2) - 1)) fun b35 =>
          lt (if wr v21 = wr (bI b35) then 0 else 1) fun (v37 : Int) =>
          some v37
      else
        bd1 (m_X12_isDarkCell M ((((gI M 55 0) * (a3 - 1)) + a2) - 1)) fun b30 =>
        lt (if wr v21 = wr (bI b30) then 0 else 1) fun (v32 : Int) =>
        some v32
      else none
set_option maxRecDepth 10000 in
theorem run_X12_turnOf {M : Mem} {a1 : Int} {a2 : Int} {a3 : Int} {r : Int}   (h : m_X12_turnOf M a1 a2 a3 = some r) : RunI 2 yX12_turnOf cX12_turnOf 8 (some .int) [vR 55, vI a1, vI a2, vI a3] M r M := by
  refine runI_of (lv := [(0, vR 55), (1, vI a1), (2, vI a2), (3, vI a3)]) (by decide +kernel) (Or.inl rfl) (Nat.le_of_ble_eq_true rfl) rfl ?_
  intro G hQ
  unfold m_X12_turnOf at h
  refine r_iload_n dX12_turnOf_0 rfl 2 rfl ?_
  refine r_i2l dX12_turnOf_1 ?_
  refine r_lconst (v := 1) dX12_turnOf_2 rfl ?_
  refine r_aload_n dX12_turnOf_3 rfl 0 rfl ?_
  refine r_getI (j := 0) (jz := 0) dX12_turnOf_4 f_X12_88 rfl rfl rfl ?_
  refine r_iconst dX12_turnOf_7 ?_
  refine r_isub dX12_turnOf_8 ?_
  refine r_i2l dX12_turnOf_9 ?_
  obtain ⟨b2, hc1, h⟩ := of_bd1 h
  refine r_callSI (st := []) dX12_turnOf_10 v_X12_100 (run_X12_in hc1) (by decide) (by decide) rfl (Nat.le_of_ble_eq_true rfl) rfl ?_
  by_cases c3 : wr (bI b2) = 0
  · rw [if_pos c3] at h
    refine r_if_eq (tgt := 32) dX12_turnOf_13 (by decide) (fun _ => ?_) (fun q => absurd c3 q)
    refine r_bipush dX12_turnOf_32 (by decide) ?_
    cases h
    exact hQ _ _ dX12_turnOf_34
  · rw [if_neg c3] at h
    refine r_if_eq (tgt := 32) dX12_turnOf_13 (by decide) (fun q => absurd q c3) (fun _ => ?_)
    refine r_iload_n dX12_turnOf_16 rfl 3 rfl ?_
    refine r_i2l dX12_turnOf_17 ?_
    refine r_lconst (v := 1) dX12_turnOf_18 rfl ?_
    refine r_aload_n dX12_turnOf_19 rfl 0 rfl ?_
    refine r_getI (j := 1) (jz := 1) dX12_turnOf_20 f_X12_92 rfl rfl rfl ?_
    refine r_iconst dX12_turnOf_23 ?_
    refine r_isub dX12_turnOf_24 ?_
    refine r_i2l dX12_turnOf_25 ?_
    obtain ⟨b5, hc4, h⟩ := of_bd1 h
    refine r_callSI (st := []) dX12_turnOf_26 v_X12_100 (run_X12_in hc4) (by decide) (by decide) rfl (Nat.le_of_ble_eq_true rfl) rfl ?_
    by_cases c6 : wr (bI b5) = 0
    · rw [if_pos c6] at h
      refine r_if_ne (tgt := 35) dX12_turnOf_29 (by decide) (fun q => absurd c6 q) (fun _ => ?_)
      refine r_bipush dX12_turnOf_32 (by decide) ?_
      cases h
      exact hQ _ _ dX12_turnOf_34
    · rw [if_neg c6] at h
      refine r_if_ne (tgt := 35) dX12_turnOf_29 (by decide) (fun _ => ?_) (fun q => absurd q c6)
      refine r_aload_n dX12_turnOf_35 rfl 0 rfl ?_
      refine r_getI (j := 0) (jz := 0) dX12_turnOf_36 f_X12_88 rfl rfl rfl ?_
      refine r_iload_n dX12_turnOf_39 rfl 3 rfl ?_
      refine r_iconst dX12_turnOf_40 ?_
      refine r_isub dX12_turnOf_41 ?_
      refine r_imul dX12_turnOf_42 ?_
      refine r_iload_n dX12_turnOf_43 rfl 2 rfl ?_
      refine r_iadd dX12_turnOf_44 ?_
      refine r_iconst dX12_turnOf_45 ?_
      refine r_isub dX12_turnOf_46 ?_
      refine r_istore (lv2 := [(4, vI ((((gI M 55 0) * (a3 - 1)) + a2) - 1)), (0, vR 55), (1, vI a1), (2, vI a2), (3, vI a3)]) dX12_turnOf_47 (by decide) rfl ?_
      refine r_aload_n dX12_turnOf_49 rfl 1 rfl ?_
      refine r_getR (j := 2) (v := 56) dX12_turnOf_50 f_X12_7 rfl rfl rfl ?_
      refine r_iload dX12_turnOf_53 0 rfl ?_
      obtain ⟨c7, h⟩ := of_ck h
      refine r_zald dX12_turnOf_55 rfl c7 ?_
      obtain ⟨v15, h9, h⟩ := of_bd1 h
      have kJ : Ex G 2 cX12_turnOf RX12 8 108 [(0, vR 55), (1, vI a1), (4, vI ((((gI M 55 0) * (a3 - 1)) + a2) - 1))] [vI v15] M := by
        refine r_istore (lv2 := [(5, vI v15), (0, vR 55), (1, vI a1), (4, vI ((((gI M 55 0) * (a3 - 1)) + a2) - 1))]) dX12_turnOf_108 (by decide) rfl ?_
        refine r_iload dX12_turnOf_110 0 rfl ?_
        obtain ⟨v21, h9, h⟩ := of_bd1 h
        have kJ : Ex G 2 cX12_turnOf RX12 8 168 [(0, vR 55), (1, vI a1), (4, vI ((((gI M 55 0) * (a3 - 1)) + a2) - 1)), (5, vI v15)] [vI v21] M := by
          refine r_istore (lv2 := [(6, vI v21), (0, vR 55), (1, vI a1), (4, vI ((((gI M 55 0) * (a3 - 1)) + a2) - 1)), (5, vI v15)]) dX12_turnOf_168 (by decide) rfl ?_
          refine r_iload dX12_turnOf_170 4 rfl ?_
          obtain ⟨v27, h9, h⟩ := of_bd1 h
          have kJ : Ex G 2 cX12_turnOf RX12 8 224 [(0, vR 55), (4, vI ((((gI M 55 0) * (a3 - 1)) + a2) - 1)), (6, vI v21)] [vI v27] M := by
            refine r_istore (lv2 := [(7, vI v27), (0, vR 55), (4, vI ((((gI M 55 0) * (a3 - 1)) + a2) - 1)), (6, vI v21)]) dX12_turnOf_224 (by decide) rfl ?_
            refine r_iload dX12_turnOf_226 3 rfl ?_
            by_cases c28 : wr v21 = 0
            · rw [if_pos c28] at h
              refine r_if_ne (tgt := 239) dX12_turnOf_228 (by decide) (fun q => absurd c28 q) (fun _ => ?_)
              refine r_iload dX12_turnOf_231 0 rfl ?_
              by_cases c33 : wr v27 = 0
              · rw [if_pos c33] at h
                refine r_if_ne (tgt := 239) dX12_turnOf_233 (by decide) (fun q => absurd c33 q) (fun _ => ?_)
                refine r_bipush dX12_turnOf_236 (by decide) ?_
                cases h
                exact hQ _ _ dX12_turnOf_238
              · rw [if_neg c33] at h
                refine r_if_ne (tgt := 239) dX12_turnOf_233 (by decide) (fun _ => ?_) (fun q => absurd q c33)
                refine r_iload dX12_turnOf_239 3 rfl ?_
                refine r_aload_n dX12_turnOf_241 rfl 1 rfl ?_
                refine r_iload dX12_turnOf_242 2 rfl ?_
                obtain ⟨b35, hc34, h⟩ := of_bd1 h
                refine r_callVI (st := [vI v21]) dX12_turnOf_244 v_X12_150 (run_X12_isDarkCell hc34) (by decide) (by decide) rfl rfl (Nat.le_of_ble_eq_true rfl) rfl ?_
                obtain ⟨v37, ev37, h⟩ := of_lt h
                have kJ : Ex G 2 cX12_turnOf RX12 8 255 [] [vI v37] M := by
                  cases h
                  exact hQ _ _ dX12_turnOf_255
                clear h
                by_cases c36 : wr v21 = wr (bI b35)
                · skip
                  refine r_icmp_ne (tgt := 254) dX12_turnOf_247 (by decide) (fun q => absurd c36 q) (fun _ => ?_)
                  refine r_iconst dX12_turnOf_250 ?_
                  refine r_goto (tgt := 255) dX12_turnOf_251 (by decide) ?_
                  rw [show v37 = 0 from by rw [ev37, if_pos c36]] at kJ
                  refine r_sub (lv2 := []) [] rfl ?_
                  exact kJ
                · skip
                  refine r_icmp_ne (tgt := 254) dX12_turnOf_247 (by decide) (fun _ => ?_) (fun q => absurd q c36)
                  refine r_iconst dX12_turnOf_254 ?_
                  rw [show v37 = 1 from by rw [ev37, if_neg c36]] at kJ
                  refine r_sub (lv2 := []) [] rfl ?_
                  exact kJ
            · rw [if_neg c28] at h
              refine r_if_ne (tgt := 239) dX12_turnOf_228 (by decide) (fun _ => ?_) (fun q => absurd q c28)
              refine r_iload dX12_turnOf_239 3 rfl ?_
              refine r_aload_n dX12_turnOf_241 rfl 1 rfl ?_
              refine r_iload dX12_turnOf_242 2 rfl ?_
              obtain ⟨b30, hc29, h⟩ := of_bd1 h
              refine r_callVI (st := [vI v21]) dX12_turnOf_244 v_X12_150 (run_X12_isDarkCell hc29) (by decide) (by decide) rfl rfl (Nat.le_of_ble_eq_true rfl) rfl ?_
              obtain ⟨v32, ev32, h⟩ := of_lt h
              have kJ : Ex G 2 cX12_turnOf RX12 8 255 [] [vI v32] M := by
                cases h
                exact hQ _ _ dX12_turnOf_255
              clear h
              by_cases c31 : wr v21 = wr (bI b30)
              · skip
                refine r_icmp_ne (tgt := 254) dX12_turnOf_247 (by decide) (fun q => absurd c31 q) (fun _ => ?_)
                refine r_iconst dX12_turnOf_250 ?_
                refine r_goto (tgt := 255) dX12_turnOf_251 (by decide) ?_
                rw [show v32 = 0 from by rw [ev32, if_pos c31]] at kJ
                refine r_sub (lv2 := []) [] rfl ?_
                exact kJ
              · skip
                refine r_icmp_ne (tgt := 254) dX12_turnOf_247 (by decide) (fun _ => ?_) (fun q => absurd q c31)
                refine r_iconst dX12_turnOf_254 ?_
                rw [show v32 = 1 from by rw [ev32, if_neg c31]] at kJ
                refine r_sub (lv2 := []) [] rfl ?_
                exact kJ
          clear h
          have h := h9
          clear h9
          by_cases c22 : wr v15 = 0
          · rw [if_pos c22] at h
            refine r_if_eq (tgt := 223) dX12_turnOf_172 (by decide) (fun _ => ?_) (fun q => absurd c22 q)
            refine r_iconst dX12_turnOf_223 ?_
            refine r_sub (lv2 := [(0, vR 55), (4, vI ((((gI M 55 0) * (a3 - 1)) + a2) - 1)), (6, vI v21)]) [1, 3, 0] rfl ?_
            cases h
            exact kJ
          · rw [if_neg c22] at h
            refine r_if_eq (tgt := 223) dX12_turnOf_172 (by decide) (fun q => absurd q c22) (fun _ => ?_)
            refine r_aload_n dX12_turnOf_175 rfl 1 rfl ?_
            refine r_getR (j := 6) (v := 60) dX12_turnOf_176 f_X12_23 rfl rfl rfl ?_
            refine r_bipush dX12_turnOf_179 (by decide) ?_
            refine r_iload_n dX12_turnOf_181 rfl 2 rfl ?_
            refine r_imul dX12_turnOf_182 ?_
            refine r_iload dX12_turnOf_183 3 rfl ?_
            refine r_iadd dX12_turnOf_185 ?_
            obtain ⟨c23, h⟩ := of_ck h
            refine r_iald dX12_turnOf_186 rfl c23 ?_
            refine r_iconst dX12_turnOf_187 ?_
            refine r_iload dX12_turnOf_188 3 rfl ?_
            refine r_imul dX12_turnOf_190 ?_
            refine r_iconst dX12_turnOf_191 ?_
            refine r_iadd dX12_turnOf_192 ?_
            by_cases c24 : wr (gI M 60 (wr ((64 * a1) + ((((gI M 55 0) * (a3 - 1)) + a2) - 1)))) = wr ((2 * ((((gI M 55 0) * (a3 - 1)) + a2) - 1)) + 1)
            · rw [if_pos c24] at h
              refine r_icmp_ne (tgt := 223) dX12_turnOf_193 (by decide) (fun q => absurd c24 q) (fun _ => ?_)
              refine r_aload_n dX12_turnOf_196 rfl 1 rfl ?_
              refine r_getR (j := 6) (v := 60) dX12_turnOf_197 f_X12_23 rfl rfl rfl ?_
              refine r_bipush dX12_turnOf_200 (by decide) ?_
              refine r_iload_n dX12_turnOf_202 rfl 2 rfl ?_
              refine r_imul dX12_turnOf_203 ?_
              refine r_iload dX12_turnOf_204 3 rfl ?_
              refine r_iadd dX12_turnOf_206 ?_
              refine r_iconst dX12_turnOf_207 ?_
              refine r_iadd dX12_turnOf_208 ?_
              obtain ⟨c25, h⟩ := of_ck h
              refine r_iald dX12_turnOf_209 rfl c25 ?_
              refine r_iconst dX12_turnOf_210 ?_
              refine r_iload dX12_turnOf_211 3 rfl ?_
              refine r_imul dX12_turnOf_213 ?_
              refine r_iconst dX12_turnOf_214 ?_
              refine r_iadd dX12_turnOf_215 ?_
              by_cases c26 : wr (gI M 60 (wr (((64 * a1) + ((((gI M 55 0) * (a3 - 1)) + a2) - 1)) + 1))) = wr ((2 * ((((gI M 55 0) * (a3 - 1)) + a2) - 1)) + 3)
              · rw [if_pos c26] at h
                refine r_icmp_ne (tgt := 223) dX12_turnOf_216 (by decide) (fun q => absurd c26 q) (fun _ => ?_)
                refine r_iconst dX12_turnOf_219 ?_
                refine r_goto (tgt := 224) dX12_turnOf_220 (by decide) ?_
                refine r_sub (lv2 := [(0, vR 55), (4, vI ((((gI M 55 0) * (a3 - 1)) + a2) - 1)), (6, vI v21)]) [1, 3, 0] rfl ?_
                cases h
                exact kJ
              · rw [if_neg c26] at h
                refine r_icmp_ne (tgt := 223) dX12_turnOf_216 (by decide) (fun _ => ?_) (fun q => absurd q c26)
                refine r_iconst dX12_turnOf_223 ?_
                refine r_sub (lv2 := [(0, vR 55), (4, vI ((((gI M 55 0) * (a3 - 1)) + a2) - 1)), (6, vI v21)]) [1, 3, 0] rfl ?_
                cases h
                exact kJ
            · rw [if_neg c24] at h
              refine r_icmp_ne (tgt := 223) dX12_turnOf_193 (by decide) (fun _ => ?_) (fun q => absurd q c24)
              refine r_iconst dX12_turnOf_223 ?_
              refine r_sub (lv2 := [(0, vR 55), (4, vI ((((gI M 55 0) * (a3 - 1)) + a2) - 1)), (6, vI v21)]) [1, 3, 0] rfl ?_
              cases h
              exact kJ
        clear h
        have h := h9
        clear h9
        by_cases c16 : wr v15 = 0
        · rw [if_pos c16] at h
          refine r_if_eq (tgt := 167) dX12_turnOf_112 (by decide) (fun _ => ?_) (fun q => absurd c16 q)
          refine r_iconst dX12_turnOf_167 ?_
          refine r_sub (lv2 := [(0, vR 55), (1, vI a1), (4, vI ((((gI M 55 0) * (a3 - 1)) + a2) - 1)), (5, vI v15)]) [1, 2, 3, 0] rfl ?_
          cases h
          exact kJ
        · rw [if_neg c16] at h
          refine r_if_eq (tgt := 167) dX12_turnOf_112 (by decide) (fun q => absurd q c16) (fun _ => ?_)
          refine r_aload_n dX12_turnOf_115 rfl 1 rfl ?_
          refine r_getR (j := 6) (v := 60) dX12_turnOf_116 f_X12_23 rfl rfl rfl ?_
          refine r_bipush dX12_turnOf_119 (by decide) ?_
          refine r_iload_n dX12_turnOf_121 rfl 2 rfl ?_
          refine r_imul dX12_turnOf_122 ?_
          refine r_iload dX12_turnOf_123 3 rfl ?_
          refine r_iadd dX12_turnOf_125 ?_
          obtain ⟨c17, h⟩ := of_ck h
          refine r_iald dX12_turnOf_126 rfl c17 ?_
          refine r_iconst dX12_turnOf_127 ?_
          refine r_iload dX12_turnOf_128 3 rfl ?_
          refine r_imul dX12_turnOf_130 ?_
          by_cases c18 : wr (gI M 60 (wr ((64 * a1) + ((((gI M 55 0) * (a3 - 1)) + a2) - 1)))) = wr (2 * ((((gI M 55 0) * (a3 - 1)) + a2) - 1))
          · rw [if_pos c18] at h
            refine r_icmp_ne (tgt := 167) dX12_turnOf_131 (by decide) (fun q => absurd c18 q) (fun _ => ?_)
            refine r_aload_n dX12_turnOf_134 rfl 1 rfl ?_
            refine r_getR (j := 6) (v := 60) dX12_turnOf_135 f_X12_23 rfl rfl rfl ?_
            refine r_bipush dX12_turnOf_138 (by decide) ?_
            refine r_iload_n dX12_turnOf_140 rfl 2 rfl ?_
            refine r_imul dX12_turnOf_141 ?_
            refine r_iload dX12_turnOf_142 3 rfl ?_
            refine r_iadd dX12_turnOf_144 ?_
            refine r_aload_n dX12_turnOf_145 rfl 1 rfl ?_
            refine r_getI (j := 0) (jz := 0) dX12_turnOf_146 f_X12_88 rfl rfl rfl ?_
            refine r_iadd dX12_turnOf_149 ?_
            obtain ⟨c19, h⟩ := of_ck h
            refine r_iald dX12_turnOf_150 rfl c19 ?_
            refine r_iconst dX12_turnOf_151 ?_
            refine r_iload dX12_turnOf_152 3 rfl ?_
            refine r_aload_n dX12_turnOf_154 rfl 1 rfl ?_
            refine r_getI (j := 0) (jz := 0) dX12_turnOf_155 f_X12_88 rfl rfl rfl ?_
            refine r_iadd dX12_turnOf_158 ?_
            refine r_imul dX12_turnOf_159 ?_
            by_cases c20 : wr (gI M 60 (wr (((64 * a1) + ((((gI M 55 0) * (a3 - 1)) + a2) - 1)) + (gI M 55 0)))) = wr (2 * (((((gI M 55 0) * (a3 - 1)) + a2) - 1) + (gI M 55 0)))
            · rw [if_pos c20] at h
              refine r_icmp_ne (tgt := 167) dX12_turnOf_160 (by decide) (fun q => absurd c20 q) (fun _ => ?_)
              refine r_iconst dX12_turnOf_163 ?_
              refine r_goto (tgt := 168) dX12_turnOf_164 (by decide) ?_
              refine r_sub (lv2 := [(0, vR 55), (1, vI a1), (4, vI ((((gI M 55 0) * (a3 - 1)) + a2) - 1)), (5, vI v15)]) [1, 2, 3, 0] rfl ?_
              cases h
              exact kJ
            · rw [if_neg c20] at h
              refine r_icmp_ne (tgt := 167) dX12_turnOf_160 (by decide) (fun _ => ?_) (fun q => absurd q c20)
              refine r_iconst dX12_turnOf_167 ?_
              refine r_sub (lv2 := [(0, vR 55), (1, vI a1), (4, vI ((((gI M 55 0) * (a3 - 1)) + a2) - 1)), (5, vI v15)]) [1, 2, 3, 0] rfl ?_
              cases h
              exact kJ
          · rw [if_neg c18] at h
            refine r_icmp_ne (tgt := 167) dX12_turnOf_131 (by decide) (fun _ => ?_) (fun q => absurd q c18)
            refine r_iconst dX12_turnOf_167 ?_
            refine r_sub (lv2 := [(0, vR 55), (1, vI a1), (4, vI ((((gI M 55 0) * (a3 - 1)) + a2) - 1)), (5, vI v15)]) [1, 2, 3, 0] rfl ?_
            cases h
            exact kJ
      clear h
      have h := h9
      clear h9
      by_cases c8 : wr (gI M 56 (wr ((((gI M 55 0) * (a3 - 1)) + a2) - 1))) = 0
      · rw [if_pos c8] at h
        refine r_if_eq (tgt := 107) dX12_turnOf_56 (by decide) (fun _ => ?_) (fun q => absurd c8 q)
        refine r_iconst dX12_turnOf_107 ?_
        refine r_sub (lv2 := [(0, vR 55), (1, vI a1), (4, vI ((((gI M 55 0) * (a3 - 1)) + a2) - 1))]) [1, 2, 0] rfl ?_
        cases h
        exact kJ
      · rw [if_neg c8] at h
        refine r_if_eq (tgt := 107) dX12_turnOf_56 (by decide) (fun q => absurd q c8) (fun _ => ?_)
        refine r_aload_n dX12_turnOf_59 rfl 1 rfl ?_
        refine r_getR (j := 2) (v := 56) dX12_turnOf_60 f_X12_7 rfl rfl rfl ?_
        refine r_iload dX12_turnOf_63 0 rfl ?_
        refine r_iconst dX12_turnOf_65 ?_
        refine r_iadd dX12_turnOf_66 ?_
        obtain ⟨c9, h⟩ := of_ck h
        refine r_zald dX12_turnOf_67 rfl c9 ?_
        by_cases c10 : wr (gI M 56 (wr (((((gI M 55 0) * (a3 - 1)) + a2) - 1) + 1))) = 0
        · rw [if_pos c10] at h
          refine r_if_eq (tgt := 107) dX12_turnOf_68 (by decide) (fun _ => ?_) (fun q => absurd c10 q)
          refine r_iconst dX12_turnOf_107 ?_
          refine r_sub (lv2 := [(0, vR 55), (1, vI a1), (4, vI ((((gI M 55 0) * (a3 - 1)) + a2) - 1))]) [1, 2, 0] rfl ?_
          cases h
          exact kJ
        · rw [if_neg c10] at h
          refine r_if_eq (tgt := 107) dX12_turnOf_68 (by decide) (fun q => absurd q c10) (fun _ => ?_)
          refine r_aload_n dX12_turnOf_71 rfl 1 rfl ?_
          refine r_getR (j := 2) (v := 56) dX12_turnOf_72 f_X12_7 rfl rfl rfl ?_
          refine r_iload dX12_turnOf_75 0 rfl ?_
          refine r_aload_n dX12_turnOf_77 rfl 1 rfl ?_
          refine r_getI (j := 0) (jz := 0) dX12_turnOf_78 f_X12_88 rfl rfl rfl ?_
          refine r_iadd dX12_turnOf_81 ?_
          obtain ⟨c11, h⟩ := of_ck h
          refine r_zald dX12_turnOf_82 rfl c11 ?_
          by_cases c12 : wr (gI M 56 (wr (((((gI M 55 0) * (a3 - 1)) + a2) - 1) + (gI M 55 0)))) = 0
          · rw [if_pos c12] at h
            refine r_if_eq (tgt := 107) dX12_turnOf_83 (by decide) (fun _ => ?_) (fun q => absurd c12 q)
            refine r_iconst dX12_turnOf_107 ?_
            refine r_sub (lv2 := [(0, vR 55), (1, vI a1), (4, vI ((((gI M 55 0) * (a3 - 1)) + a2) - 1))]) [1, 2, 0] rfl ?_
            cases h
            exact kJ
          · rw [if_neg c12] at h
            refine r_if_eq (tgt := 107) dX12_turnOf_83 (by decide) (fun q => absurd q c12) (fun _ => ?_)
            refine r_aload_n dX12_turnOf_86 rfl 1 rfl ?_
            refine r_getR (j := 2) (v := 56) dX12_turnOf_87 f_X12_7 rfl rfl rfl ?_
            refine r_iload dX12_turnOf_90 0 rfl ?_
            refine r_aload_n dX12_turnOf_92 rfl 1 rfl ?_
            refine r_getI (j := 0) (jz := 0) dX12_turnOf_93 f_X12_88 rfl rfl rfl ?_
            refine r_iadd dX12_turnOf_96 ?_
            refine r_iconst dX12_turnOf_97 ?_
            refine r_iadd dX12_turnOf_98 ?_
            obtain ⟨c13, h⟩ := of_ck h
            refine r_zald dX12_turnOf_99 rfl c13 ?_
            by_cases c14 : wr (gI M 56 (wr ((((((gI M 55 0) * (a3 - 1)) + a2) - 1) + (gI M 55 0)) + 1))) = 0
            · rw [if_pos c14] at h
              refine r_if_eq (tgt := 107) dX12_turnOf_100 (by decide) (fun _ => ?_) (fun q => absurd c14 q)
              refine r_iconst dX12_turnOf_107 ?_
              refine r_sub (lv2 := [(0, vR 55), (1, vI a1), (4, vI ((((gI M 55 0) * (a3 - 1)) + a2) - 1))]) [1, 2, 0] rfl ?_
              cases h
              exact kJ
            · rw [if_neg c14] at h
              refine r_if_eq (tgt := 107) dX12_turnOf_100 (by decide) (fun q => absurd q c14) (fun _ => ?_)
              refine r_iconst dX12_turnOf_103 ?_
              refine r_goto (tgt := 108) dX12_turnOf_104 (by decide) ?_
              refine r_sub (lv2 := [(0, vR 55), (1, vI a1), (4, vI ((((gI M 55 0) * (a3 - 1)) + a2) - 1))]) [1, 2, 0] rfl ?_
              cases h
              exact kJ

def m_X12_across (M : Mem) (a1 : Int) (a2 : Int) (a3 : Int) : Option (Mem) :=
  if 0 ≤ wr ((64 * a1) + ((((gI M 55 0) * (a3 - 1)) + a2) - 1)) ∧ wr ((64 * a1) + ((((gI M 55 0) * (a3 - 1)) + a2) - 1)) < 256 then
  lt (if wr (gI M 60 (wr ((64 * a1) + ((((gI M 55 0) * (a3 - 1)) + a2) - 1)))) = wr (2 * ((((gI M 55 0) * (a3 - 1)) + a2) - 1)) then 1 else 0) fun (v3 : Int) =>
  lt (if wr v3 = 0 then (2 * ((((gI M 55 0) * (a3 - 1)) + a2) - 1)) else ((2 * ((((gI M 55 0) * (a3 - 1)) + a2) - 1)) + 1)) fun (v5 : Int) =>
  bd1 (m_X12_lays M a1 v5) fun M7 =>
  lt (if wr v3 = 0 then (2 * (((((gI M 55 0) * (a3 - 1)) + a2) - 1) + (gI M7 55 0))) else ((2 * ((((gI M 55 0) * (a3 - 1)) + a2) - 1)) + 3)) fun (v9 : Int) =>
  bd1 (m_X12_lays M7 a1 v9) fun M11 =>
  some M11
  else none
set_option maxRecDepth 10000 in
theorem run_X12_across {M : Mem} {M2 : Mem} {a1 : Int} {a2 : Int} {a3 : Int}   (h : m_X12_across M a1 a2 a3 = some (M2)) : RunV 2 yX12_across cX12_across 6 none [vR 55, vI a1, vI a2, vI a3] M M2 := by
  refine runV_of (lv := [(0, vR 55), (1, vI a1), (2, vI a2), (3, vI a3)]) (by decide +kernel) rfl (Nat.le_of_ble_eq_true rfl) rfl ?_
  intro G hQ
  unfold m_X12_across at h
  refine r_aload_n dX12_across_0 rfl 0 rfl ?_
  refine r_getI (j := 0) (jz := 0) dX12_across_1 f_X12_88 rfl rfl rfl ?_
  refine r_iload_n dX12_across_4 rfl 3 rfl ?_
  refine r_iconst dX12_across_5 ?_
  refine r_isub dX12_across_6 ?_
  refine r_imul dX12_across_7 ?_
  refine r_iload_n dX12_across_8 rfl 2 rfl ?_
  refine r_iadd dX12_across_9 ?_
  refine r_iconst dX12_across_10 ?_
  refine r_isub dX12_across_11 ?_
  refine r_istore (lv2 := [(4, vI ((((gI M 55 0) * (a3 - 1)) + a2) - 1)), (0, vR 55), (1, vI a1), (2, vI a2), (3, vI a3)]) dX12_across_12 (by decide) rfl ?_
  refine r_aload_n dX12_across_14 rfl 1 rfl ?_
  refine r_getR (j := 6) (v := 60) dX12_across_15 f_X12_23 rfl rfl rfl ?_
  refine r_bipush dX12_across_18 (by decide) ?_
  refine r_iload_n dX12_across_20 rfl 2 rfl ?_
  refine r_imul dX12_across_21 ?_
  refine r_iload dX12_across_22 0 rfl ?_
  refine r_iadd dX12_across_24 ?_
  obtain ⟨c1, h⟩ := of_ck h
  refine r_iald dX12_across_25 rfl c1 ?_
  refine r_iconst dX12_across_26 ?_
  refine r_iload dX12_across_27 0 rfl ?_
  refine r_imul dX12_across_29 ?_
  obtain ⟨v3, ev3, h⟩ := of_lt h
  have kJ : Ex G 2 cX12_across RX12 6 38 [(0, vR 55), (1, vI a1), (4, vI ((((gI M 55 0) * (a3 - 1)) + a2) - 1))] [vI v3] M := by
    refine r_istore (lv2 := [(5, vI v3), (0, vR 55), (1, vI a1), (4, vI ((((gI M 55 0) * (a3 - 1)) + a2) - 1))]) dX12_across_38 (by decide) rfl ?_
    refine r_aload_n dX12_across_40 rfl 1 rfl ?_
    refine r_iload_n dX12_across_41 rfl 2 rfl ?_
    refine r_iload dX12_across_42 0 rfl ?_
    obtain ⟨v5, ev5, h⟩ := of_lt h
    have kJ : Ex G 2 cX12_across RX12 6 60 [(0, vR 55), (1, vI a1), (4, vI ((((gI M 55 0) * (a3 - 1)) + a2) - 1)), (5, vI v3)] [vI v5, vI a1, vR 55] M := by
      obtain ⟨M7, hc6, h⟩ := of_bd1 h
      refine r_callVV (st := []) dX12_across_60 v_X12_191 (run_X12_lays hc6) (by decide) (by decide) rfl rfl (Nat.le_of_ble_eq_true rfl) rfl ?_
      refine r_aload_n dX12_across_63 rfl 0 rfl ?_
      refine r_iload_n dX12_across_64 rfl 1 rfl ?_
      refine r_iload dX12_across_65 3 rfl ?_
      obtain ⟨v9, ev9, h⟩ := of_lt h
      have kJ : Ex G 2 cX12_across RX12 6 88 [] [vI v9, vI a1, vR 55] M7 := by
        obtain ⟨M11, hc10, h⟩ := of_bd1 h
        refine r_callVV (st := []) dX12_across_88 v_X12_191 (run_X12_lays hc10) (by decide) (by decide) rfl rfl (Nat.le_of_ble_eq_true rfl) rfl ?_
        cases h
        exact hQ _ _ dX12_across_91
      clear h
      by_cases c8 : wr v3 = 0
      · skip
        refine r_if_eq (tgt := 79) dX12_across_67 (by decide) (fun _ => ?_) (fun q => absurd c8 q)
        refine r_iconst dX12_across_79 ?_
        refine r_iload dX12_across_80 2 rfl ?_
        refine r_aload_n dX12_across_82 rfl 0 rfl ?_
        refine r_getI (j := 0) (jz := 0) dX12_across_83 f_X12_88 rfl rfl rfl ?_
        refine r_iadd dX12_across_86 ?_
        refine r_imul dX12_across_87 ?_
        rw [show v9 = (2 * (((((gI M 55 0) * (a3 - 1)) + a2) - 1) + (gI M7 55 0))) from by rw [ev9, if_pos c8]] at kJ
        refine r_sub (lv2 := []) [] rfl ?_
        exact kJ
      · skip
        refine r_if_eq (tgt := 79) dX12_across_67 (by decide) (fun q => absurd q c8) (fun _ => ?_)
        refine r_iconst dX12_across_70 ?_
        refine r_iload dX12_across_71 2 rfl ?_
        refine r_imul dX12_across_73 ?_
        refine r_iconst dX12_across_74 ?_
        refine r_iadd dX12_across_75 ?_
        refine r_goto (tgt := 88) dX12_across_76 (by decide) ?_
        rw [show v9 = ((2 * ((((gI M 55 0) * (a3 - 1)) + a2) - 1)) + 3) from by rw [ev9, if_neg c8]] at kJ
        refine r_sub (lv2 := []) [] rfl ?_
        exact kJ
    clear h
    by_cases c4 : wr v3 = 0
    · skip
      refine r_if_eq (tgt := 56) dX12_across_44 (by decide) (fun _ => ?_) (fun q => absurd c4 q)
      refine r_iconst dX12_across_56 ?_
      refine r_iload dX12_across_57 3 rfl ?_
      refine r_imul dX12_across_59 ?_
      rw [show v5 = (2 * ((((gI M 55 0) * (a3 - 1)) + a2) - 1)) from by rw [ev5, if_pos c4]] at kJ
      refine r_sub (lv2 := [(0, vR 55), (1, vI a1), (4, vI ((((gI M 55 0) * (a3 - 1)) + a2) - 1)), (5, vI v3)]) [1, 2, 3, 0] rfl ?_
      exact kJ
    · skip
      refine r_if_eq (tgt := 56) dX12_across_44 (by decide) (fun q => absurd q c4) (fun _ => ?_)
      refine r_iconst dX12_across_47 ?_
      refine r_iload dX12_across_48 3 rfl ?_
      refine r_imul dX12_across_50 ?_
      refine r_iconst dX12_across_51 ?_
      refine r_iadd dX12_across_52 ?_
      refine r_goto (tgt := 60) dX12_across_53 (by decide) ?_
      rw [show v5 = ((2 * ((((gI M 55 0) * (a3 - 1)) + a2) - 1)) + 1) from by rw [ev5, if_neg c4]] at kJ
      refine r_sub (lv2 := [(0, vR 55), (1, vI a1), (4, vI ((((gI M 55 0) * (a3 - 1)) + a2) - 1)), (5, vI v3)]) [1, 2, 3, 0] rfl ?_
      exact kJ
  clear h
  by_cases c2 : wr (gI M 60 (wr ((64 * a1) + ((((gI M 55 0) * (a3 - 1)) + a2) - 1)))) = wr (2 * ((((gI M 55 0) * (a3 - 1)) + a2) - 1))
  · skip
    refine r_icmp_ne (tgt := 37) dX12_across_30 (by decide) (fun q => absurd c2 q) (fun _ => ?_)
    refine r_iconst dX12_across_33 ?_
    refine r_goto (tgt := 38) dX12_across_34 (by decide) ?_
    rw [show v3 = 1 from by rw [ev3, if_pos c2]] at kJ
    refine r_sub (lv2 := [(0, vR 55), (1, vI a1), (4, vI ((((gI M 55 0) * (a3 - 1)) + a2) - 1))]) [1, 2, 0] rfl ?_
    exact kJ
  · skip
    refine r_icmp_ne (tgt := 37) dX12_across_30 (by decide) (fun _ => ?_) (fun q => absurd q c2)
    refine r_iconst dX12_across_37 ?_
    rw [show v3 = 0 from by rw [ev3, if_neg c2]] at kJ
    refine r_sub (lv2 := [(0, vR 55), (1, vI a1), (4, vI ((((gI M 55 0) * (a3 - 1)) + a2) - 1))]) [1, 2, 0] rfl ?_
    exact kJ

