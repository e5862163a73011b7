def m_X10_column (M : Mem) (a1 : Int) : Option (Int) :=
  if ¬ wr (gI M 1 0) = 0 then
  some (irm a1 (gI M 1 0))
  else none
set_option maxRecDepth 10000 in
theorem run_X10_column {M : Mem} {a1 : Int} {r : Int}   (h : m_X10_column M a1 = some r) : RunI 0 yX10_column cX10_column 2 (some .int) [vR 1, vI a1] M r M := by
  refine runI_of (lv := [(0, vR 1), (1, vI a1)]) (by decide +kernel) (Or.inl rfl) (Nat.le_of_ble_eq_true rfl) rfl ?_
  intro G hQ
  unfold m_X10_column at h
  refine r_iload_n dX10_column_0 rfl 1 rfl ?_
  refine r_aload_n dX10_column_1 rfl 0 rfl ?_
  refine r_getI (j := 0) (jz := 0) dX10_column_2 f_X10_22 rfl rfl rfl ?_
  obtain ⟨c1, h⟩ := of_ck h
  refine r_irem dX10_column_5 c1 ?_
  cases h
  exact hQ _ _ dX10_column_6

def m_X10_row (M : Mem) (a1 : Int) : Option (Int) :=
  if ¬ wr (gI M 1 0) = 0 then
  some (idv a1 (gI M 1 0))
  else none
set_option maxRecDepth 10000 in
theorem run_X10_row {M : Mem} {a1 : Int} {r : Int}   (h : m_X10_row M a1 = some r) : RunI 0 yX10_row cX10_row 2 (some .int) [vR 1, vI a1] M r M := by
  refine runI_of (lv := [(0, vR 1), (1, vI a1)]) (by decide +kernel) (Or.inl rfl) (Nat.le_of_ble_eq_true rfl) rfl ?_
  intro G hQ
  unfold m_X10_row at h
  refine r_iload_n dX10_row_0 rfl 1 rfl ?_
  refine r_aload_n dX10_row_1 rfl 0 rfl ?_
  refine r_getI (j := 0) (jz := 0) dX10_row_2 f_X10_22 rfl rfl rfl ?_
  obtain ⟨c1, h⟩ := of_ck h
  refine r_idiv dX10_row_5 c1 ?_
  cases h
  exact hQ _ _ dX10_row_6

def m_X10_secondCell (M : Mem) (a1 : Int) : Option (Int) :=
  bd1 (m_X10_column M (idv a1 2)) fun r2 =>
  bd1 (m_X10_row M (idv a1 2)) fun r4 =>
  bd1 (
    if wr (irm a1 2) = 0 then
      bd1 (m_X10_openAt M (r2 + 1) r4) fun r9 =>
      some (r9)
    else
      bd1 (m_X10_openAt M r2 (r4 + 1)) fun r7 =>
      some (r7)) fun (v10 : Int) =>
  some v10
set_option maxRecDepth 10000 in
theorem run_X10_secondCell {M : Mem} {a1 : Int} {r : Int}   (h : m_X10_secondCell M a1 = some r) : RunI 1 yX10_secondCell cX10_secondCell 4 (some .int) [vR 1, vI a1] M r M := by
  refine runI_of (lv := [(0, vR 1), (1, vI a1)]) (by decide +kernel) (Or.inl rfl) (Nat.le_of_ble_eq_true rfl) rfl ?_
  intro G hQ
  unfold m_X10_secondCell at h
  refine r_aload_n dX10_secondCell_0 rfl 0 rfl ?_
  refine r_iload_n dX10_secondCell_1 rfl 1 rfl ?_
  refine r_iconst dX10_secondCell_2 ?_
  refine r_idiv dX10_secondCell_3 (by decide) ?_
  obtain ⟨r2, hc1, h⟩ := of_bd1 h
  refine r_callVI (st := []) dX10_secondCell_4 v_X10_43 (run_X10_column hc1) (by decide) (by decide) rfl rfl (Nat.le_of_ble_eq_true rfl) rfl ?_
  refine r_istore_n (lv2 := [(2, vI r2), (0, vR 1), (1, vI a1)]) dX10_secondCell_7 rfl (by decide) rfl ?_
  refine r_aload_n dX10_secondCell_8 rfl 1 rfl ?_
  refine r_iload_n dX10_secondCell_9 rfl 2 rfl ?_
  refine r_iconst dX10_secondCell_10 ?_
  refine r_idiv dX10_secondCell_11 (by decide) ?_
  obtain ⟨r4, hc3, h⟩ := of_bd1 h
  refine r_callVI (st := []) dX10_secondCell_12 v_X10_39 (run_X10_row hc3) (by decide) (by decide) rfl rfl (Nat.le_of_ble_eq_true rfl) rfl ?_
  refine r_istore_n (lv2 := [(3, vI r4), (2, vI r2), (0, vR 1), (1, vI a1)]) dX10_secondCell_15 rfl (by decide) rfl ?_
  refine r_iload_n dX10_secondCell_16 rfl 3 rfl ?_
  refine r_iconst dX10_secondCell_17 ?_
  refine r_irem dX10_secondCell_18 (by decide) ?_
  obtain ⟨v10, h9, h⟩ := of_bd1 h
  have kJ : Ex G 1 cX10_secondCell RX10 4 41 [] [vI v10] M := by
    cases h
    exact hQ _ _ dX10_secondCell_41
  clear h
  have h := h9
  clear h9
  by_cases c5 : wr (irm a1 2) = 0
  · rw [if_pos c5] at h
    refine r_if_ne (tgt := 33) dX10_secondCell_19 (by decide) (fun q => absurd c5 q) (fun _ => ?_)
    refine r_aload_n dX10_secondCell_22 rfl 2 rfl ?_
    refine r_iload_n dX10_secondCell_23 rfl 1 rfl ?_
    refine r_iconst dX10_secondCell_24 ?_
    refine r_iadd dX10_secondCell_25 ?_
    refine r_iload_n dX10_secondCell_26 rfl 0 rfl ?_
    obtain ⟨r9, hc8, h⟩ := of_bd1 h
    refine r_callVI (st := []) dX10_secondCell_27 v_X10_50 (run_X10_openAt hc8) (by decide) (by decide) rfl rfl (Nat.le_of_ble_eq_true rfl) rfl ?_
    refine r_goto (tgt := 41) dX10_secondCell_30 (by decide) ?_
    refine r_sub (lv2 := []) [] rfl ?_
    cases h
    exact kJ
  · rw [if_neg c5] at h
    refine r_if_ne (tgt := 33) dX10_secondCell_19 (by decide) (fun _ => ?_) (fun q => absurd q c5)
    refine r_aload_n dX10_secondCell_33 rfl 2 rfl ?_
    refine r_iload_n dX10_secondCell_34 rfl 1 rfl ?_
    refine r_iload_n dX10_secondCell_35 rfl 0 rfl ?_
    refine r_iconst dX10_secondCell_36 ?_
    refine r_iadd dX10_secondCell_37 ?_
    obtain ⟨r7, hc6, h⟩ := of_bd1 h
    refine r_callVI (st := []) dX10_secondCell_38 v_X10_50 (run_X10_openAt hc6) (by decide) (by decide) rfl rfl (Nat.le_of_ble_eq_true rfl) rfl ?_
    refine r_sub (lv2 := []) [] rfl ?_
    cases h
    exact kJ

def m_X3_put (M : Mem) (a0 : Nat) (a2 : Int) : Option (Mem) :=
  if 0 ≤ wr (idv a2 2) ∧ wr (idv a2 2) < 64 then
  lt (sI M (a0 + 1) (wr (idv a2 2)) a2) fun M2 =>
  bd1 (m_X10_secondCell M2 a2) fun r4 =>
  bd1 (
    if wr r4 < 0 then
      some (M2)
    else
      if 0 ≤ wr r4 ∧ wr r4 < 64 then
      lt (sI M2 (a0 + 1) (wr r4) a2) fun M7 =>
      some (M7)
      else none) fun (M8 : Mem) =>
  some M8
  else none
set_option maxRecDepth 10000 in
theorem run_X3_put {M : Mem} {M2 : Mem} {a0 : Nat} {a2 : Int}  (ha0 : (ly a0).1 = 8) (h : m_X3_put M a0 a2 = some (M2)) : RunV 2 yX3_put cX3_put 4 none [vR a0, vR 1, vI a2] M M2 := by
  refine runV_of (lv := [(0, vR a0), (1, vR 1), (2, vI a2)]) (by decide +kernel) rfl (Nat.le_of_ble_eq_true rfl) rfl ?_
  intro G hQ
  unfold m_X3_put at h
  refine r_aload_n dX3_put_0 rfl 0 rfl ?_
  refine r_getR (j := 1) (v := (a0 + 1)) dX3_put_1 f_X3_9 ha0 rfl (pav_on ha0).1 ?_
  refine r_iload_n dX3_put_4 rfl 2 rfl ?_
  refine r_iconst dX3_put_5 ?_
  refine r_idiv dX3_put_6 (by decide) ?_
  refine r_iload_n dX3_put_7 rfl 2 rfl ?_
  obtain ⟨c1, h⟩ := of_ck h
  obtain ⟨M2, eM2, h⟩ := of_lt h
  refine r_iast dX3_put_8 (pav_on (M := M) ha0).2 c1 ?_
  rw [← eM2]
  refine r_aload_n dX3_put_9 rfl 1 rfl ?_
  refine r_iload_n dX3_put_10 rfl 2 rfl ?_
  obtain ⟨r4, hc3, h⟩ := of_bd1 h
  refine r_callVI (st := []) dX3_put_11 v_X3_15 (run_X10_secondCell hc3) (by decide) (by decide) rfl rfl (Nat.le_of_ble_eq_true rfl) rfl ?_
  refine r_istore_n (lv2 := [(3, vI r4), (0, vR a0), (1, vR 1), (2, vI a2)]) dX3_put_14 rfl (by decide) rfl ?_
  refine r_iload_n dX3_put_15 rfl 0 rfl ?_
  obtain ⟨M8, h9, h⟩ := of_bd1 h
  have kJ : Ex G 2 cX3_put RX3 4 26 [] [] M8 := by
    cases h
    exact hQ _ _ dX3_put_26
  clear h
  have h := h9
  clear h9
  by_cases c5 : wr r4 < 0
  · rw [if_pos c5] at h
    refine r_if_lt (tgt := 26) dX3_put_16 (by decide) (fun _ => ?_) (fun q => absurd c5 q)
    refine r_sub (lv2 := []) [] rfl ?_
    cases h
    exact kJ
  · rw [if_neg c5] at h
    refine r_if_lt (tgt := 26) dX3_put_16 (by decide) (fun q => absurd q c5) (fun _ => ?_)
    refine r_aload_n dX3_put_19 rfl 1 rfl ?_
    refine r_getR (j := 1) (v := (a0 + 1)) dX3_put_20 f_X3_9 ha0 rfl (pav_on ha0).1 ?_
    refine r_iload_n dX3_put_23 rfl 0 rfl ?_
    refine r_iload_n dX3_put_24 rfl 3 rfl ?_
    obtain ⟨c6, h⟩ := of_ck h
    obtain ⟨M7, eM7, h⟩ := of_lt h
    refine r_iast dX3_put_25 (pav_on (M := M2) ha0).2 c6 ?_
    rw [← eM7]
    refine r_sub (lv2 := []) [] rfl ?_
    cases h
    exact kJ

def m_X1_makeTurn (M : Mem) (a2 : Nat) (a3 : Int) (a4 : Int) : Option (Mem) :=
  bd1 (m_X10_openAt M (a3 - 1) (a4 - 1)) fun r2 =>
  bd1 (m_X10_openAt M a3 (a4 - 1)) fun r4 =>
  bd1 (m_X10_openAt M (a3 - 1) a4) fun r6 =>
  if wr r2 < 0 then
    some M
  else
    if wr r4 < 0 then
      some M
    else
      if 0 ≤ wr r6 then
        if 0 ≤ wr r2 ∧ wr r2 < 64 then
        if 0 ≤ wr r4 ∧ wr r4 < 64 then
        bd1 (
          if wr (gI M (a2 + 1) (wr r2)) = wr (gI M (a2 + 1) (wr r4)) then
            bd1 (m_X3_put M a2 ((2 * r2) + 1)) fun M18 =>
            bd1 (m_X3_put M18 a2 ((2 * r4) + 1)) fun M20 =>
            some (M20)
          else
            bd1 (m_X3_put M a2 (2 * r2)) fun M14 =>
            bd1 (m_X3_put M14 a2 (2 * r6)) fun M16 =>
            some (M16)) fun (M21 : Mem) =>
        some M21
        else none
        else none
      else
        some M
set_option maxRecDepth 10000 in
theorem run_X1_makeTurn {M : Mem} {M2 : Mem} {a2 : Nat} {a3 : Int} {a4 : Int}  (ha2 : (ly a2).1 = 8) (h : m_X1_makeTurn M a2 a3 a4 = some (M2)) : RunV 3 yX1_makeTurn cX1_makeTurn 8 none [vR 28, vR 1, vR a2, vI a3, vI a4] M M2 := by
  refine runV_of (lv := [(0, vR 28), (1, vR 1), (2, vR a2), (3, vI a3), (4, vI a4)]) (by decide +kernel) rfl (Nat.le_of_ble_eq_true rfl) rfl ?_
  intro G hQ
  unfold m_X1_makeTurn at h
  refine r_aload_n dX1_makeTurn_0 rfl 1 rfl ?_
  refine r_iload_n dX1_makeTurn_1 rfl 3 rfl ?_
  refine r_iconst dX1_makeTurn_2 ?_
  refine r_isub dX1_makeTurn_3 ?_
  refine r_iload dX1_makeTurn_4 4 rfl ?_
  refine r_iconst dX1_makeTurn_6 ?_
  refine r_isub dX1_makeTurn_7 ?_
  obtain ⟨r2, hc1, h⟩ := of_bd1 h
  refine r_callVI (st := []) dX1_makeTurn_8 v_X1_66 (run_X10_openAt hc1) (by decide) (by decide) rfl rfl (Nat.le_of_ble_eq_true rfl) rfl ?_
  refine r_istore (lv2 := [(5, vI r2), (0, vR 28), (1, vR 1), (2, vR a2), (3, vI a3), (4, vI a4)]) dX1_makeTurn_11 (by decide) rfl ?_
  refine r_aload_n dX1_makeTurn_13 rfl 2 rfl ?_
  refine r_iload_n dX1_makeTurn_14 rfl 4 rfl ?_
  refine r_iload dX1_makeTurn_15 5 rfl ?_
  refine r_iconst dX1_makeTurn_17 ?_
  refine r_isub dX1_makeTurn_18 ?_
  obtain ⟨r4, hc3, h⟩ := of_bd1 h
  refine r_callVI (st := []) dX1_makeTurn_19 v_X1_66 (run_X10_openAt hc3) (by decide) (by decide) rfl rfl (Nat.le_of_ble_eq_true rfl) rfl ?_
  refine r_istore (lv2 := [(6, vI r4), (5, vI r2), (0, vR 28), (1, vR 1), (2, vR a2), (3, vI a3), (4, vI a4)]) dX1_makeTurn_22 (by decide) rfl ?_
  refine r_aload_n dX1_makeTurn_24 rfl 3 rfl ?_
  refine r_iload_n dX1_makeTurn_25 rfl 5 rfl ?_
  refine r_iconst dX1_makeTurn_26 ?_
  refine r_isub dX1_makeTurn_27 ?_
  refine r_iload dX1_makeTurn_28 6 rfl ?_
  obtain ⟨r6, hc5, h⟩ := of_bd1 h
  refine r_callVI (st := []) dX1_makeTurn_30 v_X1_66 (run_X10_openAt hc5) (by decide) (by decide) rfl rfl (Nat.le_of_ble_eq_true rfl) rfl ?_
  refine r_istore (lv2 := [(7, vI r6), (6, vI r4), (5, vI r2), (0, vR 28), (1, vR 1), (2, vR a2), (3, vI a3), (4, vI a4)]) dX1_makeTurn_33 (by decide) rfl ?_
  refine r_iload dX1_makeTurn_35 2 rfl ?_
  by_cases c7 : wr r2 < 0
  · rw [if_pos c7] at h
    refine r_if_lt (tgt := 50) dX1_makeTurn_37 (by decide) (fun _ => ?_) (fun q => absurd c7 q)
    cases h
    exact hQ _ _ dX1_makeTurn_50
  · rw [if_neg c7] at h
    refine r_if_lt (tgt := 50) dX1_makeTurn_37 (by decide) (fun q => absurd q c7) (fun _ => ?_)
    refine r_iload dX1_makeTurn_40 1 rfl ?_
    by_cases c8 : wr r4 < 0
    · rw [if_pos c8] at h
      refine r_if_lt (tgt := 50) dX1_makeTurn_42 (by decide) (fun _ => ?_) (fun q => absurd c8 q)
      cases h
      exact hQ _ _ dX1_makeTurn_50
    · rw [if_neg c8] at h
      refine r_if_lt (tgt := 50) dX1_makeTurn_42 (by decide) (fun q => absurd q c8) (fun _ => ?_)
      refine r_iload dX1_makeTurn_45 0 rfl ?_
      by_cases c9 : 0 ≤ wr r6
      · rw [if_pos c9] at h
        refine r_if_ge (tgt := 51) dX1_makeTurn_47 (by decide) (fun _ => ?_) (fun q => absurd c9 q)
        refine r_aload_n dX1_makeTurn_51 rfl 5 rfl ?_
        refine r_getR (j := 1) (v := (a2 + 1)) dX1_makeTurn_52 f_X1_73 ha2 rfl (pav_on ha2).1 ?_
        refine r_iload dX1_makeTurn_55 2 rfl ?_
        obtain ⟨c10, h⟩ := of_ck h
        refine r_iald dX1_makeTurn_57 (pav_on (M := M) ha2).2 c10 ?_
        refine r_aload_n dX1_makeTurn_58 rfl 5 rfl ?_
        refine r_getR (j := 1) (v := (a2 + 1)) dX1_makeTurn_59 f_X1_73 ha2 rfl (pav_on ha2).1 ?_
        refine r_iload dX1_makeTurn_62 1 rfl ?_
        obtain ⟨c11, h⟩ := of_ck h
        refine r_iald dX1_makeTurn_64 (pav_on (M := M) ha2).2 c11 ?_
        obtain ⟨M21, h9, h⟩ := of_bd1 h
        have kJ : Ex G 3 cX1_makeTurn RX1 8 111 [] [] M21 := by
          cases h
          exact hQ _ _ dX1_makeTurn_111
        clear h
        have h := h9
        clear h9
        by_cases c12 : wr (gI M (a2 + 1) (wr r2)) = wr (gI M (a2 + 1) (wr r4))
        · rw [if_pos c12] at h
          refine r_icmp_ne (tgt := 93) dX1_makeTurn_65 (by decide) (fun q => absurd c12 q) (fun _ => ?_)
          refine r_aload_n dX1_makeTurn_68 rfl 5 rfl ?_
          refine r_aload_n dX1_makeTurn_69 rfl 4 rfl ?_
          refine r_iconst dX1_makeTurn_70 ?_
          refine r_iload dX1_makeTurn_71 2 rfl ?_
          refine r_imul dX1_makeTurn_73 ?_
          refine r_iconst dX1_makeTurn_74 ?_
          refine r_iadd dX1_makeTurn_75 ?_
          obtain ⟨M18, hc17, h⟩ := of_bd1 h
          refine r_callVV (st := []) dX1_makeTurn_76 v_X1_78 (run_X3_put ha2 hc17) (by decide) (by decide) ha2 rfl (Nat.le_of_ble_eq_true rfl) rfl ?_
          refine r_aload_n dX1_makeTurn_79 rfl 5 rfl ?_
          refine r_aload_n dX1_makeTurn_80 rfl 4 rfl ?_
          refine r_iconst dX1_makeTurn_81 ?_
          refine r_iload dX1_makeTurn_82 1 rfl ?_
          refine r_imul dX1_makeTurn_84 ?_
          refine r_iconst dX1_makeTurn_85 ?_
          refine r_iadd dX1_makeTurn_86 ?_
          obtain ⟨M20, hc19, h⟩ := of_bd1 h
          refine r_callVV (st := []) dX1_makeTurn_87 v_X1_78 (run_X3_put ha2 hc19) (by decide) (by decide) ha2 rfl (Nat.le_of_ble_eq_true rfl) rfl ?_
          refine r_goto (tgt := 111) dX1_makeTurn_90 (by decide) ?_
          refine r_sub (lv2 := []) [] rfl ?_
          cases h
          exact kJ
        · rw [if_neg c12] at h
          refine r_icmp_ne (tgt := 93) dX1_makeTurn_65 (by decide) (fun _ => ?_) (fun q => absurd q c12)
          refine r_aload_n dX1_makeTurn_93 rfl 5 rfl ?_
          refine r_aload_n dX1_makeTurn_94 rfl 4 rfl ?_
          refine r_iconst dX1_makeTurn_95 ?_
          refine r_iload dX1_makeTurn_96 2 rfl ?_
          refine r_imul dX1_makeTurn_98 ?_
          obtain ⟨M14, hc13, h⟩ := of_bd1 h
          refine r_callVV (st := []) dX1_makeTurn_99 v_X1_78 (run_X3_put ha2 hc13) (by decide) (by decide) ha2 rfl (Nat.le_of_ble_eq_true rfl) rfl ?_
          refine r_aload_n dX1_makeTurn_102 rfl 5 rfl ?_
          refine r_aload_n dX1_makeTurn_103 rfl 4 rfl ?_
          refine r_iconst dX1_makeTurn_104 ?_
          refine r_iload dX1_makeTurn_105 0 rfl ?_
          refine r_imul dX1_makeTurn_107 ?_
          obtain ⟨M16, hc15, h⟩ := of_bd1 h
          refine r_callVV (st := []) dX1_makeTurn_108 v_X1_78 (run_X3_put ha2 hc15) (by decide) (by decide) ha2 rfl (Nat.le_of_ble_eq_true rfl) rfl ?_
          refine r_sub (lv2 := []) [] rfl ?_
          cases h
          exact kJ
      · rw [if_neg c9] at h
        refine r_if_ge (tgt := 51) dX1_makeTurn_47 (by decide) (fun q => absurd q c9) (fun _ => ?_)
        cases h
        exact hQ _ _ dX1_makeTurn_50

def m_X11_bit (a0 : Int) : Int :=
  lt (if wr a0 = 0 then 0 else 1) fun (v2 : Int) =>
  v2
set_option maxRecDepth 10000 in
theorem run_X11_bit {M : Mem} {a0 : Int} {r : Int}   (h : m_X11_bit a0 = r) : RunI 0 yX11_bit cX11_bit 1 (some .int) [vI a0] M r M := by
  refine runI_of (lv := [(0, vI a0)]) (by decide +kernel) (Or.inl rfl) (Nat.le_of_ble_eq_true rfl) rfl ?_
  intro G hQ
  unfold m_X11_bit at h
  refine r_iload_n dX11_bit_0 rfl 0 rfl ?_
  obtain ⟨v2, ev2, h⟩ := of_lt h
  have kJ : Ex G 0 cX11_bit RX11 1 9 [] [vI v2] M := by
    cases h
    exact hQ _ _ dX11_bit_9
  clear h
  by_cases c1 : wr a0 = 0
  · skip
    refine r_if_eq (tgt := 8) dX11_bit_1 (by decide) (fun _ => ?_) (fun q => absurd c1 q)
    refine r_iconst dX11_bit_8 ?_
    rw [show v2 = 0 from by rw [ev2, if_pos c1]] at kJ
    refine r_sub (lv2 := []) [] rfl ?_
    exact kJ
  · skip
    refine r_if_eq (tgt := 8) dX11_bit_1 (by decide) (fun q => absurd q c1) (fun _ => ?_)
    refine r_iconst dX11_bit_4 ?_
    refine r_goto (tgt := 9) dX11_bit_5 (by decide) ?_
    rw [show v2 = 1 from by rw [ev2, if_neg c1]] at kJ
    refine r_sub (lv2 := []) [] rfl ?_
    exact kJ

def m_X1_turnsOfWay_L18 (M : Mem) (p2 : Nat) (p3 : Int) (p5 : Int) (x4 : Int) (x6 : Int) : Option ((Int × Int) ⊕ (Int × Int)) :=
  if wr (gI M 1 0) ≤ wr x6 then
    some (.inr (x4, x6))
  else
    bd1 (m_X1_wayOfTurn M p2 x6 p5) fun r4 =>
    lt (if wr r4 = wr p3 then 1 else 0) fun (v6 : Int) =>
    some (.inl ((x4 + (m_X11_bit v6)), (x6 + 1)))
def m_X1_turnsOfWay_L6 (M : Mem) (p2 : Nat) (p3 : Int) (x4 : Int) (x5 : Int) : Option ((Int × Int) ⊕ (Int × Int)) :=
  if wr (gI M 1 1) ≤ wr x5 then
    some (.inr (x4, x5))
  else
    bd2 (itr (fun s => m_X1_turnsOfWay_L18 M p2 p3 x5 s.1 s.2) FU (x4, 1)) fun y7 y8 =>
    some (.inl (y7, (x5 + 1)))
def m_X1_turnsOfWay (M : Mem) (a2 : Nat) (a3 : Int) : Option (Int) :=
  bd2 (itr (fun s => m_X1_turnsOfWay_L6 M a2 a3 s.1 s.2) FU (0, 1)) fun y9 y10 =>
  some y9
set_option maxRecDepth 10000 in
theorem lp_X1_turnsOfWay_L18 {G : Gx} (M : Mem) (p2 : Nat) (p3 : Int) (p5 : Int)  (hp2 : (ly p2).1 = 8) (X : (Int × Int) → Prop) (hX1 : ∀ (x4 : Int) (x6 : Int), X (x4, x6) → Ex G 2 cX1_turnsOfWay RX1 7 60 [(0, vR 28), (1, vR 1), (2, vR p2), (3, vI p3), (4, vI x4), (5, vI p5), (6, vI x6)] [] M) : ∀ (nn : Nat) (x4 : Int) (x6 : Int) (out : Int × Int), itr (fun s => m_X1_turnsOfWay_L18 M p2 p3 p5 s.1 s.2) nn (x4, x6) = some out → X out → Ex G 2 cX1_turnsOfWay RX1 7 18 [(0, vR 28), (1, vR 1), (2, vR p2), (3, vI p3), (4, vI x4), (5, vI p5), (6, vI x6)] [] M := by
  intro nn
  induction nn with
  | zero =>
    intro x4 x6 out h _
    cases h
  | succ nn ih =>
    intro x4 x6 out h0 hX
    obtain ⟨w, h, k1, k2⟩ := itr_inv h0
    have h : m_X1_turnsOfWay_L18 M p2 p3 p5 x4 x6 = some w := h
    unfold m_X1_turnsOfWay_L18 at h
    refine r_iload dX1_turnsOfWay_18 6 rfl ?_
    refine r_aload_n dX1_turnsOfWay_20 rfl 1 rfl ?_
    refine r_getI (j := 0) (jz := 0) dX1_turnsOfWay_21 f_X1_85 rfl rfl rfl ?_
    by_cases c2 : wr (gI M 1 0) ≤ wr x6
    · rw [if_pos c2] at h
      refine r_icmp_ge (tgt := 60) dX1_turnsOfWay_24 (by decide) (fun _ => ?_) (fun q => absurd c2 q)
      cases h
      cases k2 _ rfl
      exact hX1 _ _ hX
    · rw [if_neg c2] at h
      refine r_icmp_ge (tgt := 60) dX1_turnsOfWay_24 (by decide) (fun q => absurd q c2) (fun _ => ?_)
      refine r_iload dX1_turnsOfWay_27 4 rfl ?_
      refine r_aload_n dX1_turnsOfWay_29 rfl 0 rfl ?_
      refine r_aload_n dX1_turnsOfWay_30 rfl 1 rfl ?_
      refine r_aload_n dX1_turnsOfWay_31 rfl 2 rfl ?_
      refine r_iload dX1_turnsOfWay_32 6 rfl ?_
      refine r_iload dX1_turnsOfWay_34 5 rfl ?_
      obtain ⟨r4, hc3, h⟩ := of_bd1 h
      refine r_callVI (st := [vI x4]) dX1_turnsOfWay_36 v_X1_88 (run_X1_wayOfTurn hp2 hc3) (by decide) (by decide) rfl rfl (Nat.le_of_ble_eq_true rfl) rfl ?_
      refine r_iload_n dX1_turnsOfWay_39 rfl 3 rfl ?_
      obtain ⟨v6, ev6, h⟩ := of_lt h
      have kJ : Ex G 2 cX1_turnsOfWay RX1 7 48 [(0, vR 28), (1, vR 1), (2, vR p2), (3, vI p3), (5, vI p5), (6, vI x6)] [vI v6, vI x4] M := by
        refine r_callNI (st := [vI x4]) dX1_turnsOfWay_48 v_X1_91 (run_X11_bit rfl) (by decide) (by decide) rfl (Nat.le_of_ble_eq_true rfl) rfl ?_
        refine r_iadd dX1_turnsOfWay_51 ?_
        refine r_istore (lv2 := [(4, vI (x4 + (m_X11_bit v6))), (0, vR 28), (1, vR 1), (2, vR p2), (3, vI p3), (5, vI p5), (6, vI x6)]) dX1_turnsOfWay_52 (by decide) rfl ?_
        refine r_iinc (lv2 := [(6, vI (x6 + 1)), (4, vI (x4 + (m_X11_bit v6))), (0, vR 28), (1, vR 1), (2, vR p2), (3, vI p3), (5, vI p5)]) dX1_turnsOfWay_54 6 rfl (by decide) rfl ?_
        refine r_goto (tgt := 18) dX1_turnsOfWay_57 (by decide) ?_
        refine r_sub (lv2 := [(0, vR 28), (1, vR 1), (2, vR p2), (3, vI p3), (4, vI (x4 + (m_X11_bit v6))), (5, vI p5), (6, vI (x6 + 1))]) [2, 3, 4, 5, 1, 6, 0] rfl ?_
        cases h
        exact ih _ _  _ (k1 _ rfl) hX
      clear h
      by_cases c5 : wr r4 = wr p3
      · skip
        refine r_icmp_ne (tgt := 47) dX1_turnsOfWay_40 (by decide) (fun q => absurd c5 q) (fun _ => ?_)
        refine r_iconst dX1_turnsOfWay_43 ?_
        refine r_goto (tgt := 48) dX1_turnsOfWay_44 (by decide) ?_
        rw [show v6 = 1 from by rw [ev6, if_pos c5]] at kJ
        refine r_sub (lv2 := [(0, vR 28), (1, vR 1), (2, vR p2), (3, vI p3), (5, vI p5), (6, vI x6)]) [0, 1, 2, 3, 5, 6] rfl ?_
        exact kJ
      · skip
        refine r_icmp_ne (tgt := 47) dX1_turnsOfWay_40 (by decide) (fun _ => ?_) (fun q => absurd q c5)
        refine r_iconst dX1_turnsOfWay_47 ?_
        rw [show v6 = 0 from by rw [ev6, if_neg c5]] at kJ
        refine r_sub (lv2 := [(0, vR 28), (1, vR 1), (2, vR p2), (3, vI p3), (5, vI p5), (6, vI x6)]) [0, 1, 2, 3, 5, 6] rfl ?_
        exact kJ

set_option maxRecDepth 10000 in
theorem lp_X1_turnsOfWay_L6 {G : Gx} (M : Mem) (p2 : Nat) (p3 : Int)  (hp2 : (ly p2).1 = 8) (X : (Int × Int) → Prop) (hX1 : ∀ (x4 : Int) (x5 : Int), X (x4, x5) → Ex G 2 cX1_turnsOfWay RX1 7 66 [(0, vR 28), (1, vR 1), (2, vR p2), (3, vI p3), (4, vI x4), (5, vI x5)] [] M) : ∀ (nn : Nat) (x4 : Int) (x5 : Int) (out : Int × Int), itr (fun s => m_X1_turnsOfWay_L6 M p2 p3 s.1 s.2) nn (x4, x5) = some out → X out → Ex G 2 cX1_turnsOfWay RX1 7 6 [(0, vR 28), (1, vR 1), (2, vR p2), (3, vI p3), (4, vI x4), (5, vI x5)] [] M := by
  intro nn
  induction nn with
  | zero =>
    intro x4 x5 out h _
    cases h
  | succ nn ih =>
    intro x4 x5 out h0 hX
    obtain ⟨w, h, k1, k2⟩ := itr_inv h0
    have h : m_X1_turnsOfWay_L6 M p2 p3 x4 x5 = some w := h
    unfold m_X1_turnsOfWay_L6 at h
    refine r_iload dX1_turnsOfWay_6 5 rfl ?_
    refine r_aload_n dX1_turnsOfWay_8 rfl 1 rfl ?_
    refine r_getI (j := 1) (jz := 1) dX1_turnsOfWay_9 f_X1_82 rfl rfl rfl ?_
    by_cases c1 : wr (gI M 1 1) ≤ wr x5
    · rw [if_pos c1] at h
      refine r_icmp_ge (tgt := 66) dX1_turnsOfWay_12 (by decide) (fun _ => ?_) (fun q => absurd c1 q)
      cases h
      cases k2 _ rfl
      exact hX1 _ _ hX
    · rw [if_neg c1] at h
      refine r_icmp_ge (tgt := 66) dX1_turnsOfWay_12 (by decide) (fun q => absurd q c1) (fun _ => ?_)
      refine r_iconst dX1_turnsOfWay_15 ?_
      refine r_istore (lv2 := [(6, vI 1), (0, vR 28), (1, vR 1), (2, vR p2), (3, vI p3), (4, vI x4), (5, vI x5)]) dX1_turnsOfWay_16 (by decide) rfl ?_
      obtain ⟨y7, y8, h9, h⟩ := of_bd2 h
      refine r_sub (lv2 := [(0, vR 28), (1, vR 1), (2, vR p2), (3, vI p3), (4, vI x4), (5, vI x5), (6, vI 1)]) [1, 2, 3, 4, 5, 6, 0] rfl ?_
      refine lp_X1_turnsOfWay_L18 M p2 p3 x5 hp2 (fun w => w = (y7, y8)) ?_ FU x4 1 _ h9 rfl
      intro z0 z1 hw
      cases hw
      refine r_iinc (lv2 := [(5, vI (x5 + 1)), (0, vR 28), (1, vR 1), (2, vR p2), (3, vI p3), (4, vI y7), (6, vI y8)]) dX1_turnsOfWay_60 5 rfl (by decide) rfl ?_
      refine r_goto (tgt := 6) dX1_turnsOfWay_63 (by decide) ?_
      refine r_sub (lv2 := [(0, vR 28), (1, vR 1), (2, vR p2), (3, vI p3), (4, vI y7), (5, vI (x5 + 1))]) [1, 2, 3, 4, 5, 0] rfl ?_
      cases h
      exact ih _ _  _ (k1 _ rfl) hX

set_option maxRecDepth 10000 in
theorem run_X1_turnsOfWay {M : Mem} {a2 : Nat} {a3 : Int} {r : Int}  (ha2 : (ly a2).1 = 8) (h : m_X1_turnsOfWay M a2 a3 = some r) : RunI 2 yX1_turnsOfWay cX1_turnsOfWay 7 (some .int) [vR 28, vR 1, vR a2, vI a3] M r M := by
  refine runI_of (lv := [(0, vR 28), (1, vR 1), (2, vR a2), (3, vI a3)]) (by decide +kernel) (Or.inl rfl) (Nat.le_of_ble_eq_true rfl) rfl ?_
  intro G hQ
  unfold m_X1_turnsOfWay at h
  refine r_iconst dX1_turnsOfWay_0 ?_
  refine r_istore (lv2 := [(4, vI 0), (0, vR 28), (1, vR 1), (2, vR a2), (3, vI a3)]) dX1_turnsOfWay_1 (by decide) rfl ?_
  refine r_iconst dX1_turnsOfWay_3 ?_
  refine r_istore (lv2 := [(5, vI 1), (4, vI 0), (0, vR 28), (1, vR 1), (2, vR a2), (3, vI a3)]) dX1_turnsOfWay_4 (by decide) rfl ?_
  obtain ⟨y9, y10, h9, h⟩ := of_bd2 h
  refine r_sub (lv2 := [(0, vR 28), (1, vR 1), (2, vR a2), (3, vI a3), (4, vI 0), (5, vI 1)]) [2, 3, 4, 5, 1, 0] rfl ?_
  refine lp_X1_turnsOfWay_L6 M a2 a3 ha2 (fun w => w = (y9, y10)) ?_ FU 0 1 _ h9 rfl
  intro z0 z1 hw
  cases hw
  refine r_iload dX1_turnsOfWay_66 4 rfl ?_
  cases h
  exact hQ _ _ dX1_turnsOfWay_68

def m_X1_turnAll_L33 (M : Mem) (p2 : Nat) (p3 : Int) (p5 : Int) (p6 : Int) (p7 : Int) (x4 : Int) (x8 : Int) : Option ((Int × Int × Mem) ⊕ (Int × Int × Mem)) :=
  if wr (gI M 1 0) ≤ wr x8 then
    some (.inr (x4, x8, M))
  else
    bd1 (m_X1_wayOfTurn M p2 x8 p7) fun r5 =>
    bd2 (
      if wr r5 = wr p3 then
        bd1 (m_X1_makeTurn M p2 x8 p7) fun M8 =>
        some ((x4 + 1), M8)
      else
        some (x4, M)) fun (v9 : Int) (M10 : Mem) =>
    some (.inl (v9, (x8 + 1), M10))
def m_X1_turnAll_L21 (M : Mem) (p2 : Nat) (p3 : Int) (p5 : Int) (p6 : Int) (x4 : Int) (x7 : Int) : Option ((Int × Int × Mem) ⊕ (Int × Int × Mem)) :=
  if wr (gI M 1 1) ≤ wr x7 then
    some (.inr (x4, x7, M))
  else
    bd3 (itr (fun s => m_X1_turnAll_L33 s.2.2 p2 p3 p5 p6 x7 s.1 s.2.1) FU (x4, 1, M)) fun y11 y12 M13 =>
    some (.inl (y11, (x7 + 1), M13))
def m_X1_turnAll_L6 (M : Mem) (p2 : Nat) (p3 : Int) (x4 : Int) (x5 : Int) : Option ((Int × Int × Mem) ⊕ (Int × Int × Mem)) :=
  if wr 10000 ≤ wr x5 then
    some (.inr (x4, x5, M))
  else
    bd3 (itr (fun s => m_X1_turnAll_L21 s.2.2 p2 p3 x5 x4 s.1 s.2.1) FU (x4, 1, M)) fun y14 y15 M16 =>
    if wr y14 = wr x4 then
      some (.inr (y14, x5, M16))
    else
      some (.inl (y14, (x5 + 1), M16))
def m_X1_turnAll (M : Mem) (a2 : Nat) (a3 : Int) : Option (Int × Mem) :=
  bd3 (itr (fun s => m_X1_turnAll_L6 s.2.2 a2 a3 s.1 s.2.1) FU (0, 0, M)) fun y18 y19 M20 =>
  some (y18, M20)
set_option maxRecDepth 10000 in
theorem lp_X1_turnAll_L33 {G : Gx} (p2 : Nat) (p3 : Int) (p5 : Int) (p6 : Int) (p7 : Int)  (hp2 : (ly p2).1 = 8) (X : (Int × Int × Mem) → Prop) (hX1 : ∀ (x4 : Int) (x8 : Int) (M : Mem), X (x4, x8, M) → Ex G 4 cX1_turnAll RX1 9 78 [(0, vR 28), (1, vR 1), (2, vR p2), (3, vI p3), (4, vI x4), (5, vI p5), (6, vI p6), (7, vI p7), (8, vI x8)] [] M) : ∀ (nn : Nat) (x4 : Int) (x8 : Int) (M : Mem) (out : Int × Int × Mem), itr (fun s => m_X1_turnAll_L33 s.2.2 p2 p3 p5 p6 p7 s.1 s.2.1) nn (x4, x8, M) = some out → X out → Ex G 4 cX1_turnAll RX1 9 33 [(0, vR 28), (1, vR 1), (2, vR p2), (3, vI p3), (4, vI x4), (5, vI p5), (6, vI p6), (7, vI p7), (8, vI x8)] [] M := by
  intro nn
  induction nn with
  | zero =>
    intro x4 x8 M out h _
    cases h
  | succ nn ih =>
    intro x4 x8 M out h0 hX
    obtain ⟨w, h, k1, k2⟩ := itr_inv h0
    have h : m_X1_turnAll_L33 M p2 p3 p5 p6 p7 x4 x8 = some w := h
    unfold m_X1_turnAll_L33 at h
    refine r_iload dX1_turnAll_33 8 rfl ?_
    refine r_aload_n dX1_turnAll_35 rfl 1 rfl ?_
    refine r_getI (j := 0) (jz := 0) dX1_turnAll_36 f_X1_85 rfl rfl rfl ?_
    by_cases c3 : wr (gI M 1 0) ≤ wr x8
    · rw [if_pos c3] at h
      refine r_icmp_ge (tgt := 78) dX1_turnAll_39 (by decide) (fun _ => ?_) (fun q => absurd c3 q)
      cases h
      cases k2 _ rfl
      exact hX1 _ _ _ hX
    · rw [if_neg c3] at h
      refine r_icmp_ge (tgt := 78) dX1_turnAll_39 (by decide) (fun q => absurd q c3) (fun _ => ?_)
      refine r_aload_n dX1_turnAll_42 rfl 0 rfl ?_
      refine r_aload_n dX1_turnAll_43 rfl 1 rfl ?_
      refine r_aload_n dX1_turnAll_44 rfl 2 rfl ?_
      refine r_iload dX1_turnAll_45 8 rfl ?_
      refine r_iload dX1_turnAll_47 7 rfl ?_
      obtain ⟨r5, hc4, h⟩ := of_bd1 h
      refine r_callVI (st := []) dX1_turnAll_49 v_X1_88 (run_X1_wayOfTurn hp2 hc4) (by decide) (by decide) rfl rfl (Nat.le_of_ble_eq_true rfl) rfl ?_
      refine r_iload_n dX1_turnAll_52 rfl 3 rfl ?_
      obtain ⟨v9, M10, h9, h⟩ := of_bd2 h
      have kJ : Ex G 4 cX1_turnAll RX1 9 72 [(0, vR 28), (1, vR 1), (2, vR p2), (3, vI p3), (4, vI v9), (5, vI p5), (6, vI p6), (7, vI p7), (8, vI x8)] [] M10 := by
        refine r_iinc (lv2 := [(8, vI (x8 + 1)), (0, vR 28), (1, vR 1), (2, vR p2), (3, vI p3), (4, vI v9), (5, vI p5), (6, vI p6), (7, vI p7)]) dX1_turnAll_72 8 rfl (by decide) rfl ?_
        refine r_goto (tgt := 33) dX1_turnAll_75 (by decide) ?_
        refine r_sub (lv2 := [(0, vR 28), (1, vR 1), (2, vR p2), (3, vI p3), (4, vI v9), (5, vI p5), (6, vI p6), (7, vI p7), (8, vI (x8 + 1))]) [1, 2, 3, 4, 5, 6, 7, 8, 0] rfl ?_
        cases h
        exact ih _ _ _  _ (k1 _ rfl) hX
      clear h
      have h := h9
      clear h9
      by_cases c6 : wr r5 = wr p3
      · rw [if_pos c6] at h
        refine r_icmp_eq (tgt := 59) dX1_turnAll_53 (by decide) (fun _ => ?_) (fun q => absurd c6 q)
        refine r_aload_n dX1_turnAll_59 rfl 0 rfl ?_
        refine r_aload_n dX1_turnAll_60 rfl 1 rfl ?_
        refine r_aload_n dX1_turnAll_61 rfl 2 rfl ?_
        refine r_iload dX1_turnAll_62 8 rfl ?_
        refine r_iload dX1_turnAll_64 7 rfl ?_
        obtain ⟨M8, hc7, h⟩ := of_bd1 h
        refine r_callVV (st := []) dX1_turnAll_66 v_X1_95 (run_X1_makeTurn hp2 hc7) (by decide) (by decide) rfl rfl (Nat.le_of_ble_eq_true rfl) rfl ?_
        refine r_iinc (lv2 := [(4, vI (x4 + 1)), (0, vR 28), (1, vR 1), (2, vR p2), (3, vI p3), (5, vI p5), (6, vI p6), (7, vI p7), (8, vI x8)]) dX1_turnAll_69 4 rfl (by decide) rfl ?_
        refine r_sub (lv2 := [(0, vR 28), (1, vR 1), (2, vR p2), (3, vI p3), (4, vI (x4 + 1)), (5, vI p5), (6, vI p6), (7, vI p7), (8, vI x8)]) [1, 2, 3, 4, 0, 5, 6, 7, 8] rfl ?_
        cases h
        exact kJ
      · rw [if_neg c6] at h
        refine r_icmp_eq (tgt := 59) dX1_turnAll_53 (by decide) (fun q => absurd q c6) (fun _ => ?_)
        refine r_goto (tgt := 72) dX1_turnAll_56 (by decide) ?_
        cases h
        exact kJ

set_option maxRecDepth 10000 in
theorem lp_X1_turnAll_L21 {G : Gx} (p2 : Nat) (p3 : Int) (p5 : Int) (p6 : Int)  (hp2 : (ly p2).1 = 8) (X : (Int × Int × Mem) → Prop) (hX1 : ∀ (x4 : Int) (x7 : Int) (M : Mem), X (x4, x7, M) → Ex G 4 cX1_turnAll RX1 9 84 [(0, vR 28), (1, vR 1), (2, vR p2), (3, vI p3), (4, vI x4), (5, vI p5), (6, vI p6), (7, vI x7)] [] M) : ∀ (nn : Nat) (x4 : Int) (x7 : Int) (M : Mem) (out : Int × Int × Mem), itr (fun s => m_X1_turnAll_L21 s.2.2 p2 p3 p5 p6 s.1 s.2.1) nn (x4, x7, M) = some out → X out → Ex G 4 cX1_turnAll RX1 9 21 [(0, vR 28), (1, vR 1), (2, vR p2), (3, vI p3), (4, vI x4), (5, vI p5), (6, vI p6), (7, vI x7)] [] M := by
  intro nn
  induction nn with
  | zero =>
    intro x4 x7 M out h _
    cases h
  | succ nn ih =>
    intro x4 x7 M out h0 hX
    obtain ⟨w, h, k1, k2⟩ := itr_inv h0
    have h : m_X1_turnAll_L21 M p2 p3 p5 p6 x4 x7 = some w := h
    unfold m_X1_turnAll_L21 at h
    refine r_iload dX1_turnAll_21 7 rfl ?_
    refine r_aload_n dX1_turnAll_23 rfl 1 rfl ?_
    refine r_getI (j := 1) (jz := 1) dX1_turnAll_24 f_X1_82 rfl rfl rfl ?_
    by_cases c2 : wr (gI M 1 1) ≤ wr x7
    · rw [if_pos c2] at h
      refine r_icmp_ge (tgt := 84) dX1_turnAll_27 (by decide) (fun _ => ?_) (fun q => absurd c2 q)
      cases h
      cases k2 _ rfl
      exact hX1 _ _ _ hX
    · rw [if_neg c2] at h
      refine r_icmp_ge (tgt := 84) dX1_turnAll_27 (by decide) (fun q => absurd q c2) (fun _ => ?_)
      refine r_iconst dX1_turnAll_30 ?_
      refine r_istore (lv2 := [(8, vI 1), (0, vR 28), (1, vR 1), (2, vR p2), (3, vI p3), (4, vI x4), (5, vI p5), (6, vI p6), (7, vI x7)]) dX1_turnAll_31 (by decide) rfl ?_
      obtain ⟨y11, y12, M13, h9, h⟩ := of_bd3 h
      refine r_sub (lv2 := [(0, vR 28), (1, vR 1), (2, vR p2), (3, vI p3), (4, vI x4), (5, vI p5), (6, vI p6), (7, vI x7), (8, vI 1)]) [1, 2, 3, 4, 5, 6, 7, 8, 0] rfl ?_
      refine lp_X1_turnAll_L33 p2 p3 p5 p6 x7 hp2 (fun w => w = (y11, y12, M13)) ?_ FU x4 1 M _ h9 rfl
      intro z0 z1 z2 hw
      cases hw
      refine r_iinc (lv2 := [(7, vI (x7 + 1)), (0, vR 28), (1, vR 1), (2, vR p2), (3, vI p3), (4, vI y11), (5, vI p5), (6, vI p6), (8, vI y12)]) dX1_turnAll_78 7 rfl (by decide) rfl ?_
      refine r_goto (tgt := 21) dX1_turnAll_81 (by decide) ?_
      refine r_sub (lv2 := [(0, vR 28), (1, vR 1), (2, vR p2), (3, vI p3), (4, vI y11), (5, vI p5), (6, vI p6), (7, vI (x7 + 1))]) [1, 2, 3, 4, 5, 6, 7, 0] rfl ?_
      cases h
      exact ih _ _ _  _ (k1 _ rfl) hX

set_option maxRecDepth 10000 in
theorem lp_X1_turnAll_L6 {G : Gx} (p2 : Nat) (p3 : Int)  (hp2 : (ly p2).1 = 8) (X : (Int × Int × Mem) → Prop) (hX1 : ∀ (x4 : Int) (x5 : Int) (M : Mem), X (x4, x5, M) → Ex G 4 cX1_turnAll RX1 9 100 [(0, vR 28), (1, vR 1), (2, vR p2), (3, vI p3), (4, vI x4), (5, vI x5)] [] M) : ∀ (nn : Nat) (x4 : Int) (x5 : Int) (M : Mem) (out : Int × Int × Mem), itr (fun s => m_X1_turnAll_L6 s.2.2 p2 p3 s.1 s.2.1) nn (x4, x5, M) = some out → X out → Ex G 4 cX1_turnAll RX1 9 6 [(0, vR 28), (1, vR 1), (2, vR p2), (3, vI p3), (4, vI x4), (5, vI x5)] [] M := by
  intro nn
  induction nn with
  | zero =>
    intro x4 x5 M out h _
    cases h
  | succ nn ih =>
    intro x4 x5 M out h0 hX
    obtain ⟨w, h, k1, k2⟩ := itr_inv h0
    have h : m_X1_turnAll_L6 M p2 p3 x4 x5 = some w := h
    unfold m_X1_turnAll_L6 at h
    refine r_iload dX1_turnAll_6 5 rfl ?_
    refine r_sipush dX1_turnAll_8 (by decide) ?_
    by_cases c1 : wr 10000 ≤ wr x5
    · rw [if_pos c1] at h
      refine r_icmp_ge (tgt := 100) dX1_turnAll_11 (by decide) (fun _ => ?_) (fun q => absurd c1 q)
      cases h
      cases k2 _ rfl
      exact hX1 _ _ _ hX
    · rw [if_neg c1] at h
      refine r_icmp_ge (tgt := 100) dX1_turnAll_11 (by decide) (fun q => absurd q c1) (fun _ => ?_)
      refine r_iload dX1_turnAll_14 4 rfl ?_
      refine r_istore (lv2 := [(6, vI x4), (0, vR 28), (1, vR 1), (2, vR p2), (3, vI p3), (4, vI x4), (5, vI x5)]) dX1_turnAll_16 (by decide) rfl ?_
      refine r_iconst dX1_turnAll_18 ?_
      refine r_istore (lv2 := [(7, vI 1), (6, vI x4), (0, vR 28), (1, vR 1), (2, vR p2), (3, vI p3), (4, vI x4), (5, vI x5)]) dX1_turnAll_19 (by decide) rfl ?_
      obtain ⟨y14, y15, M16, h9, h⟩ := of_bd3 h
      refine r_sub (lv2 := [(0, vR 28), (1, vR 1), (2, vR p2), (3, vI p3), (4, vI x4), (5, vI x5), (6, vI x4), (7, vI 1)]) [2, 3, 4, 5, 6, 7, 1, 0] rfl ?_
      refine lp_X1_turnAll_L21 p2 p3 x5 x4 hp2 (fun w => w = (y14, y15, M16)) ?_ FU x4 1 M _ h9 rfl
      intro z0 z1 z2 hw
      cases hw
      refine r_iload dX1_turnAll_84 4 rfl ?_
      refine r_iload dX1_turnAll_86 6 rfl ?_
      by_cases c17 : wr y14 = wr x4
      · rw [if_pos c17] at h
        refine r_icmp_ne (tgt := 94) dX1_turnAll_88 (by decide) (fun q => absurd c17 q) (fun _ => ?_)
        refine r_goto (tgt := 100) dX1_turnAll_91 (by decide) ?_
        refine r_sub (lv2 := [(0, vR 28), (1, vR 1), (2, vR p2), (3, vI p3), (4, vI y14), (5, vI x5)]) [0, 1, 2, 3, 4, 5] rfl ?_
        cases h
        cases k2 _ rfl
        exact hX1 _ _ _ hX
      · rw [if_neg c17] at h
        refine r_icmp_ne (tgt := 94) dX1_turnAll_88 (by decide) (fun _ => ?_) (fun q => absurd q c17)
        refine r_iinc (lv2 := [(5, vI (x5 + 1)), (0, vR 28), (1, vR 1), (2, vR p2), (3, vI p3), (4, vI y14), (6, vI x4), (7, vI y15)]) dX1_turnAll_94 5 rfl (by decide) rfl ?_
        refine r_goto (tgt := 6) dX1_turnAll_97 (by decide) ?_
        refine r_sub (lv2 := [(0, vR 28), (1, vR 1), (2, vR p2), (3, vI p3), (4, vI y14), (5, vI (x5 + 1))]) [1, 2, 3, 4, 5, 0] rfl ?_
        cases h
        exact ih _ _ _  _ (k1 _ rfl) hX

set_option maxRecDepth 10000 in
theorem run_X1_turnAll {M : Mem} {M2 : Mem} {a2 : Nat} {a3 : Int} {r : Int}  (ha2 : (ly a2).1 = 8) (h : m_X1_turnAll M a2 a3 = some (r, M2)) : RunI 4 yX1_turnAll cX1_turnAll 9 (some .int) [vR 28, vR 1, vR a2, vI a3] M r M2 := by
  refine runI_of (lv := [(0, vR 28), (1, vR 1), (2, vR a2), (3, vI a3)]) (by decide +kernel) (Or.inl rfl) (Nat.le_of_ble_eq_true rfl) rfl ?_
  intro G hQ
  unfold m_X1_turnAll at h
  refine r_iconst dX1_turnAll_0 ?_
  refine r_istore (lv2 := [(4, vI 0), (0, vR 28), (1, vR 1), (2, vR a2), (3, vI a3)]) dX1_turnAll_1 (by decide) rfl ?_
  refine r_iconst dX1_turnAll_3 ?_
  refine r_istore (lv2 := [(5, vI 0), (4, vI 0), (0, vR 28), (1, vR 1), (2, vR a2), (3, vI a3)]) dX1_turnAll_4 (by decide) rfl ?_
  obtain ⟨y18, y19, M20, h9, h⟩ := of_bd3 h
  refine r_sub (lv2 := [(0, vR 28), (1, vR 1), (2, vR a2), (3, vI a3), (4, vI 0), (5, vI 0)]) [2, 3, 4, 5, 1, 0] rfl ?_
  refine lp_X1_turnAll_L6 a2 a3 ha2 (fun w => w = (y18, y19, M20)) ?_ FU 0 0 M _ h9 rfl
  intro z0 z1 z2 hw
  cases hw
  refine r_iload dX1_turnAll_100 4 rfl ?_
  cases h
  exact hQ _ _ dX1_turnAll_102

def m_X1_distance_L26 (M : Mem)  (x4 : Int) (x5 : Int) : Option ((Int × Int) ⊕ (Int × Int)) :=
  if wr 81 ≤ wr x5 then
    some (.inr (x4, x5))
  else
    if 0 ≤ wr x5 ∧ wr x5 < 81 then
    some (.inl ((x4 + (iab ((gI M 29 (wr x5)) - (gI M 30 (wr x5))))), (x5 + 1)))
    else none
def m_X1_distance (M : Mem) (a2 : Nat) (a3 : Nat) : Option (Int × Mem) :=
  bd1 (m_X1_measure M a2 29) fun M2 =>
  bd1 (m_X1_measure M2 a3 30) fun M4 =>
  bd2 (itr (fun s => m_X1_distance_L26 M4  s.1 s.2) FU (0, 0)) fun y7 y8 =>
  some ((idv y7 4), M4)
set_option maxRecDepth 10000 in
theorem lp_X1_distance_L26 {G : Gx} (M : Mem)    (X : (Int × Int) → Prop) (hX1 : ∀ (x4 : Int) (x5 : Int), X (x4, x5) → Ex G 4 cX1_distance RX1 6 62 [(0, vR 28), (4, vI x4), (5, vI x5)] [] M) : ∀ (nn : Nat) (x4 : Int) (x5 : Int) (out : Int × Int), itr (fun s => m_X1_distance_L26 M  s.1 s.2) nn (x4, x5) = some out → X out → Ex G 4 cX1_distance RX1 6 26 [(0, vR 28), (4, vI x4), (5, vI x5)] [] M := by
  intro nn
  induction nn with
  | zero =>
    intro x4 x5 out h _
    cases h
  | succ nn ih =>
    intro x4 x5 out h0 hX
    obtain ⟨w, h, k1, k2⟩ := itr_inv h0
    have h : m_X1_distance_L26 M  x4 x5 = some w := h
    unfold m_X1_distance_L26 at h
    refine r_iload dX1_distance_26 2 rfl ?_
    refine r_bipush dX1_distance_28 (by decide) ?_
    by_cases c5 : wr 81 ≤ wr x5
    · rw [if_pos c5] at h
      refine r_icmp_ge (tgt := 62) dX1_distance_30 (by decide) (fun _ => ?_) (fun q => absurd c5 q)
      cases h
      cases k2 _ rfl
      exact hX1 _ _ hX
    · rw [if_neg c5] at h
      refine r_icmp_ge (tgt := 62) dX1_distance_30 (by decide) (fun q => absurd q c5) (fun _ => ?_)
      refine r_iload dX1_distance_33 1 rfl ?_
      refine r_aload_n dX1_distance_35 rfl 0 rfl ?_
      refine r_getR (j := 0) (v := 29) dX1_distance_36 f_X1_9 rfl rfl rfl ?_
      refine r_iload dX1_distance_39 2 rfl ?_
      obtain ⟨c6, h⟩ := of_ck h
      refine r_iald dX1_distance_41 rfl c6 ?_
      refine r_aload_n dX1_distance_42 rfl 0 rfl ?_
      refine r_getR (j := 1) (v := 30) dX1_distance_43 f_X1_15 rfl rfl rfl ?_
      refine r_iload dX1_distance_46 2 rfl ?_
      refine r_iald dX1_distance_48 rfl c6 ?_
      refine r_isub dX1_distance_49 ?_
      refine r_mabs dX1_distance_50 ma_X1_103 (by decide) (Nat.le_of_ble_eq_true rfl) ?_
      refine r_iadd dX1_distance_53 ?_
      refine r_istore (lv2 := [(4, vI (x4 + (iab ((gI M 29 (wr x5)) - (gI M 30 (wr x5)))))), (0, vR 28), (5, vI x5)]) dX1_distance_54 (by decide) rfl ?_
      refine r_iinc (lv2 := [(5, vI (x5 + 1)), (4, vI (x4 + (iab ((gI M 29 (wr x5)) - (gI M 30 (wr x5)))))), (0, vR 28)]) dX1_distance_56 2 rfl (by decide) rfl ?_
      refine r_goto (tgt := 26) dX1_distance_59 (by decide) ?_
      refine r_sub (lv2 := [(0, vR 28), (4, vI (x4 + (iab ((gI M 29 (wr x5)) - (gI M 30 (wr x5)))))), (5, vI (x5 + 1))]) [2, 1, 0] rfl ?_
      cases h
      exact ih _ _  _ (k1 _ rfl) hX

set_option maxRecDepth 10000 in
theorem run_X1_distance {M : Mem} {M2 : Mem} {a2 : Nat} {a3 : Nat} {r : Int}  (ha2 : (ly a2).1 = 8) (ha3 : (ly a3).1 = 8) (h : m_X1_distance M a2 a3 = some (r, M2)) : RunI 4 yX1_distance cX1_distance 6 (some .int) [vR 28, vR 1, vR a2, vR a3] M r M2 := by
  refine runI_of (lv := [(0, vR 28), (1, vR 1), (2, vR a2), (3, vR a3)]) (by decide +kernel) (Or.inl rfl) (Nat.le_of_ble_eq_true rfl) rfl ?_
  intro G hQ
  unfold m_X1_distance at h
  refine r_aload_n dX1_distance_0 rfl 0 rfl ?_
  refine r_aload_n dX1_distance_1 rfl 1 rfl ?_
  refine r_aload_n dX1_distance_2 rfl 2 rfl ?_
  refine r_aload_n dX1_distance_3 rfl 0 rfl ?_
  refine r_getR (j := 0) (v := 29) dX1_distance_4 f_X1_9 rfl rfl rfl ?_
  obtain ⟨M2, hc1, h⟩ := of_bd1 h
  refine r_callVV (st := []) dX1_distance_7 v_X1_99 (run_X1_measure ha2 (congrArg Prod.fst rfl) hc1) (by decide) (by decide) rfl rfl (Nat.le_of_ble_eq_true rfl) rfl ?_
  refine r_aload_n dX1_distance_10 rfl 0 rfl ?_
  refine r_aload_n dX1_distance_11 rfl 1 rfl ?_
  refine r_aload_n dX1_distance_12 rfl 3 rfl ?_
  refine r_aload_n dX1_distance_13 rfl 0 rfl ?_
  refine r_getR (j := 1) (v := 30) dX1_distance_14 f_X1_15 rfl rfl rfl ?_
  obtain ⟨M4, hc3, h⟩ := of_bd1 h
  refine r_callVV (st := []) dX1_distance_17 v_X1_99 (run_X1_measure ha3 (congrArg Prod.fst rfl) hc3) (by decide) (by decide) rfl rfl (Nat.le_of_ble_eq_true rfl) rfl ?_
  refine r_iconst dX1_distance_20 ?_
  refine r_istore (lv2 := [(4, vI 0), (0, vR 28), (1, vR 1), (2, vR a2), (3, vR a3)]) dX1_distance_21 (by decide) rfl ?_
  refine r_iconst dX1_distance_23 ?_
  refine r_istore (lv2 := [(5, vI 0), (4, vI 0), (0, vR 28), (1, vR 1), (2, vR a2), (3, vR a3)]) dX1_distance_24 (by decide) rfl ?_
  obtain ⟨y7, y8, h9, h⟩ := of_bd2 h
  refine r_sub (lv2 := [(0, vR 28), (4, vI 0), (5, vI 0)]) [2, 1, 0] rfl ?_
  refine lp_X1_distance_L26 M4   (fun w => w = (y7, y8)) ?_ FU 0 0 _ h9 rfl
  intro z0 z1 hw
  cases hw
  refine r_iload dX1_distance_62 1 rfl ?_
  refine r_iconst dX1_distance_64 ?_
  refine r_idiv dX1_distance_65 (by decide) ?_
  cases h
  exact hQ _ _ dX1_distance_66

def m_X1_turnToward_L35 (M : Mem) (p2 : Nat) (p4 : Int) (x5 : Int) : Option ((Int × Mem) ⊕ ((Int × Mem) ⊕ (Int × Mem))) :=
  if wr (gI M 1 0) ≤ wr x5 then
    some (.inr (.inl (x5, M)))
  else
    bd1 (m_X1_wayOfTurn M p2 x5 p4) fun r8 =>
    if 0 ≤ wr ((p4 * 9) + x5) ∧ wr ((p4 * 9) + x5) < 81 then
    if wr r8 = wr 1 then
      if 0 < wr ((gI M 30 (wr ((p4 * 9) + x5))) - (gI M 29 (wr ((p4 * 9) + x5)))) then
        bd1 (m_X1_makeTurn M p2 x5 p4) fun M17 =>
        some (.inr (.inr (((16 * p4) + x5), M17)))
      else
        if wr r8 = 0 then
          if 0 ≤ wr ((gI M 30 (wr ((p4 * 9) + x5))) - (gI M 29 (wr ((p4 * 9) + x5)))) then
            some (.inl ((x5 + 1), M))
          else
            bd1 (m_X1_makeTurn M p2 x5 p4) fun M21 =>
            some (.inr (.inr (((16 * p4) + x5), M21)))
        else
          some (.inl ((x5 + 1), M))
    else
      if wr r8 = 0 then
        if 0 ≤ wr ((gI M 30 (wr ((p4 * 9) + x5))) - (gI M 29 (wr ((p4 * 9) + x5)))) then
          some (.inl ((x5 + 1), M))
        else
          bd1 (m_X1_makeTurn M p2 x5 p4) fun M14 =>
          some (.inr (.inr (((16 * p4) + x5), M14)))
      else
        some (.inl ((x5 + 1), M))
    else none
def m_X1_turnToward_L23 (M : Mem) (p2 : Nat) (x4 : Int) : Option ((Int × Mem) ⊕ ((Int × Mem) ⊕ (Int × Mem))) :=
  if wr (gI M 1 1) ≤ wr x4 then
    some (.inr (.inl (x4, M)))
  else
    be2l (itr (fun s => m_X1_turnToward_L35 s.2 p2 x4 s.1) FU (1, M)) (fun y22 M23 =>
    some (.inl ((x4 + 1), M23)))
def m_X1_turnToward (M : Mem) (a2 : Nat) (a3 : Nat) : Option (Int × Mem) :=
  bd1 (m_X1_measure M a2 29) fun M2 =>
  bd1 (m_X1_measure M2 a3 30) fun M4 =>
  be2 (itr (fun s => m_X1_turnToward_L23 s.2 a2 s.1) FU (1, M4)) (fun y24 M25 =>
  some ((-1), M25))
set_option maxRecDepth 10000 in
theorem lp_X1_turnToward_L35 {G : Gx} (p2 : Nat) (p4 : Int)  (hp2 : (ly p2).1 = 8) (X : ((Int × Mem) ⊕ (Int × Mem)) → Prop) (hX1 : ∀ (x5 : Int) (M : Mem), X (.inl (x5, M)) → Ex G 4 cX1_turnToward RX1 8 131 [(0, vR 28), (1, vR 1), (2, vR p2), (4, vI p4), (5, vI x5)] [] M) (hX2 : ∀ (r : Int) (M2 : Mem), X (.inr (r, M2)) → RetI G 4 cX1_turnToward RX1 8 r M2) : ∀ (nn : Nat) (x5 : Int) (M : Mem) (out : (Int × Mem) ⊕ (Int × Mem)), itr (fun s => m_X1_turnToward_L35 s.2 p2 p4 s.1) nn (x5, M) = some out → X out → Ex G 4 cX1_turnToward RX1 8 35 [(0, vR 28), (1, vR 1), (2, vR p2), (4, vI p4), (5, vI x5)] [] M := by
  intro nn
  induction nn with
  | zero =>
    intro x5 M out h _
    cases h
  | succ nn ih =>
    intro x5 M out h0 hX
    obtain ⟨w, h, k1, k2⟩ := itr_inv h0
    have h : m_X1_turnToward_L35 M p2 p4 x5 = some w := h
    unfold m_X1_turnToward_L35 at h
    refine r_iload dX1_turnToward_35 4 rfl ?_
    refine r_aload_n dX1_turnToward_37 rfl 1 rfl ?_
    refine r_getI (j := 0) (jz := 0) dX1_turnToward_38 f_X1_85 rfl rfl rfl ?_
    by_cases c6 : wr (gI M 1 0) ≤ wr x5
    · rw [if_pos c6] at h
      refine r_icmp_ge (tgt := 131) dX1_turnToward_41 (by decide) (fun _ => ?_) (fun q => absurd c6 q)
      cases h
      cases k2 _ rfl
      exact hX1 _ _ hX
    · rw [if_neg c6] at h
      refine r_icmp_ge (tgt := 131) dX1_turnToward_41 (by decide) (fun q => absurd q c6) (fun _ => ?_)
      refine r_aload_n dX1_turnToward_44 rfl 0 rfl ?_
      refine r_aload_n dX1_turnToward_45 rfl 1 rfl ?_
      refine r_aload_n dX1_turnToward_46 rfl 2 rfl ?_
      refine r_iload dX1_turnToward_47 4 rfl ?_
      refine r_iload dX1_turnToward_49 3 rfl ?_
      obtain ⟨r8, hc7, h⟩ := of_bd1 h
      refine r_callVI (st := []) dX1_turnToward_51 v_X1_88 (run_X1_wayOfTurn hp2 hc7) (by decide) (by decide) rfl rfl (Nat.le_of_ble_eq_true rfl) rfl ?_
      refine r_istore (lv2 := [(6, vI r8), (0, vR 28), (1, vR 1), (2, vR p2), (4, vI p4), (5, vI x5)]) dX1_turnToward_54 (by decide) rfl ?_
      refine r_aload_n dX1_turnToward_56 rfl 1 rfl ?_
      refine r_getR (j := 1) (v := 30) dX1_turnToward_57 f_X1_15 rfl rfl rfl ?_
      refine r_iload dX1_turnToward_60 4 rfl ?_
      refine r_bipush dX1_turnToward_62 (by decide) ?_
      refine r_imul dX1_turnToward_64 ?_
      refine r_iload dX1_turnToward_65 5 rfl ?_
      refine r_iadd dX1_turnToward_67 ?_
      obtain ⟨c9, h⟩ := of_ck h
      refine r_iald dX1_turnToward_68 rfl c9 ?_
      refine r_aload_n dX1_turnToward_69 rfl 1 rfl ?_
      refine r_getR (j := 0) (v := 29) dX1_turnToward_70 f_X1_9 rfl rfl rfl ?_
      refine r_iload dX1_turnToward_73 4 rfl ?_
      refine r_bipush dX1_turnToward_75 (by decide) ?_
      refine r_imul dX1_turnToward_77 ?_
      refine r_iload dX1_turnToward_78 5 rfl ?_
      refine r_iadd dX1_turnToward_80 ?_
      refine r_iald dX1_turnToward_81 rfl c9 ?_
      refine r_isub dX1_turnToward_82 ?_
      refine r_istore (lv2 := [(7, vI ((gI M 30 (wr ((p4 * 9) + x5))) - (gI M 29 (wr ((p4 * 9) + x5))))), (6, vI r8), (0, vR 28), (1, vR 1), (2, vR p2), (4, vI p4), (5, vI x5)]) dX1_turnToward_83 (by decide) rfl ?_
      refine r_iload dX1_turnToward_85 1 rfl ?_
      refine r_iconst dX1_turnToward_87 ?_
      by_cases c10 : wr r8 = wr 1
      · rw [if_pos c10] at h
        refine r_icmp_ne (tgt := 96) dX1_turnToward_88 (by decide) (fun q => absurd c10 q) (fun _ => ?_)
        refine r_iload dX1_turnToward_91 0 rfl ?_
        by_cases c15 : 0 < wr ((gI M 30 (wr ((p4 * 9) + x5))) - (gI M 29 (wr ((p4 * 9) + x5))))
        · rw [if_pos c15] at h
          refine r_if_gt (tgt := 106) dX1_turnToward_93 (by decide) (fun _ => ?_) (fun q => absurd c15 q)
          refine r_aload_n dX1_turnToward_106 rfl 2 rfl ?_
          refine r_aload_n dX1_turnToward_107 rfl 3 rfl ?_
          refine r_aload_n dX1_turnToward_108 rfl 4 rfl ?_
          refine r_iload dX1_turnToward_109 6 rfl ?_
          refine r_iload dX1_turnToward_111 5 rfl ?_
          obtain ⟨M17, hc16, h⟩ := of_bd1 h
          refine r_callVV (st := []) dX1_turnToward_113 v_X1_95 (run_X1_makeTurn hp2 hc16) (by decide) (by decide) rfl rfl (Nat.le_of_ble_eq_true rfl) rfl ?_
          refine r_bipush dX1_turnToward_116 (by decide) ?_
          refine r_iload dX1_turnToward_118 5 rfl ?_
          refine r_imul dX1_turnToward_120 ?_
          refine r_iload dX1_turnToward_121 6 rfl ?_
          refine r_iadd dX1_turnToward_123 ?_
          cases h
          cases k2 _ rfl
          exact hX2 _ _ hX _ _ dX1_turnToward_124
        · rw [if_neg c15] at h
          refine r_if_gt (tgt := 106) dX1_turnToward_93 (by decide) (fun q => absurd q c15) (fun _ => ?_)
          refine r_iload dX1_turnToward_96 1 rfl ?_
          by_cases c18 : wr r8 = 0
          · rw [if_pos c18] at h
            refine r_if_ne (tgt := 125) dX1_turnToward_98 (by decide) (fun q => absurd c18 q) (fun _ => ?_)
            refine r_iload dX1_turnToward_101 0 rfl ?_
            by_cases c19 : 0 ≤ wr ((gI M 30 (wr ((p4 * 9) + x5))) - (gI M 29 (wr ((p4 * 9) + x5))))
            · rw [if_pos c19] at h
              refine r_if_ge (tgt := 125) dX1_turnToward_103 (by decide) (fun _ => ?_) (fun q => absurd c19 q)
              refine r_iinc (lv2 := [(5, vI (x5 + 1)), (7, vI ((gI M 30 (wr ((p4 * 9) + x5))) - (gI M 29 (wr ((p4 * 9) + x5))))), (6, vI r8), (0, vR 28), (1, vR 1), (2, vR p2), (4, vI p4)]) dX1_turnToward_125 6 rfl (by decide) rfl ?_
              refine r_goto (tgt := 35) dX1_turnToward_128 (by decide) ?_
              refine r_sub (lv2 := [(0, vR 28), (1, vR 1), (2, vR p2), (4, vI p4), (5, vI (x5 + 1))]) [3, 4, 5, 6, 0] rfl ?_
              cases h
              exact ih _ _  _ (k1 _ rfl) hX
            · rw [if_neg c19] at h
              refine r_if_ge (tgt := 125) dX1_turnToward_103 (by decide) (fun q => absurd q c19) (fun _ => ?_)
              refine r_aload_n dX1_turnToward_106 rfl 2 rfl ?_
              refine r_aload_n dX1_turnToward_107 rfl 3 rfl ?_
              refine r_aload_n dX1_turnToward_108 rfl 4 rfl ?_
              refine r_iload dX1_turnToward_109 6 rfl ?_
              refine r_iload dX1_turnToward_111 5 rfl ?_
              obtain ⟨M21, hc20, h⟩ := of_bd1 h
              refine r_callVV (st := []) dX1_turnToward_113 v_X1_95 (run_X1_makeTurn hp2 hc20) (by decide) (by decide) rfl rfl (Nat.le_of_ble_eq_true rfl) rfl ?_
              refine r_bipush dX1_turnToward_116 (by decide) ?_
              refine r_iload dX1_turnToward_118 5 rfl ?_
              refine r_imul dX1_turnToward_120 ?_
              refine r_iload dX1_turnToward_121 6 rfl ?_
              refine r_iadd dX1_turnToward_123 ?_
              cases h
              cases k2 _ rfl
              exact hX2 _ _ hX _ _ dX1_turnToward_124
          · rw [if_neg c18] at h
            refine r_if_ne (tgt := 125) dX1_turnToward_98 (by decide) (fun _ => ?_) (fun q => absurd q c18)
            refine r_iinc (lv2 := [(5, vI (x5 + 1)), (7, vI ((gI M 30 (wr ((p4 * 9) + x5))) - (gI M 29 (wr ((p4 * 9) + x5))))), (6, vI r8), (0, vR 28), (1, vR 1), (2, vR p2), (4, vI p4)]) dX1_turnToward_125 6 rfl (by decide) rfl ?_
            refine r_goto (tgt := 35) dX1_turnToward_128 (by decide) ?_
            refine r_sub (lv2 := [(0, vR 28), (1, vR 1), (2, vR p2), (4, vI p4), (5, vI (x5 + 1))]) [3, 4, 5, 6, 0] rfl ?_
            cases h
            exact ih _ _  _ (k1 _ rfl) hX
      · rw [if_neg c10] at h
        refine r_icmp_ne (tgt := 96) dX1_turnToward_88 (by decide) (fun _ => ?_) (fun q => absurd q c10)
        refine r_iload dX1_turnToward_96 1 rfl ?_
        by_cases c11 : wr r8 = 0
        · rw [if_pos c11] at h
          refine r_if_ne (tgt := 125) dX1_turnToward_98 (by decide) (fun q => absurd c11 q) (fun _ => ?_)
          refine r_iload dX1_turnToward_101 0 rfl ?_
          by_cases c12 : 0 ≤ wr ((gI M 30 (wr ((p4 * 9) + x5))) - (gI M 29 (wr ((p4 * 9) + x5))))
          · rw [if_pos c12] at h
            refine r_if_ge (tgt := 125) dX1_turnToward_103 (by decide) (fun _ => ?_) (fun q => absurd c12 q)
            refine r_iinc (lv2 := [(5, vI (x5 + 1)), (7, vI ((gI M 30 (wr ((p4 * 9) + x5))) - (gI M 29 (wr ((p4 * 9) + x5))))), (6, vI r8), (0, vR 28), (1, vR 1), (2, vR p2), (4, vI p4)]) dX1_turnToward_125 6 rfl (by decide) rfl ?_
            refine r_goto (tgt := 35) dX1_turnToward_128 (by decide) ?_
            refine r_sub (lv2 := [(0, vR 28), (1, vR 1), (2, vR p2), (4, vI p4), (5, vI (x5 + 1))]) [3, 4, 5, 6, 0] rfl ?_
            cases h
            exact ih _ _  _ (k1 _ rfl) hX
          · rw [if_neg c12] at h
            refine r_if_ge (tgt := 125) dX1_turnToward_103 (by decide) (fun q => absurd q c12) (fun _ => ?_)
            refine r_aload_n dX1_turnToward_106 rfl 2 rfl ?_
            refine r_aload_n dX1_turnToward_107 rfl 3 rfl ?_
            refine r_aload_n dX1_turnToward_108 rfl 4 rfl ?_
            refine r_iload dX1_turnToward_109 6 rfl ?_
            refine r_iload dX1_turnToward_111 5 rfl ?_
            obtain ⟨M14, hc13, h⟩ := of_bd1 h
            refine r_callVV (st := []) dX1_turnToward_113 v_X1_95 (run_X1_makeTurn hp2 hc13) (by decide) (by decide) rfl rfl (Nat.le_of_ble_eq_true rfl) rfl ?_
            refine r_bipush dX1_turnToward_116 (by decide) ?_
            refine r_iload dX1_turnToward_118 5 rfl ?_
            refine r_imul dX1_turnToward_120 ?_
            refine r_iload dX1_turnToward_121 6 rfl ?_
            refine r_iadd dX1_turnToward_123 ?_
            cases h
            cases k2 _ rfl
            exact hX2 _ _ hX _ _ dX1_turnToward_124
        · rw [if_neg c11] at h
          refine r_if_ne (tgt := 125) dX1_turnToward_98 (by decide) (fun _ => ?_) (fun q => absurd q c11)
          refine r_iinc (lv2 := [(5, vI (x5 + 1)), (7, vI ((gI M 30 (wr ((p4 * 9) + x5))) - (gI M 29 (wr ((p4 * 9) + x5))))), (6, vI r8), (0, vR 28), (1, vR 1), (2, vR p2), (4, vI p4)]) dX1_turnToward_125 6 rfl (by decide) rfl ?_
          refine r_goto (tgt := 35) dX1_turnToward_128 (by decide) ?_
          refine r_sub (lv2 := [(0, vR 28), (1, vR 1), (2, vR p2), (4, vI p4), (5, vI (x5 + 1))]) [3, 4, 5, 6, 0] rfl ?_
          cases h
          exact ih _ _  _ (k1 _ rfl) hX

set_option maxRecDepth 10000 in
theorem lp_X1_turnToward_L23 {G : Gx} (p2 : Nat)  (hp2 : (ly p2).1 = 8) (X : ((Int × Mem) ⊕ (Int × Mem)) → Prop) (hX1 : ∀ (x4 : Int) (M : Mem), X (.inl (x4, M)) → Ex G 4 cX1_turnToward RX1 8 137 [(0, vR 28), (1, vR 1), (2, vR p2), (4, vI x4)] [] M) (hX2 : ∀ (r : Int) (M2 : Mem), X (.inr (r, M2)) → RetI G 4 cX1_turnToward RX1 8 r M2) : ∀ (nn : Nat) (x4 : Int) (M : Mem) (out : (Int × Mem) ⊕ (Int × Mem)), itr (fun s => m_X1_turnToward_L23 s.2 p2 s.1) nn (x4, M) = some out → X out → Ex G 4 cX1_turnToward RX1 8 23 [(0, vR 28), (1, vR 1), (2, vR p2), (4, vI x4)] [] M := by
  intro nn
  induction nn with
  | zero =>
    intro x4 M out h _
    cases h
  | succ nn ih =>
    intro x4 M out h0 hX
    obtain ⟨w, h, k1, k2⟩ := itr_inv h0
    have h : m_X1_turnToward_L23 M p2 x4 = some w := h
    unfold m_X1_turnToward_L23 at h
    refine r_iload dX1_turnToward_23 3 rfl ?_
    refine r_aload_n dX1_turnToward_25 rfl 1 rfl ?_
    refine r_getI (j := 1) (jz := 1) dX1_turnToward_26 f_X1_82 rfl rfl rfl ?_
    by_cases c5 : wr (gI M 1 1) ≤ wr x4
    · rw [if_pos c5] at h
      refine r_icmp_ge (tgt := 137) dX1_turnToward_29 (by decide) (fun _ => ?_) (fun q => absurd c5 q)
      cases h
      cases k2 _ rfl
      exact hX1 _ _ hX
    · rw [if_neg c5] at h
      refine r_icmp_ge (tgt := 137) dX1_turnToward_29 (by decide) (fun q => absurd q c5) (fun _ => ?_)
      refine r_iconst dX1_turnToward_32 ?_
      refine r_istore (lv2 := [(5, vI 1), (0, vR 28), (1, vR 1), (2, vR p2), (4, vI x4)]) dX1_turnToward_33 (by decide) rfl ?_
      obtain ⟨w9, h9, h⟩ := of_be2l h
      refine r_sub (lv2 := [(0, vR 28), (1, vR 1), (2, vR p2), (4, vI x4), (5, vI 1)]) [1, 2, 3, 4, 0] rfl ?_
      refine lp_X1_turnToward_L35 p2 x4 hp2 (fun w => w = w9) ?_ ?_ FU 1 M w9 h9 rfl
      · intro y22 M23 hw
        subst hw
        have h := h.1 _ _  rfl
        refine r_iinc (lv2 := [(4, vI (x4 + 1)), (0, vR 28), (1, vR 1), (2, vR p2), (5, vI y22)]) dX1_turnToward_131 3 rfl (by decide) rfl ?_
        refine r_goto (tgt := 23) dX1_turnToward_134 (by decide) ?_
        refine r_sub (lv2 := [(0, vR 28), (1, vR 1), (2, vR p2), (4, vI (x4 + 1))]) [1, 2, 3, 0] rfl ?_
        cases h
        exact ih _ _  _ (k1 _ rfl) hX
      · intro r9 M9 hw
        subst hw
        have h := h.2 _ rfl
        cases h
        cases k2 _ rfl
        exact hX2 _ _ hX

set_option maxRecDepth 10000 in
theorem run_X1_turnToward {M : Mem} {M2 : Mem} {a2 : Nat} {a3 : Nat} {r : Int}  (ha2 : (ly a2).1 = 8) (ha3 : (ly a3).1 = 8) (h : m_X1_turnToward M a2 a3 = some (r, M2)) : RunI 4 yX1_turnToward cX1_turnToward 8 (some .int) [vR 28, vR 1, vR a2, vR a3] M r M2 := by
  refine runI_of (lv := [(0, vR 28), (1, vR 1), (2, vR a2), (3, vR a3)]) (by decide +kernel) (Or.inl rfl) (Nat.le_of_ble_eq_true rfl) rfl ?_
  intro G hQ
  unfold m_X1_turnToward at h
  refine r_aload_n dX1_turnToward_0 rfl 0 rfl ?_
  refine r_aload_n dX1_turnToward_1 rfl 1 rfl ?_
  refine r_aload_n dX1_turnToward_2 rfl 2 rfl ?_
  refine r_aload_n dX1_turnToward_3 rfl 0 rfl ?_
  refine r_getR (j := 0) (v := 29) dX1_turnToward_4 f_X1_9 rfl rfl rfl ?_
  obtain ⟨M2, hc1, h⟩ := of_bd1 h
  refine r_callVV (st := []) dX1_turnToward_7 v_X1_99 (run_X1_measure ha2 (congrArg Prod.fst rfl) hc1) (by decide) (by decide) rfl rfl (Nat.le_of_ble_eq_true rfl) rfl ?_
  refine r_aload_n dX1_turnToward_10 rfl 0 rfl ?_
  refine r_aload_n dX1_turnToward_11 rfl 1 rfl ?_
  refine r_aload_n dX1_turnToward_12 rfl 3 rfl ?_
  refine r_aload_n dX1_turnToward_13 rfl 0 rfl ?_
  refine r_getR (j := 1) (v := 30) dX1_turnToward_14 f_X1_15 rfl rfl rfl ?_
  obtain ⟨M4, hc3, h⟩ := of_bd1 h
  refine r_callVV (st := []) dX1_turnToward_17 v_X1_99 (run_X1_measure ha3 (congrArg Prod.fst rfl) hc3) (by decide) (by decide) rfl rfl (Nat.le_of_ble_eq_true rfl) rfl ?_
  refine r_iconst dX1_turnToward_20 ?_
  refine r_istore (lv2 := [(4, vI 1), (0, vR 28), (1, vR 1), (2, vR a2), (3, vR a3)]) dX1_turnToward_21 (by decide) rfl ?_
  obtain ⟨w9, h9, h⟩ := of_be2 h
  refine r_sub (lv2 := [(0, vR 28), (1, vR 1), (2, vR a2), (4, vI 1)]) [1, 2, 3, 0] rfl ?_
  refine lp_X1_turnToward_L23 a2 ha2 (fun w => w = w9) ?_ ?_ FU 1 M4 w9 h9 rfl
  · intro y24 M25 hw
    subst hw
    have h := h.1 _ _  rfl
    refine r_iconst dX1_turnToward_137 ?_
    cases h
    exact hQ _ _ dX1_turnToward_138
  · intro r9 M9 hw
    subst hw
    have h := h.2 _ rfl
    cases h
    exact hQ

def m_X10_cells (M : Mem) : Int :=
  ((gI M 1 0) * (gI M 1 1))
set_option maxRecDepth 10000 in
theorem run_X10_cells {M : Mem} {r : Int}   (h : m_X10_cells M = r) : RunI 0 yX10_cells cX10_cells 1 (some .int) [vR 1] M r M := by
  refine runI_of (lv := [(0, vR 1)]) (by decide +kernel) (Or.inl rfl) (Nat.le_of_ble_eq_true rfl) rfl ?_
  intro G hQ
  unfold m_X10_cells at h
  refine r_aload_n dX10_cells_0 rfl 0 rfl ?_
  refine r_getI (j := 0) (jz := 0) dX10_cells_1 f_X10_22 rfl rfl rfl ?_
  refine r_aload_n dX10_cells_4 rfl 0 rfl ?_
  refine r_getI (j := 1) (jz := 1) dX10_cells_5 f_X10_26 rfl rfl rfl ?_
  refine r_imul dX10_cells_8 ?_
  cases h
  exact hQ _ _ dX10_cells_9

def m_X10_isDark (M : Mem) (a1 : Int) : Option (Bool) :=
  bd1 (m_X10_column M a1) fun r2 =>
  bd1 (m_X10_row M a1) fun r4 =>
  lt (if wr (iand (r2 + r4) 1) = 0 then 1 else 0) fun (v6 : Int) =>
  if v6 = 0 ∨ v6 = 1 then some (decide (v6 = 1)) else none
set_option maxRecDepth 10000 in
theorem run_X10_isDark {M : Mem} {a1 : Int} {r : Bool}   (h : m_X10_isDark M a1 = some r) : RunI 1 yX10_isDark cX10_isDark 2 (some .boolean) [vR 1, vI a1] M (bI r) M := by
  refine runI_of (lv := [(0, vR 1), (1, vI a1)]) (by decide +kernel) (Or.inr ⟨rfl, bI_01 r⟩) (Nat.le_of_ble_eq_true rfl) rfl ?_
  intro G hQ
  unfold m_X10_isDark at h
  refine r_aload_n dX10_isDark_0 rfl 0 rfl ?_
  refine r_iload_n dX10_isDark_1 rfl 1 rfl ?_
  obtain ⟨r2, hc1, h⟩ := of_bd1 h
  refine r_callVI (st := []) dX10_isDark_2 v_X10_43 (run_X10_column hc1) (by decide) (by decide) rfl rfl (Nat.le_of_ble_eq_true rfl) rfl ?_
  refine r_aload_n dX10_isDark_5 rfl 0 rfl ?_
  refine r_iload_n dX10_isDark_6 rfl 1 rfl ?_
  obtain ⟨r4, hc3, h⟩ := of_bd1 h
  refine r_callVI (st := [vI r2]) dX10_isDark_7 v_X10_39 (run_X10_row hc3) (by decide) (by decide) rfl rfl (Nat.le_of_ble_eq_true rfl) rfl ?_
  refine r_iadd dX10_isDark_10 ?_
  refine r_iconst dX10_isDark_11 ?_
  refine r_iand dX10_isDark_12 ?_
  obtain ⟨v6, ev6, h⟩ := of_lt h
  have kJ : Ex G 1 cX10_isDark RX10 2 21 [] [vI v6] M := by
    obtain ⟨cz, h⟩ := of_ck h
    rw [← bI_dec cz]
    cases h
    exact hQ _ _ dX10_isDark_21
  clear h
  by_cases c5 : wr (iand (r2 + r4) 1) = 0
  · skip
    refine r_if_ne (tgt := 20) dX10_isDark_13 (by decide) (fun q => absurd c5 q) (fun _ => ?_)
    refine r_iconst dX10_isDark_16 ?_
    refine r_goto (tgt := 21) dX10_isDark_17 (by decide) ?_
    rw [show v6 = 1 from by rw [ev6, if_pos c5]] at kJ
    refine r_sub (lv2 := []) [] rfl ?_
    exact kJ
  · skip
    refine r_if_ne (tgt := 20) dX10_isDark_13 (by decide) (fun _ => ?_) (fun q => absurd q c5)
    refine r_iconst dX10_isDark_20 ?_
    rw [show v6 = 0 from by rw [ev6, if_neg c5]] at kJ
    refine r_sub (lv2 := []) [] rfl ?_
    exact kJ

def m_X10_beside (M : Mem) (a1 : Int) (a2 : Int) : Option (Int) :=
  bd1 (m_X10_column M a1) fun r2 =>
  bd1 (m_X10_row M a1) fun r4 =>
  if wr a2 = 0 then
    bd1 (m_X10_openAt M r2 (r4 - 1)) fun r7 =>
    some r7
  else
    if wr a2 = 1 then
      bd1 (m_X10_openAt M (r2 - 1) r4) fun r10 =>
      some r10
    else
      if wr a2 = 2 then
        bd1 (m_X10_openAt M (r2 + 1) r4) fun r13 =>
        some r13
      else
        bd1 (m_X10_openAt M r2 (r4 + 1)) fun r15 =>
        some r15
set_option maxRecDepth 10000 in
theorem run_X10_beside {M : Mem} {a1 : Int} {a2 : Int} {r : Int}   (h : m_X10_beside M a1 a2 = some r) : RunI 1 yX10_beside cX10_beside 5 (some .int) [vR 1, vI a1, vI a2] M r M := by
  refine runI_of (lv := [(0, vR 1), (1, vI a1), (2, vI a2)]) (by decide +kernel) (Or.inl rfl) (Nat.le_of_ble_eq_true rfl) rfl ?_
  intro G hQ
  unfold m_X10_beside at h
  refine r_aload_n dX10_beside_0 rfl 0 rfl ?_
  refine r_iload_n dX10_beside_1 rfl 1 rfl ?_
  obtain ⟨r2, hc1, h⟩ := of_bd1 h
  refine r_callVI (st := []) dX10_beside_2 v_X10_43 (run_X10_column hc1) (by decide) (by decide) rfl rfl (Nat.le_of_ble_eq_true rfl) rfl ?_
  refine r_istore_n (lv2 := [(3, vI r2), (0, vR 1), (1, vI a1), (2, vI a2)]) dX10_beside_5 rfl (by decide) rfl ?_
  refine r_aload_n dX10_beside_6 rfl 1 rfl ?_
  refine r_iload_n dX10_beside_7 rfl 2 rfl ?_
  obtain ⟨r4, hc3, h⟩ := of_bd1 h
  refine r_callVI (st := []) dX10_beside_8 v_X10_39 (run_X10_row hc3) (by decide) (by decide) rfl rfl (Nat.le_of_ble_eq_true rfl) rfl ?_
  refine r_istore (lv2 := [(4, vI r4), (3, vI r2), (0, vR 1), (1, vI a1), (2, vI a2)]) dX10_beside_11 (by decide) rfl ?_
  refine r_iload_n dX10_beside_13 rfl 4 rfl ?_
  by_cases c5 : wr a2 = 0
  · rw [if_pos c5] at h
    refine r_tabIn (tgt := 40) dX10_beside_14 0 (c5.trans rfl) (by decide) rfl (by decide) ?_
    refine r_aload_n dX10_beside_40 rfl 2 rfl ?_
    refine r_iload_n dX10_beside_41 rfl 1 rfl ?_
    refine r_iload dX10_beside_42 0 rfl ?_
    refine r_iconst dX10_beside_44 ?_
    refine r_isub dX10_beside_45 ?_
    obtain ⟨r7, hc6, h⟩ := of_bd1 h
    refine r_callVI (st := []) dX10_beside_46 v_X10_50 (run_X10_openAt hc6) (by decide) (by decide) rfl rfl (Nat.le_of_ble_eq_true rfl) rfl ?_
    cases h
    exact hQ _ _ dX10_beside_49
  · rw [if_neg c5] at h
    by_cases c8 : wr a2 = 1
    · rw [if_pos c8] at h
      refine r_tabIn (tgt := 50) dX10_beside_14 1 (c8.trans rfl) (by decide) rfl (by decide) ?_
      refine r_aload_n dX10_beside_50 rfl 2 rfl ?_
      refine r_iload_n dX10_beside_51 rfl 1 rfl ?_
      refine r_iconst dX10_beside_52 ?_
      refine r_isub dX10_beside_53 ?_
      refine r_iload dX10_beside_54 0 rfl ?_
      obtain ⟨r10, hc9, h⟩ := of_bd1 h
      refine r_callVI (st := []) dX10_beside_56 v_X10_50 (run_X10_openAt hc9) (by decide) (by decide) rfl rfl (Nat.le_of_ble_eq_true rfl) rfl ?_
      cases h
      exact hQ _ _ dX10_beside_59
    · rw [if_neg c8] at h
      by_cases c11 : wr a2 = 2
      · rw [if_pos c11] at h
        refine r_tabIn (tgt := 60) dX10_beside_14 2 (c11.trans rfl) (by decide) rfl (by decide) ?_
        refine r_aload_n dX10_beside_60 rfl 2 rfl ?_
        refine r_iload_n dX10_beside_61 rfl 1 rfl ?_
        refine r_iconst dX10_beside_62 ?_
        refine r_iadd dX10_beside_63 ?_
        refine r_iload dX10_beside_64 0 rfl ?_
        obtain ⟨r13, hc12, h⟩ := of_bd1 h
        refine r_callVI (st := []) dX10_beside_66 v_X10_50 (run_X10_openAt hc12) (by decide) (by decide) rfl rfl (Nat.le_of_ble_eq_true rfl) rfl ?_
        cases h
        exact hQ _ _ dX10_beside_69
      · rw [if_neg c11] at h
        refine r_tabOut (tgt := 70) dX10_beside_14 (by omega) (by decide) ?_
        refine r_aload_n dX10_beside_70 rfl 2 rfl ?_
        refine r_iload_n dX10_beside_71 rfl 1 rfl ?_
        refine r_iload dX10_beside_72 0 rfl ?_
        refine r_iconst dX10_beside_74 ?_
        refine r_iadd dX10_beside_75 ?_
        obtain ⟨r15, hc14, h⟩ := of_bd1 h
        refine r_callVI (st := []) dX10_beside_76 v_X10_50 (run_X10_openAt hc14) (by decide) (by decide) rfl rfl (Nat.le_of_ble_eq_true rfl) rfl ?_
        cases h
        exact hQ _ _ dX10_beside_79

def m_X2_swapPath_L4 (M : Mem)  (x2 : Int) (x3 : Int) : Option ((Int × Int × Mem) ⊕ ((Int × Int × Mem) ⊕ (Mem))) :=
  if wr 64 ≤ wr x3 then
    some (.inr (.inl (x2, x3, M)))
  else
    if wr x2 < 0 then
      some (.inr (.inl (x2, x3, M)))
    else
      if 0 ≤ wr x2 ∧ wr x2 < 64 then
      if 0 ≤ wr (gI M 19 (wr x2)) then
        if 0 ≤ wr (gI M 19 (wr x2)) ∧ wr (gI M 19 (wr x2)) < 64 then
        lt (sI M 18 (wr (gI M 19 (wr x2))) x2) fun M6 =>
        lt (sI M6 18 (wr x2) (gI M 19 (wr x2))) fun M7 =>
        some (.inl ((gI M 18 (wr (gI M 19 (wr x2)))), (x3 + 1), M7))
        else none
      else
        some (.inr (.inr M))
      else none
def m_X2_swapPath (M : Mem) (a1 : Int) : Option (Mem) :=
  be3 (itr (fun s => m_X2_swapPath_L4 s.2.2  s.1 s.2.1) FU (a1, 0, M)) (fun y8 y9 M10 =>
  some M10)
set_option maxRecDepth 10000 in
theorem lp_X2_swapPath_L4 {G : Gx}    (X : ((Int × Int × Mem) ⊕ (Mem)) → Prop) (hX1 : ∀ (x2 : Int) (x3 : Int) (M : Mem), X (.inl (x2, x3, M)) → Ex G 0 cX2_swapPath RX2 6 62 [(0, vR 17), (2, vI x2), (3, vI x3)] [] M) (hX2 : ∀ (M2 : Mem), X (.inr M2) → RetV G 0 cX2_swapPath RX2 6 M2) : ∀ (nn : Nat) (x2 : Int) (x3 : Int) (M : Mem) (out : (Int × Int × Mem) ⊕ (Mem)), itr (fun s => m_X2_swapPath_L4 s.2.2  s.1 s.2.1) nn (x2, x3, M) = some out → X out → Ex G 0 cX2_swapPath RX2 6 4 [(0, vR 17), (2, vI x2), (3, vI x3)] [] M := by
  intro nn
  induction nn with
  | zero =>
    intro x2 x3 M out h _
    cases h
  | succ nn ih =>
    intro x2 x3 M out h0 hX
    obtain ⟨w, h, k1, k2⟩ := itr_inv h0
    have h : m_X2_swapPath_L4 M  x2 x3 = some w := h
    unfold m_X2_swapPath_L4 at h
    refine r_iload_n dX2_swapPath_4 rfl 2 rfl ?_
    refine r_bipush dX2_swapPath_5 (by decide) ?_
    by_cases c1 : wr 64 ≤ wr x3
    · rw [if_pos c1] at h
      refine r_icmp_ge (tgt := 62) dX2_swapPath_7 (by decide) (fun _ => ?_) (fun q => absurd c1 q)
      cases h
      cases k2 _ rfl
      exact hX1 _ _ _ hX
    · rw [if_neg c1] at h
      refine r_icmp_ge (tgt := 62) dX2_swapPath_7 (by decide) (fun q => absurd q c1) (fun _ => ?_)
      refine r_iload_n dX2_swapPath_10 rfl 1 rfl ?_
      by_cases c2 : wr x2 < 0
      · rw [if_pos c2] at h
        refine r_if_lt (tgt := 62) dX2_swapPath_11 (by decide) (fun _ => ?_) (fun q => absurd c2 q)
        cases h
        cases k2 _ rfl
        exact hX1 _ _ _ hX
      · rw [if_neg c2] at h
        refine r_if_lt (tgt := 62) dX2_swapPath_11 (by decide) (fun q => absurd q c2) (fun _ => ?_)
        refine r_aload_n dX2_swapPath_14 rfl 0 rfl ?_
        refine r_getR (j := 1) (v := 19) dX2_swapPath_15 f_X2_15 rfl rfl rfl ?_
        refine r_iload_n dX2_swapPath_18 rfl 1 rfl ?_
        obtain ⟨c3, h⟩ := of_ck h
        refine r_iald dX2_swapPath_19 rfl c3 ?_
        refine r_istore (lv2 := [(4, vI (gI M 19 (wr x2))), (0, vR 17), (2, vI x2), (3, vI x3)]) dX2_swapPath_20 (by decide) rfl ?_
        refine r_iload dX2_swapPath_22 0 rfl ?_
        by_cases c4 : 0 ≤ wr (gI M 19 (wr x2))
        · rw [if_pos c4] at h
          refine r_if_ge (tgt := 28) dX2_swapPath_24 (by decide) (fun _ => ?_) (fun q => absurd c4 q)
          refine r_aload_n dX2_swapPath_28 rfl 1 rfl ?_
          refine r_getR (j := 0) (v := 18) dX2_swapPath_29 f_X2_9 rfl rfl rfl ?_
          refine r_iload dX2_swapPath_32 0 rfl ?_
          obtain ⟨c5, h⟩ := of_ck h
          refine r_iald dX2_swapPath_34 rfl c5 ?_
          refine r_istore (lv2 := [(5, vI (gI M 18 (wr (gI M 19 (wr x2))))), (4, vI (gI M 19 (wr x2))), (0, vR 17), (2, vI x2), (3, vI x3)]) dX2_swapPath_35 (by decide) rfl ?_
          refine r_aload_n dX2_swapPath_37 rfl 2 rfl ?_
          refine r_getR (j := 0) (v := 18) dX2_swapPath_38 f_X2_9 rfl rfl rfl ?_
          refine r_iload dX2_swapPath_41 1 rfl ?_
          refine r_iload_n dX2_swapPath_43 rfl 3 rfl ?_
          obtain ⟨M6, eM6, h⟩ := of_lt h
          refine r_iast dX2_swapPath_44 rfl c5 ?_
          rw [← eM6]
          refine r_aload_n dX2_swapPath_45 rfl 2 rfl ?_
          refine r_getR (j := 0) (v := 18) dX2_swapPath_46 f_X2_9 rfl rfl rfl ?_
          refine r_iload_n dX2_swapPath_49 rfl 3 rfl ?_
          refine r_iload dX2_swapPath_50 1 rfl ?_
          obtain ⟨M7, eM7, h⟩ := of_lt h
          refine r_iast dX2_swapPath_52 rfl c3 ?_
          rw [← eM7]
          refine r_iload dX2_swapPath_53 0 rfl ?_
          refine r_istore_n (lv2 := [(2, vI (gI M 18 (wr (gI M 19 (wr x2))))), (5, vI (gI M 18 (wr (gI M 19 (wr x2))))), (4, vI (gI M 19 (wr x2))), (0, vR 17), (3, vI x3)]) dX2_swapPath_55 rfl (by decide) rfl ?_
          refine r_iinc (lv2 := [(3, vI (x3 + 1)), (2, vI (gI M 18 (wr (gI M 19 (wr x2))))), (5, vI (gI M 18 (wr (gI M 19 (wr x2))))), (4, vI (gI M 19 (wr x2))), (0, vR 17)]) dX2_swapPath_56 4 rfl (by decide) rfl ?_
          refine r_goto (tgt := 4) dX2_swapPath_59 (by decide) ?_
          refine r_sub (lv2 := [(0, vR 17), (2, vI (gI M 18 (wr (gI M 19 (wr x2))))), (3, vI (x3 + 1))]) [4, 1, 0] rfl ?_
          cases h
          exact ih _ _ _  _ (k1 _ rfl) hX
        · rw [if_neg c4] at h
          refine r_if_ge (tgt := 28) dX2_swapPath_24 (by decide) (fun q => absurd q c4) (fun _ => ?_)
          cases h
          cases k2 _ rfl
          exact hX2 _ hX _ _ dX2_swapPath_27

set_option maxRecDepth 10000 in
theorem run_X2_swapPath {M : Mem} {M2 : Mem} {a1 : Int}   (h : m_X2_swapPath M a1 = some (M2)) : RunV 0 yX2_swapPath cX2_swapPath 6 none [vR 17, vI a1] M M2 := by
  refine runV_of (lv := [(0, vR 17), (1, vI a1)]) (by decide +kernel) rfl (Nat.le_of_ble_eq_true rfl) rfl ?_
  intro G hQ
  unfold m_X2_swapPath at h
  refine r_iload_n dX2_swapPath_0 rfl 1 rfl ?_
  refine r_istore_n (lv2 := [(2, vI a1), (0, vR 17), (1, vI a1)]) dX2_swapPath_1 rfl (by decide) rfl ?_
  refine r_iconst dX2_swapPath_2 ?_
  refine r_istore_n (lv2 := [(3, vI 0), (2, vI a1), (0, vR 17), (1, vI a1)]) dX2_swapPath_3 rfl (by decide) rfl ?_
  obtain ⟨w9, h9, h⟩ := of_be3 h
  refine r_sub (lv2 := [(0, vR 17), (2, vI a1), (3, vI 0)]) [2, 1, 0] rfl ?_
  refine lp_X2_swapPath_L4   (fun w => w = w9) ?_ ?_ FU a1 0 M w9 h9 rfl
  · intro y8 y9 M10 hw
    subst hw
    have h := h.1 _ _ _  rfl
    cases h
    exact hQ _ _ dX2_swapPath_62
  · intro M9 hw
    subst hw
    have h := h.2 _ rfl
    cases h
    exact hQ

def m_X2_findMateFor_L57 (M : Mem) (p3 : Int) (p4 : Int) (x5 : Int) : Option ((Int × Mem) ⊕ ((Int × Mem) ⊕ (Bool × Mem))) :=
  if wr 4 ≤ wr x5 then
    some (.inr (.inl (x5, M)))
  else
    bd1 (m_X10_beside M p4 x5) fun r13 =>
    if wr r13 < 0 then
      some (.inl ((x5 + 1), M))
    else
      if 0 ≤ wr r13 ∧ wr r13 < 64 then
      if wr (gI M 19 (wr r13)) < 0 then
        lt (sI M 19 (wr r13) p4) fun M17 =>
        if 0 ≤ wr (gI M17 18 (wr r13)) then
          bd2 (m_X9_reach M17 21 (gI M17 18 (wr r13))) fun b20 M21 =>
          some (.inl ((x5 + 1), M21))
        else
          bd1 (m_X2_swapPath M17 r13) fun M23 =>
          some (.inr (.inr (true, M23)))
      else
        some (.inl ((x5 + 1), M))
      else none
def m_X2_findMateFor_L26 (M : Mem)  (x3 : Int) : Option ((Int × Mem) ⊕ ((Int × Mem) ⊕ (Bool × Mem))) :=
  if wr 100 ≤ wr x3 then
    some (.inr (.inl (x3, M)))
  else
    if wr (gI M 21 2) ≤ wr x3 then
      some (.inr (.inl (x3, M)))
    else
      if 0 ≤ wr x3 ∧ wr x3 < 100 then
      be2l (itr (fun s => m_X2_findMateFor_L57 s.2 x3 (gI M 23 (wr x3)) s.1) FU (0, M)) (fun y24 M25 =>
      some (.inl ((x3 + 1), M25)))
      else none
def m_X2_findMateFor (M : Mem) (a2 : Int) : Option (Bool × Mem) :=
  bd1 (m_J7_fill_53178 M 19 (-1)) fun M2 =>
  bd1 (m_X9_clear M2 21) fun M4 =>
  bd2 (m_X9_reach M4 21 a2) fun b6 M7 =>
  be2 (itr (fun s => m_X2_findMateFor_L26 s.2  s.1) FU (0, M7)) (fun y26 M27 =>
  some (false, M27))
set_option maxRecDepth 10000 in
theorem lp_X2_findMateFor_L57 {G : Gx} (p3 : Int) (p4 : Int)   (X : ((Int × Mem) ⊕ (Bool × Mem)) → Prop) (hX1 : ∀ (x5 : Int) (M : Mem), X (.inl (x5, M)) → Ex G 2 cX2_findMateFor RX2 7 139 [(0, vR 17), (1, vR 1), (3, vI p3), (4, vI p4), (5, vI x5)] [] M) (hX2 : ∀ (r : Bool) (M2 : Mem), X (.inr (r, M2)) → RetI G 2 cX2_findMateFor RX2 7 (bI r) M2) : ∀ (nn : Nat) (x5 : Int) (M : Mem) (out : (Int × Mem) ⊕ (Bool × Mem)), itr (fun s => m_X2_findMateFor_L57 s.2 p3 p4 s.1) nn (x5, M) = some out → X out → Ex G 2 cX2_findMateFor RX2 7 57 [(0, vR 17), (1, vR 1), (3, vI p3), (4, vI p4), (5, vI x5)] [] M := by
  intro nn
  induction nn with
  | zero =>
    intro x5 M out h _
    cases h
  | succ nn ih =>
    intro x5 M out h0 hX
    obtain ⟨w, h, k1, k2⟩ := itr_inv h0
    have h : m_X2_findMateFor_L57 M p3 p4 x5 = some w := h
    unfold m_X2_findMateFor_L57 at h
    refine r_iload dX2_findMateFor_57 4 rfl ?_
    refine r_iconst dX2_findMateFor_59 ?_
    by_cases c11 : wr 4 ≤ wr x5
    · rw [if_pos c11] at h
      refine r_icmp_ge (tgt := 139) dX2_findMateFor_60 (by decide) (fun _ => ?_) (fun q => absurd c11 q)
      cases h
      cases k2 _ rfl
      exact hX1 _ _ hX
    · rw [if_neg c11] at h
      refine r_icmp_ge (tgt := 139) dX2_findMateFor_60 (by decide) (fun q => absurd q c11) (fun _ => ?_)
      refine r_aload_n dX2_findMateFor_63 rfl 1 rfl ?_
      refine r_iload dX2_findMateFor_64 3 rfl ?_
      refine r_iload dX2_findMateFor_66 4 rfl ?_
      obtain ⟨r13, hc12, h⟩ := of_bd1 h
      refine r_callVI (st := []) dX2_findMateFor_68 v_X2_69 (run_X10_beside hc12) (by decide) (by decide) rfl rfl (Nat.le_of_ble_eq_true rfl) rfl ?_
      refine r_istore (lv2 := [(6, vI r13), (0, vR 17), (1, vR 1), (3, vI p3), (4, vI p4), (5, vI x5)]) dX2_findMateFor_71 (by decide) rfl ?_
      refine r_iload dX2_findMateFor_73 0 rfl ?_
      by_cases c14 : wr r13 < 0
      · rw [if_pos c14] at h
        refine r_if_lt (tgt := 133) dX2_findMateFor_75 (by decide) (fun _ => ?_) (fun q => absurd c14 q)
        refine r_iinc (lv2 := [(5, vI (x5 + 1)), (6, vI r13), (0, vR 17), (1, vR 1), (3, vI p3), (4, vI p4)]) dX2_findMateFor_133 5 rfl (by decide) rfl ?_
        refine r_goto (tgt := 57) dX2_findMateFor_136 (by decide) ?_
        refine r_sub (lv2 := [(0, vR 17), (1, vR 1), (3, vI p3), (4, vI p4), (5, vI (x5 + 1))]) [2, 3, 4, 5, 0] rfl ?_
        cases h
        exact ih _ _  _ (k1 _ rfl) hX
      · rw [if_neg c14] at h
        refine r_if_lt (tgt := 133) dX2_findMateFor_75 (by decide) (fun q => absurd q c14) (fun _ => ?_)
        refine r_aload_n dX2_findMateFor_78 rfl 1 rfl ?_
        refine r_getR (j := 1) (v := 19) dX2_findMateFor_79 f_X2_15 rfl rfl rfl ?_
        refine r_iload dX2_findMateFor_82 0 rfl ?_
        obtain ⟨c15, h⟩ := of_ck h
        refine r_iald dX2_findMateFor_84 rfl c15 ?_
        by_cases c16 : wr (gI M 19 (wr r13)) < 0
        · rw [if_pos c16] at h
          refine r_if_lt (tgt := 91) dX2_findMateFor_85 (by decide) (fun _ => ?_) (fun q => absurd c16 q)
          refine r_aload_n dX2_findMateFor_91 rfl 1 rfl ?_
          refine r_getR (j := 1) (v := 19) dX2_findMateFor_92 f_X2_15 rfl rfl rfl ?_
          refine r_iload dX2_findMateFor_95 0 rfl ?_
          refine r_iload dX2_findMateFor_97 4 rfl ?_
          obtain ⟨M17, eM17, h⟩ := of_lt h
          refine r_iast dX2_findMateFor_99 rfl c15 ?_
          rw [← eM17]
          refine r_aload_n dX2_findMateFor_100 rfl 1 rfl ?_
          refine r_getR (j := 0) (v := 18) dX2_findMateFor_101 f_X2_9 rfl rfl rfl ?_
          refine r_iload dX2_findMateFor_104 0 rfl ?_
          refine r_iald dX2_findMateFor_106 rfl c15 ?_
          by_cases c18 : 0 ≤ wr (gI M17 18 (wr r13))
          · rw [if_pos c18] at h
            refine r_if_ge (tgt := 118) dX2_findMateFor_107 (by decide) (fun _ => ?_) (fun q => absurd c18 q)
            refine r_aload_n dX2_findMateFor_118 rfl 1 rfl ?_
            refine r_getR (j := 3) (v := 21) dX2_findMateFor_119 f_X2_24 rfl rfl rfl ?_
            refine r_aload_n dX2_findMateFor_122 rfl 1 rfl ?_
            refine r_getR (j := 0) (v := 18) dX2_findMateFor_123 f_X2_9 rfl rfl rfl ?_
            refine r_iload dX2_findMateFor_126 0 rfl ?_
            refine r_iald dX2_findMateFor_128 rfl c15 ?_
            obtain ⟨b20, M21, hc19, h⟩ := of_bd2 h
            refine r_callVI (st := []) dX2_findMateFor_129 v_X2_59 (run_X9_reach rfl hc19) (by decide) (by decide) rfl rfl (Nat.le_of_ble_eq_true rfl) rfl ?_
            refine r_pop dX2_findMateFor_132 rfl ?_
            refine r_iinc (lv2 := [(5, vI (x5 + 1)), (6, vI r13), (0, vR 17), (1, vR 1), (3, vI p3), (4, vI p4)]) dX2_findMateFor_133 5 rfl (by decide) rfl ?_
            refine r_goto (tgt := 57) dX2_findMateFor_136 (by decide) ?_
            refine r_sub (lv2 := [(0, vR 17), (1, vR 1), (3, vI p3), (4, vI p4), (5, vI (x5 + 1))]) [2, 3, 4, 5, 0] rfl ?_
            cases h
            exact ih _ _  _ (k1 _ rfl) hX
          · rw [if_neg c18] at h
            refine r_if_ge (tgt := 118) dX2_findMateFor_107 (by decide) (fun q => absurd q c18) (fun _ => ?_)
            refine r_aload_n dX2_findMateFor_110 rfl 1 rfl ?_
            refine r_iload dX2_findMateFor_111 0 rfl ?_
            obtain ⟨M23, hc22, h⟩ := of_bd1 h
            refine r_callVV (st := []) dX2_findMateFor_113 v_X2_73 (run_X2_swapPath hc22) (by decide) (by decide) rfl rfl (Nat.le_of_ble_eq_true rfl) rfl ?_
            refine r_iconst dX2_findMateFor_116 ?_
            cases h
            cases k2 _ rfl
            exact hX2 _ _ hX _ _ dX2_findMateFor_117
        · rw [if_neg c16] at h
          refine r_if_lt (tgt := 91) dX2_findMateFor_85 (by decide) (fun q => absurd q c16) (fun _ => ?_)
          refine r_goto (tgt := 133) dX2_findMateFor_88 (by decide) ?_
          refine r_iinc (lv2 := [(5, vI (x5 + 1)), (6, vI r13), (0, vR 17), (1, vR 1), (3, vI p3), (4, vI p4)]) dX2_findMateFor_133 5 rfl (by decide) rfl ?_
          refine r_goto (tgt := 57) dX2_findMateFor_136 (by decide) ?_
          refine r_sub (lv2 := [(0, vR 17), (1, vR 1), (3, vI p3), (4, vI p4), (5, vI (x5 + 1))]) [2, 3, 4, 5, 0] rfl ?_
          cases h
          exact ih _ _  _ (k1 _ rfl) hX

set_option maxRecDepth 10000 in
theorem lp_X2_findMateFor_L26 {G : Gx}    (X : ((Int × Mem) ⊕ (Bool × Mem)) → Prop) (hX1 : ∀ (x3 : Int) (M : Mem), X (.inl (x3, M)) → Ex G 2 cX2_findMateFor RX2 7 145 [(0, vR 17), (1, vR 1), (3, vI x3)] [] M) (hX2 : ∀ (r : Bool) (M2 : Mem), X (.inr (r, M2)) → RetI G 2 cX2_findMateFor RX2 7 (bI r) M2) : ∀ (nn : Nat) (x3 : Int) (M : Mem) (out : (Int × Mem) ⊕ (Bool × Mem)), itr (fun s => m_X2_findMateFor_L26 s.2  s.1) nn (x3, M) = some out → X out → Ex G 2 cX2_findMateFor RX2 7 26 [(0, vR 17), (1, vR 1), (3, vI x3)] [] M := by
  intro nn
  induction nn with
  | zero =>
    intro x3 M out h _
    cases h
  | succ nn ih =>
    intro x3 M out h0 hX
    obtain ⟨w, h, k1, k2⟩ := itr_inv h0
    have h : m_X2_findMateFor_L26 M  x3 = some w := h
    unfold m_X2_findMateFor_L26 at h
    refine r_iload_n dX2_findMateFor_26 rfl 2 rfl ?_
    refine r_bipush dX2_findMateFor_27 (by decide) ?_
    by_cases c8 : wr 100 ≤ wr x3
    · rw [if_pos c8] at h
      refine r_icmp_ge (tgt := 145) dX2_findMateFor_29 (by decide) (fun _ => ?_) (fun q => absurd c8 q)
      cases h
      cases k2 _ rfl
      exact hX1 _ _ hX
    · rw [if_neg c8] at h
      refine r_icmp_ge (tgt := 145) dX2_findMateFor_29 (by decide) (fun q => absurd q c8) (fun _ => ?_)
      refine r_iload_n dX2_findMateFor_32 rfl 2 rfl ?_
      refine r_aload_n dX2_findMateFor_33 rfl 0 rfl ?_
      refine r_getR (j := 3) (v := 21) dX2_findMateFor_34 f_X2_24 rfl rfl rfl ?_
      refine r_getI (j := 2) (jz := 2) dX2_findMateFor_37 f_X2_62 rfl rfl rfl ?_
      by_cases c9 : wr (gI M 21 2) ≤ wr x3
      · rw [if_pos c9] at h
        refine r_icmp_ge (tgt := 145) dX2_findMateFor_40 (by decide) (fun _ => ?_) (fun q => absurd c9 q)
        cases h
        cases k2 _ rfl
        exact hX1 _ _ hX
      · rw [if_neg c9] at h
        refine r_icmp_ge (tgt := 145) dX2_findMateFor_40 (by decide) (fun q => absurd q c9) (fun _ => ?_)
        refine r_aload_n dX2_findMateFor_43 rfl 0 rfl ?_
        refine r_getR (j := 3) (v := 21) dX2_findMateFor_44 f_X2_24 rfl rfl rfl ?_
        refine r_getR (j := 1) (v := 23) dX2_findMateFor_47 f_X2_66 rfl rfl rfl ?_
        refine r_iload_n dX2_findMateFor_50 rfl 2 rfl ?_
        obtain ⟨c10, h⟩ := of_ck h
        refine r_iald dX2_findMateFor_51 rfl c10 ?_
        refine r_istore (lv2 := [(4, vI (gI M 23 (wr x3))), (0, vR 17), (1, vR 1), (3, vI x3)]) dX2_findMateFor_52 (by decide) rfl ?_
        refine r_iconst dX2_findMateFor_54 ?_
        refine r_istore (lv2 := [(5, vI 0), (4, vI (gI M 23 (wr x3))), (0, vR 17), (1, vR 1), (3, vI x3)]) dX2_findMateFor_55 (by decide) rfl ?_
        obtain ⟨w9, h9, h⟩ := of_be2l h
        refine r_sub (lv2 := [(0, vR 17), (1, vR 1), (3, vI x3), (4, vI (gI M 23 (wr x3))), (5, vI 0)]) [2, 3, 4, 1, 0] rfl ?_
        refine lp_X2_findMateFor_L57 x3 (gI M 23 (wr x3))  (fun w => w = w9) ?_ ?_ FU 0 M w9 h9 rfl
        · intro y24 M25 hw
          subst hw
          have h := h.1 _ _  rfl
          refine r_iinc (lv2 := [(3, vI (x3 + 1)), (0, vR 17), (1, vR 1), (4, vI (gI M 23 (wr x3))), (5, vI y24)]) dX2_findMateFor_139 2 rfl (by decide) rfl ?_
          refine r_goto (tgt := 26) dX2_findMateFor_142 (by decide) ?_
          refine r_sub (lv2 := [(0, vR 17), (1, vR 1), (3, vI (x3 + 1))]) [1, 2, 0] rfl ?_
          cases h
          exact ih _ _  _ (k1 _ rfl) hX
        · intro r9 M9 hw
          subst hw
          have h := h.2 _ rfl
          cases h
          cases k2 _ rfl
          exact hX2 _ _ hX

set_option maxRecDepth 10000 in
theorem run_X2_findMateFor {M : Mem} {M2 : Mem} {a2 : Int} {r : Bool}   (h : m_X2_findMateFor M a2 = some (r, M2)) : RunI 2 yX2_findMateFor cX2_findMateFor 7 (some .boolean) [vR 17, vR 1, vI a2] M (bI r) M2 := by
  refine runI_of (lv := [(0, vR 17), (1, vR 1), (2, vI a2)]) (by decide +kernel) (Or.inr ⟨rfl, bI_01 r⟩) (Nat.le_of_ble_eq_true rfl) rfl ?_
  intro G hQ
  unfold m_X2_findMateFor at h
  refine r_aload_n dX2_findMateFor_0 rfl 0 rfl ?_
  refine r_getR (j := 1) (v := 19) dX2_findMateFor_1 f_X2_15 rfl rfl rfl ?_
  refine r_iconst dX2_findMateFor_4 ?_
  obtain ⟨M2, hc1, h⟩ := of_bd1 h
  refine r_callSV (st := []) dX2_findMateFor_5 v_X2_28 (run_J7_fill_53178 (congrArg Prod.fst rfl) hc1) (by decide) (by decide) rfl (Nat.le_of_ble_eq_true rfl) rfl ?_
  refine r_aload_n dX2_findMateFor_8 rfl 0 rfl ?_
  refine r_getR (j := 3) (v := 21) dX2_findMateFor_9 f_X2_24 rfl rfl rfl ?_
  obtain ⟨M4, hc3, h⟩ := of_bd1 h
  refine r_callVV (st := []) dX2_findMateFor_12 v_X2_56 (run_X9_clear rfl hc3) (by decide) (by decide) rfl rfl (Nat.le_of_ble_eq_true rfl) rfl ?_
  refine r_aload_n dX2_findMateFor_15 rfl 0 rfl ?_
  refine r_getR (j := 3) (v := 21) dX2_findMateFor_16 f_X2_24 rfl rfl rfl ?_
  refine r_iload_n dX2_findMateFor_19 rfl 2 rfl ?_
  obtain ⟨b6, M7, hc5, h⟩ := of_bd2 h
  refine r_callVI (st := []) dX2_findMateFor_20 v_X2_59 (run_X9_reach rfl hc5) (by decide) (by decide) rfl rfl (Nat.le_of_ble_eq_true rfl) rfl ?_
  refine r_pop dX2_findMateFor_23 rfl ?_
  refine r_iconst dX2_findMateFor_24 ?_
  refine r_istore_n (lv2 := [(3, vI 0), (0, vR 17), (1, vR 1), (2, vI a2)]) dX2_findMateFor_25 rfl (by decide) rfl ?_
  obtain ⟨w9, h9, h⟩ := of_be2 h
  refine r_sub (lv2 := [(0, vR 17), (1, vR 1), (3, vI 0)]) [1, 2, 0] rfl ?_
  refine lp_X2_findMateFor_L26   (fun w => w = w9) ?_ ?_ FU 0 M7 w9 h9 rfl
  · intro y26 M27 hw
    subst hw
    have h := h.1 _ _  rfl
    refine r_iconst dX2_findMateFor_145 ?_
    cases h
    exact hQ _ _ dX2_findMateFor_146
  · intro r9 M9 hw
    subst hw
    have h := h.2 _ rfl
    cases h
    exact hQ

def m_X2_find_L12 (M : Mem)  (x2 : Int) (x3 : Int) : Option ((Int × Int × Mem) ⊕ (Int × Int × Mem)) :=
  if wr (m_X10_cells M) ≤ wr x3 then
    some (.inr (x2, x3, M))
  else
    if 0 ≤ wr x3 ∧ wr x3 < 64 then
    bd2 (
      if wr (gI M 2 (wr x3)) = 0 then
        some (x2, M)
      else
        bd1 (m_X10_isDark M x3) fun b7 =>
        if wr (bI b7) = 0 then
          some (x2, M)
        else
          bd2 (m_X2_findMateFor M x3) fun b10 M11 =>
          some ((x2 + (m_X11_bit (bI b10))), M11)) fun (v12 : Int) (M13 : Mem) =>
    some (.inl (v12, (x3 + 1), M13))
    else none
def m_X2_find (M : Mem) : Option (Int × Mem) :=
  bd1 (m_J7_fill_53178 M 18 (-1)) fun M2 =>
  bd3 (itr (fun s => m_X2_find_L12 s.2.2  s.1 s.2.1) FU (0, 0, M2)) fun y14 y15 M16 =>
  some (y14, M16)
set_option maxRecDepth 10000 in
theorem lp_X2_find_L12 {G : Gx}    (X : (Int × Int × Mem) → Prop) (hX1 : ∀ (x2 : Int) (x3 : Int) (M : Mem), X (x2, x3, M) → Ex G 3 cX2_find RX2 4 55 [(0, vR 17), (1, vR 1), (2, vI x2), (3, vI x3)] [] M) : ∀ (nn : Nat) (x2 : Int) (x3 : Int) (M : Mem) (out : Int × Int × Mem), itr (fun s => m_X2_find_L12 s.2.2  s.1 s.2.1) nn (x2, x3, M) = some out → X out → Ex G 3 cX2_find RX2 4 12 [(0, vR 17), (1, vR 1), (2, vI x2), (3, vI x3)] [] M := by
  intro nn
  induction nn with
  | zero =>
    intro x2 x3 M out h _
    cases h
  | succ nn ih =>
    intro x2 x3 M out h0 hX
    obtain ⟨w, h, k1, k2⟩ := itr_inv h0
    have h : m_X2_find_L12 M  x2 x3 = some w := h
    unfold m_X2_find_L12 at h
    refine r_iload_n dX2_find_12 rfl 3 rfl ?_
    refine r_aload_n dX2_find_13 rfl 1 rfl ?_
    refine r_callVI (st := [vI x3]) dX2_find_14 v_X2_34 (run_X10_cells rfl) (by decide) (by decide) rfl rfl (Nat.le_of_ble_eq_true rfl) rfl ?_
    by_cases c3 : wr (m_X10_cells M) ≤ wr x3
    · rw [if_pos c3] at h
      refine r_icmp_ge (tgt := 55) dX2_find_17 (by decide) (fun _ => ?_) (fun q => absurd c3 q)
      cases h
      cases k2 _ rfl
      exact hX1 _ _ _ hX
    · rw [if_neg c3] at h
      refine r_icmp_ge (tgt := 55) dX2_find_17 (by decide) (fun q => absurd q c3) (fun _ => ?_)
      refine r_aload_n dX2_find_20 rfl 1 rfl ?_
      refine r_getR (j := 2) (v := 2) dX2_find_21 f_X2_40 rfl rfl rfl ?_
      refine r_iload_n dX2_find_24 rfl 3 rfl ?_
      obtain ⟨c4, h⟩ := of_ck h
      refine r_zald dX2_find_25 rfl c4 ?_
      obtain ⟨v12, M13, h9, h⟩ := of_bd2 h
      have kJ : Ex G 3 cX2_find RX2 4 49 [(0, vR 17), (1, vR 1), (2, vI v12), (3, vI x3)] [] M13 := by
        refine r_iinc (lv2 := [(3, vI (x3 + 1)), (0, vR 17), (1, vR 1), (2, vI v12)]) dX2_find_49 3 rfl (by decide) rfl ?_
        refine r_goto (tgt := 12) dX2_find_52 (by decide) ?_
        refine r_sub (lv2 := [(0, vR 17), (1, vR 1), (2, vI v12), (3, vI (x3 + 1))]) [1, 2, 3, 0] rfl ?_
        cases h
        exact ih _ _ _  _ (k1 _ rfl) hX
      clear h
      have h := h9
      clear h9
      by_cases c5 : wr (gI M 2 (wr x3)) = 0
      · rw [if_pos c5] at h
        refine r_if_eq (tgt := 49) dX2_find_26 (by decide) (fun _ => ?_) (fun q => absurd c5 q)
        cases h
        exact kJ
      · rw [if_neg c5] at h
        refine r_if_eq (tgt := 49) dX2_find_26 (by decide) (fun q => absurd q c5) (fun _ => ?_)
        refine r_aload_n dX2_find_29 rfl 1 rfl ?_
        refine r_iload_n dX2_find_30 rfl 3 rfl ?_
        obtain ⟨b7, hc6, h⟩ := of_bd1 h
        refine r_callVI (st := []) dX2_find_31 v_X2_44 (run_X10_isDark hc6) (by decide) (by decide) rfl rfl (Nat.le_of_ble_eq_true rfl) rfl ?_
        by_cases c8 : wr (bI b7) = 0
        · rw [if_pos c8] at h
          refine r_if_eq (tgt := 49) dX2_find_34 (by decide) (fun _ => ?_) (fun q => absurd c8 q)
          cases h
          exact kJ
        · rw [if_neg c8] at h
          refine r_if_eq (tgt := 49) dX2_find_34 (by decide) (fun q => absurd q c8) (fun _ => ?_)
          refine r_iload_n dX2_find_37 rfl 2 rfl ?_
          refine r_aload_n dX2_find_38 rfl 0 rfl ?_
          refine r_aload_n dX2_find_39 rfl 1 rfl ?_
          refine r_iload_n dX2_find_40 rfl 3 rfl ?_
          obtain ⟨b10, M11, hc9, h⟩ := of_bd2 h
          refine r_callVI (st := [vI x2]) dX2_find_41 v_X2_48 (run_X2_findMateFor hc9) (by decide) (by decide) rfl rfl (Nat.le_of_ble_eq_true rfl) rfl ?_
          refine r_callNI (st := [vI x2]) dX2_find_44 v_X2_52 (run_X11_bit rfl) (by decide) (by decide) rfl (Nat.le_of_ble_eq_true rfl) rfl ?_
          refine r_iadd dX2_find_47 ?_
          refine r_istore_n (lv2 := [(2, vI (x2 + (m_X11_bit (bI b10)))), (0, vR 17), (1, vR 1), (3, vI x3)]) dX2_find_48 rfl (by decide) rfl ?_
          refine r_sub (lv2 := [(0, vR 17), (1, vR 1), (2, vI (x2 + (m_X11_bit (bI b10)))), (3, vI x3)]) [1, 2, 0, 3] rfl ?_
          cases h
          exact kJ

set_option maxRecDepth 10000 in
theorem run_X2_find {M : Mem} {M2 : Mem} {r : Int}   (h : m_X2_find M = some (r, M2)) : RunI 3 yX2_find cX2_find 4 (some .int) [vR 17, vR 1] M r M2 := by
  refine runI_of (lv := [(0, vR 17), (1, vR 1)]) (by decide +kernel) (Or.inl rfl) (Nat.le_of_ble_eq_true rfl) rfl ?_
  intro G hQ
  unfold m_X2_find at h
  refine r_iconst dX2_find_0 ?_
  refine r_istore_n (lv2 := [(2, vI 0), (0, vR 17), (1, vR 1)]) dX2_find_1 rfl (by decide) rfl ?_
  refine r_aload_n dX2_find_2 rfl 1 rfl ?_
  refine r_getR (j := 0) (v := 18) dX2_find_3 f_X2_9 rfl rfl rfl ?_
  refine r_iconst dX2_find_6 ?_
  obtain ⟨M2, hc1, h⟩ := of_bd1 h
  refine r_callSV (st := []) dX2_find_7 v_X2_28 (run_J7_fill_53178 (congrArg Prod.fst rfl) hc1) (by decide) (by decide) rfl (Nat.le_of_ble_eq_true rfl) rfl ?_
  refine r_iconst dX2_find_10 ?_
  refine r_istore_n (lv2 := [(3, vI 0), (2, vI 0), (0, vR 17), (1, vR 1)]) dX2_find_11 rfl (by decide) rfl ?_
  obtain ⟨y14, y15, M16, h9, h⟩ := of_bd3 h
  refine r_sub (lv2 := [(0, vR 17), (1, vR 1), (2, vI 0), (3, vI 0)]) [2, 3, 1, 0] rfl ?_
  refine lp_X2_find_L12   (fun w => w = (y14, y15, M16)) ?_ FU 0 0 M2 _ h9 rfl
  intro z0 z1 z2 hw
  cases hw
  refine r_iload_n dX2_find_55 rfl 2 rfl ?_
  cases h
  exact hQ _ _ dX2_find_56

def m_X2_markBar_L23 (M : Mem) (p2 : Int) (x3 : Int) : Option ((Int × Mem) ⊕ (Int × Mem)) :=
  if wr (m_X10_cells M) ≤ wr x3 then
    some (.inr (x3, M))
  else
    if 0 ≤ wr x3 ∧ wr x3 < 64 then
    bd1 (
      if wr (gI M 2 (wr x3)) = 0 then
        some (M)
      else
        bd1 (m_X10_isDark M x3) fun b12 =>
        if wr (bI b12) = wr p2 then
          if 0 ≤ wr (gI M 18 (wr x3)) then
            some (M)
          else
            bd2 (m_X9_reach M 21 x3) fun b16 M17 =>
            some (M17)
        else
          some (M)) fun (M18 : Mem) =>
    some (.inl ((x3 + 1), M18))
    else none
def m_X2_markBar_L114 (M : Mem) (p3 : Int) (p4 : Int) (x5 : Int) : Option ((Int × Mem) ⊕ (Int × Mem)) :=
  if wr 4 ≤ wr x5 then
    some (.inr (x5, M))
  else
    bd1 (m_X10_beside M p4 x5) fun r28 =>
    bd1 (
      if 0 ≤ wr r28 then
        if 0 ≤ wr r28 ∧ wr r28 < 64 then
        lt (sI M 20 (wr r28) 1) fun M31 =>
        bd2 (m_X9_reach M31 21 (gI M31 18 (wr r28))) fun b33 M34 =>
        some (M34)
        else none
      else
        some (M)) fun (M35 : Mem) =>
    some (.inl ((x5 + 1), M35))
def m_X2_markBar_L75 (M : Mem)  (x3 : Int) : Option ((Int × Mem) ⊕ (Int × Mem)) :=
  if wr 100 ≤ wr x3 then
    some (.inr (x3, M))
  else
    if wr (gI M 21 2) ≤ wr x3 then
      some (.inr (x3, M))
    else
      if 0 ≤ wr x3 ∧ wr x3 < 100 then
      if 0 ≤ wr (gI M 23 (wr x3)) ∧ wr (gI M 23 (wr x3)) < 64 then
      lt (sI M 20 (wr (gI M 23 (wr x3))) 2) fun M25 =>
      bd2 (itr (fun s => m_X2_markBar_L114 s.2 x3 (gI M 23 (wr x3)) s.1) FU (0, M25)) fun y36 M37 =>
      some (.inl ((x3 + 1), M37))
      else none
      else none
def m_X2_markBar (M : Mem) (a2 : Int) : Option (Mem) :=
  bd2 (m_X2_find M) fun r2 M3 =>
  bd1 (m_J7_fill_53178 M3 20 0) fun M5 =>
  bd1 (m_X9_clear M5 21) fun M7 =>
  bd2 (itr (fun s => m_X2_markBar_L23 s.2 a2 s.1) FU (0, M7)) fun y19 M20 =>
  bd2 (itr (fun s => m_X2_markBar_L75 s.2  s.1) FU (0, M20)) fun y38 M39 =>
  some M39
set_option maxRecDepth 10000 in
theorem lp_X2_markBar_L23 {G : Gx} (p2 : Int)   (X : (Int × Mem) → Prop) (hX1 : ∀ (x3 : Int) (M : Mem), X (x3, M) → Ex G 4 cX2_markBar RX2 7 73 [(0, vR 17), (1, vR 1), (2, vI p2), (3, vI x3)] [] M) : ∀ (nn : Nat) (x3 : Int) (M : Mem) (out : Int × Mem), itr (fun s => m_X2_markBar_L23 s.2 p2 s.1) nn (x3, M) = some out → X out → Ex G 4 cX2_markBar RX2 7 23 [(0, vR 17), (1, vR 1), (2, vI p2), (3, vI x3)] [] M := by
  intro nn
  induction nn with
  | zero =>
    intro x3 M out h _
    cases h
  | succ nn ih =>
    intro x3 M out h0 hX
    obtain ⟨w, h, k1, k2⟩ := itr_inv h0
    have h : m_X2_markBar_L23 M p2 x3 = some w := h
    unfold m_X2_markBar_L23 at h
    refine r_iload_n dX2_markBar_23 rfl 3 rfl ?_
    refine r_aload_n dX2_markBar_24 rfl 1 rfl ?_
    refine r_callVI (st := [vI x3]) dX2_markBar_25 v_X2_34 (run_X10_cells rfl) (by decide) (by decide) rfl rfl (Nat.le_of_ble_eq_true rfl) rfl ?_
    by_cases c8 : wr (m_X10_cells M) ≤ wr x3
    · rw [if_pos c8] at h
      refine r_icmp_ge (tgt := 73) dX2_markBar_28 (by decide) (fun _ => ?_) (fun q => absurd c8 q)
      cases h
      cases k2 _ rfl
      exact hX1 _ _ hX
    · rw [if_neg c8] at h
      refine r_icmp_ge (tgt := 73) dX2_markBar_28 (by decide) (fun q => absurd q c8) (fun _ => ?_)
      refine r_aload_n dX2_markBar_31 rfl 1 rfl ?_
      refine r_getR (j := 2) (v := 2) dX2_markBar_32 f_X2_40 rfl rfl rfl ?_
      refine r_iload_n dX2_markBar_35 rfl 3 rfl ?_
      obtain ⟨c9, h⟩ := of_ck h
      refine r_zald dX2_markBar_36 rfl c9 ?_
      obtain ⟨M18, h9, h⟩ := of_bd1 h
      have kJ : Ex G 4 cX2_markBar RX2 7 67 [(0, vR 17), (1, vR 1), (2, vI p2), (3, vI x3)] [] M18 := by
        refine r_iinc (lv2 := [(3, vI (x3 + 1)), (0, vR 17), (1, vR 1), (2, vI p2)]) dX2_markBar_67 3 rfl (by decide) rfl ?_
        refine r_goto (tgt := 23) dX2_markBar_70 (by decide) ?_
        refine r_sub (lv2 := [(0, vR 17), (1, vR 1), (2, vI p2), (3, vI (x3 + 1))]) [1, 2, 3, 0] rfl ?_
        cases h
        exact ih _ _  _ (k1 _ rfl) hX
      clear h
      have h := h9
      clear h9
      by_cases c10 : wr (gI M 2 (wr x3)) = 0
      · rw [if_pos c10] at h
        refine r_if_eq (tgt := 67) dX2_markBar_37 (by decide) (fun _ => ?_) (fun q => absurd c10 q)
        cases h
        exact kJ
      · rw [if_neg c10] at h
        refine r_if_eq (tgt := 67) dX2_markBar_37 (by decide) (fun q => absurd q c10) (fun _ => ?_)
        refine r_aload_n dX2_markBar_40 rfl 1 rfl ?_
        refine r_iload_n dX2_markBar_41 rfl 3 rfl ?_
        obtain ⟨b12, hc11, h⟩ := of_bd1 h
        refine r_callVI (st := []) dX2_markBar_42 v_X2_44 (run_X10_isDark hc11) (by decide) (by decide) rfl rfl (Nat.le_of_ble_eq_true rfl) rfl ?_
        refine r_iload_n dX2_markBar_45 rfl 2 rfl ?_
        by_cases c13 : wr (bI b12) = wr p2
        · rw [if_pos c13] at h
          refine r_icmp_ne (tgt := 67) dX2_markBar_46 (by decide) (fun q => absurd c13 q) (fun _ => ?_)
          refine r_aload_n dX2_markBar_49 rfl 0 rfl ?_
          refine r_getR (j := 0) (v := 18) dX2_markBar_50 f_X2_9 rfl rfl rfl ?_
          refine r_iload_n dX2_markBar_53 rfl 3 rfl ?_
          refine r_iald dX2_markBar_54 rfl c9 ?_
          by_cases c14 : 0 ≤ wr (gI M 18 (wr x3))
          · rw [if_pos c14] at h
            refine r_if_ge (tgt := 67) dX2_markBar_55 (by decide) (fun _ => ?_) (fun q => absurd c14 q)
            cases h
            exact kJ
          · rw [if_neg c14] at h
            refine r_if_ge (tgt := 67) dX2_markBar_55 (by decide) (fun q => absurd q c14) (fun _ => ?_)
            refine r_aload_n dX2_markBar_58 rfl 0 rfl ?_
            refine r_getR (j := 3) (v := 21) dX2_markBar_59 f_X2_24 rfl rfl rfl ?_
            refine r_iload_n dX2_markBar_62 rfl 3 rfl ?_
            obtain ⟨b16, M17, hc15, h⟩ := of_bd2 h
            refine r_callVI (st := []) dX2_markBar_63 v_X2_59 (run_X9_reach rfl hc15) (by decide) (by decide) rfl rfl (Nat.le_of_ble_eq_true rfl) rfl ?_
            refine r_pop dX2_markBar_66 rfl ?_
            cases h
            exact kJ
        · rw [if_neg c13] at h
          refine r_icmp_ne (tgt := 67) dX2_markBar_46 (by decide) (fun _ => ?_) (fun q => absurd q c13)
          cases h
          exact kJ

set_option maxRecDepth 10000 in
theorem lp_X2_markBar_L114 {G : Gx} (p3 : Int) (p4 : Int)   (X : (Int × Mem) → Prop) (hX1 : ∀ (x5 : Int) (M : Mem), X (x5, M) → Ex G 4 cX2_markBar RX2 7 167 [(0, vR 17), (1, vR 1), (3, vI p3), (4, vI p4), (5, vI x5)] [] M) : ∀ (nn : Nat) (x5 : Int) (M : Mem) (out : Int × Mem), itr (fun s => m_X2_markBar_L114 s.2 p3 p4 s.1) nn (x5, M) = some out → X out → Ex G 4 cX2_markBar RX2 7 114 [(0, vR 17), (1, vR 1), (3, vI p3), (4, vI p4), (5, vI x5)] [] M := by
  intro nn
  induction nn with
  | zero =>
    intro x5 M out h _
    cases h
  | succ nn ih =>
    intro x5 M out h0 hX
    obtain ⟨w, h, k1, k2⟩ := itr_inv h0
    have h : m_X2_markBar_L114 M p3 p4 x5 = some w := h
    unfold m_X2_markBar_L114 at h
    refine r_iload dX2_markBar_114 4 rfl ?_
    refine r_iconst dX2_markBar_116 ?_
    by_cases c26 : wr 4 ≤ wr x5
    · rw [if_pos c26] at h
      refine r_icmp_ge (tgt := 167) dX2_markBar_117 (by decide) (fun _ => ?_) (fun q => absurd c26 q)
      cases h
      cases k2 _ rfl
      exact hX1 _ _ hX
    · rw [if_neg c26] at h
      refine r_icmp_ge (tgt := 167) dX2_markBar_117 (by decide) (fun q => absurd q c26) (fun _ => ?_)
      refine r_aload_n dX2_markBar_120 rfl 1 rfl ?_
      refine r_iload dX2_markBar_121 3 rfl ?_
      refine r_iload dX2_markBar_123 4 rfl ?_
      obtain ⟨r28, hc27, h⟩ := of_bd1 h
      refine r_callVI (st := []) dX2_markBar_125 v_X2_69 (run_X10_beside hc27) (by decide) (by decide) rfl rfl (Nat.le_of_ble_eq_true rfl) rfl ?_
      refine r_istore (lv2 := [(6, vI r28), (0, vR 17), (1, vR 1), (3, vI p3), (4, vI p4), (5, vI x5)]) dX2_markBar_128 (by decide) rfl ?_
      refine r_iload dX2_markBar_130 0 rfl ?_
      obtain ⟨M35, h9, h⟩ := of_bd1 h
      have kJ : Ex G 4 cX2_markBar RX2 7 161 [(0, vR 17), (1, vR 1), (3, vI p3), (4, vI p4), (5, vI x5)] [] M35 := by
        refine r_iinc (lv2 := [(5, vI (x5 + 1)), (0, vR 17), (1, vR 1), (3, vI p3), (4, vI p4)]) dX2_markBar_161 4 rfl (by decide) rfl ?_
        refine r_goto (tgt := 114) dX2_markBar_164 (by decide) ?_
        refine r_sub (lv2 := [(0, vR 17), (1, vR 1), (3, vI p3), (4, vI p4), (5, vI (x5 + 1))]) [1, 2, 3, 4, 0] rfl ?_
        cases h
        exact ih _ _  _ (k1 _ rfl) hX
      clear h
      have h := h9
      clear h9
      by_cases c29 : 0 ≤ wr r28
      · rw [if_pos c29] at h
        refine r_if_ge (tgt := 138) dX2_markBar_132 (by decide) (fun _ => ?_) (fun q => absurd c29 q)
        refine r_aload_n dX2_markBar_138 rfl 1 rfl ?_
        refine r_getR (j := 2) (v := 20) dX2_markBar_139 f_X2_18 rfl rfl rfl ?_
        refine r_iload dX2_markBar_142 0 rfl ?_
        refine r_iconst dX2_markBar_144 ?_
        obtain ⟨c30, h⟩ := of_ck h
        obtain ⟨M31, eM31, h⟩ := of_lt h
        refine r_iast dX2_markBar_145 rfl c30 ?_
        rw [← eM31]
        refine r_aload_n dX2_markBar_146 rfl 1 rfl ?_
        refine r_getR (j := 3) (v := 21) dX2_markBar_147 f_X2_24 rfl rfl rfl ?_
        refine r_aload_n dX2_markBar_150 rfl 1 rfl ?_
        refine r_getR (j := 0) (v := 18) dX2_markBar_151 f_X2_9 rfl rfl rfl ?_
        refine r_iload dX2_markBar_154 0 rfl ?_
        refine r_iald dX2_markBar_156 rfl c30 ?_
        obtain ⟨b33, M34, hc32, h⟩ := of_bd2 h
        refine r_callVI (st := []) dX2_markBar_157 v_X2_59 (run_X9_reach rfl hc32) (by decide) (by decide) rfl rfl (Nat.le_of_ble_eq_true rfl) rfl ?_
        refine r_pop dX2_markBar_160 rfl ?_
        refine r_sub (lv2 := [(0, vR 17), (1, vR 1), (3, vI p3), (4, vI p4), (5, vI x5)]) [1, 2, 3, 4, 5] rfl ?_
        cases h
        exact kJ
      · rw [if_neg c29] at h
        refine r_if_ge (tgt := 138) dX2_markBar_132 (by decide) (fun q => absurd q c29) (fun _ => ?_)
        refine r_goto (tgt := 161) dX2_markBar_135 (by decide) ?_
        refine r_sub (lv2 := [(0, vR 17), (1, vR 1), (3, vI p3), (4, vI p4), (5, vI x5)]) [1, 2, 3, 4, 5] rfl ?_
        cases h
        exact kJ

set_option maxRecDepth 10000 in
theorem lp_X2_markBar_L75 {G : Gx}    (X : (Int × Mem) → Prop) (hX1 : ∀ (x3 : Int) (M : Mem), X (x3, M) → Ex G 4 cX2_markBar RX2 7 173 [(0, vR 17), (1, vR 1), (3, vI x3)] [] M) : ∀ (nn : Nat) (x3 : Int) (M : Mem) (out : Int × Mem), itr (fun s => m_X2_markBar_L75 s.2  s.1) nn (x3, M) = some out → X out → Ex G 4 cX2_markBar RX2 7 75 [(0, vR 17), (1, vR 1), (3, vI x3)] [] M := by
  intro nn
  induction nn with
  | zero =>
    intro x3 M out h _
    cases h
  | succ nn ih =>
    intro x3 M out h0 hX
    obtain ⟨w, h, k1, k2⟩ := itr_inv h0
    have h : m_X2_markBar_L75 M  x3 = some w := h
    unfold m_X2_markBar_L75 at h
    refine r_iload_n dX2_markBar_75 rfl 2 rfl ?_
    refine r_bipush dX2_markBar_76 (by decide) ?_
    by_cases c21 : wr 100 ≤ wr x3
    · rw [if_pos c21] at h
      refine r_icmp_ge (tgt := 173) dX2_markBar_78 (by decide) (fun _ => ?_) (fun q => absurd c21 q)
      cases h
      cases k2 _ rfl
      exact hX1 _ _ hX
    · rw [if_neg c21] at h
      refine r_icmp_ge (tgt := 173) dX2_markBar_78 (by decide) (fun q => absurd q c21) (fun _ => ?_)
      refine r_iload_n dX2_markBar_81 rfl 2 rfl ?_
      refine r_aload_n dX2_markBar_82 rfl 0 rfl ?_
      refine r_getR (j := 3) (v := 21) dX2_markBar_83 f_X2_24 rfl rfl rfl ?_
      refine r_getI (j := 2) (jz := 2) dX2_markBar_86 f_X2_62 rfl rfl rfl ?_
      by_cases c22 : wr (gI M 21 2) ≤ wr x3
      · rw [if_pos c22] at h
        refine r_icmp_ge (tgt := 173) dX2_markBar_89 (by decide) (fun _ => ?_) (fun q => absurd c22 q)
        cases h
        cases k2 _ rfl
        exact hX1 _ _ hX
      · rw [if_neg c22] at h
        refine r_icmp_ge (tgt := 173) dX2_markBar_89 (by decide) (fun q => absurd q c22) (fun _ => ?_)
        refine r_aload_n dX2_markBar_92 rfl 0 rfl ?_
        refine r_getR (j := 3) (v := 21) dX2_markBar_93 f_X2_24 rfl rfl rfl ?_
        refine r_getR (j := 1) (v := 23) dX2_markBar_96 f_X2_66 rfl rfl rfl ?_
        refine r_iload_n dX2_markBar_99 rfl 2 rfl ?_
        obtain ⟨c23, h⟩ := of_ck h
        refine r_iald dX2_markBar_100 rfl c23 ?_
        refine r_istore (lv2 := [(4, vI (gI M 23 (wr x3))), (0, vR 17), (1, vR 1), (3, vI x3)]) dX2_markBar_101 (by decide) rfl ?_
        refine r_aload_n dX2_markBar_103 rfl 1 rfl ?_
        refine r_getR (j := 2) (v := 20) dX2_markBar_104 f_X2_18 rfl rfl rfl ?_
        refine r_iload dX2_markBar_107 0 rfl ?_
        refine r_iconst dX2_markBar_109 ?_
        obtain ⟨c24, h⟩ := of_ck h
        obtain ⟨M25, eM25, h⟩ := of_lt h
        refine r_iast dX2_markBar_110 rfl c24 ?_
        rw [← eM25]
        refine r_iconst dX2_markBar_111 ?_
        refine r_istore (lv2 := [(5, vI 0), (4, vI (gI M 23 (wr x3))), (0, vR 17), (1, vR 1), (3, vI x3)]) dX2_markBar_112 (by decide) rfl ?_
        obtain ⟨y36, M37, h9, h⟩ := of_bd2 h
        refine r_sub (lv2 := [(0, vR 17), (1, vR 1), (3, vI x3), (4, vI (gI M 23 (wr x3))), (5, vI 0)]) [2, 3, 4, 1, 0] rfl ?_
        refine lp_X2_markBar_L114 x3 (gI M 23 (wr x3))  (fun w => w = (y36, M37)) ?_ FU 0 M25 _ h9 rfl
        intro z0 z1 hw
        cases hw
        refine r_iinc (lv2 := [(3, vI (x3 + 1)), (0, vR 17), (1, vR 1), (4, vI (gI M 23 (wr x3))), (5, vI y36)]) dX2_markBar_167 2 rfl (by decide) rfl ?_
        refine r_goto (tgt := 75) dX2_markBar_170 (by decide) ?_
        refine r_sub (lv2 := [(0, vR 17), (1, vR 1), (3, vI (x3 + 1))]) [1, 2, 0] rfl ?_
        cases h
        exact ih _ _  _ (k1 _ rfl) hX

set_option maxRecDepth 10000 in
theorem run_X2_markBar {M : Mem} {M2 : Mem} {a2 : Int}   (h : m_X2_markBar M a2 = some (M2)) : RunV 4 yX2_markBar cX2_markBar 7 none [vR 17, vR 1, vI a2] M M2 := by
  refine runV_of (lv := [(0, vR 17), (1, vR 1), (2, vI a2)]) (by decide +kernel) rfl (Nat.le_of_ble_eq_true rfl) rfl ?_
  intro G hQ
  unfold m_X2_markBar at h
  refine r_aload_n dX2_markBar_0 rfl 0 rfl ?_
  refine r_aload_n dX2_markBar_1 rfl 1 rfl ?_
  obtain ⟨r2, M3, hc1, h⟩ := of_bd2 h
  refine r_callVI (st := []) dX2_markBar_2 v_X2_77 (run_X2_find hc1) (by decide) (by decide) rfl rfl (Nat.le_of_ble_eq_true rfl) rfl ?_
  refine r_pop dX2_markBar_5 rfl ?_
  refine r_aload_n dX2_markBar_6 rfl 0 rfl ?_
  refine r_getR (j := 2) (v := 20) dX2_markBar_7 f_X2_18 rfl rfl rfl ?_
  refine r_iconst dX2_markBar_10 ?_
  obtain ⟨M5, hc4, h⟩ := of_bd1 h
  refine r_callSV (st := []) dX2_markBar_11 v_X2_28 (run_J7_fill_53178 (congrArg Prod.fst rfl) hc4) (by decide) (by decide) rfl (Nat.le_of_ble_eq_true rfl) rfl ?_
  refine r_aload_n dX2_markBar_14 rfl 0 rfl ?_
  refine r_getR (j := 3) (v := 21) dX2_markBar_15 f_X2_24 rfl rfl rfl ?_
  obtain ⟨M7, hc6, h⟩ := of_bd1 h
  refine r_callVV (st := []) dX2_markBar_18 v_X2_56 (run_X9_clear rfl hc6) (by decide) (by decide) rfl rfl (Nat.le_of_ble_eq_true rfl) rfl ?_
  refine r_iconst dX2_markBar_21 ?_
  refine r_istore_n (lv2 := [(3, vI 0), (0, vR 17), (1, vR 1), (2, vI a2)]) dX2_markBar_22 rfl (by decide) rfl ?_
  obtain ⟨y19, M20, h9, h⟩ := of_bd2 h
  refine r_sub (lv2 := [(0, vR 17), (1, vR 1), (2, vI a2), (3, vI 0)]) [1, 2, 3, 0] rfl ?_
  refine lp_X2_markBar_L23 a2  (fun w => w = (y19, M20)) ?_ FU 0 M7 _ h9 rfl
  intro z0 z1 hw
  cases hw
  refine r_iconst dX2_markBar_73 ?_
  refine r_istore_n (lv2 := [(3, vI 0), (0, vR 17), (1, vR 1), (2, vI a2)]) dX2_markBar_74 rfl (by decide) rfl ?_
  obtain ⟨y38, M39, h9, h⟩ := of_bd2 h
  refine r_sub (lv2 := [(0, vR 17), (1, vR 1), (3, vI 0)]) [1, 2, 0] rfl ?_
  refine lp_X2_markBar_L75   (fun w => w = (y38, M39)) ?_ FU 0 M20 _ h9 rfl
  intro z0 z1 hw
  cases hw
  cases h
  exact hQ _ _ dX2_markBar_173

