def m_X12_sumBy (M : Mem) (a1 : Int) (a2 : Int) (a3 : Int) : Option (Int) :=
  if 0 ≤ wr ((256 * (a2 + 1)) + (sar a3 1)) ∧ wr ((256 * (a2 + 1)) + (sar a3 1)) < 16640 then
  if 0 ≤ wr a1 ∧ wr a1 < 128 then
  lt (if wr (gI M 63 (wr a1)) = 0 then 1000000 else (if wr (gI M 65 (wr ((256 * (a2 + 1)) + (sar a3 1)))) < wr 1000000 then ((gI M 58 (wr a1)) + (gI M 65 (wr ((256 * (a2 + 1)) + (sar a3 1))))) else 1000000)) fun (v5 : Int) =>
  some v5
  else none
  else none
set_option maxRecDepth 10000 in
theorem run_X12_sumBy {M : Mem} {a1 : Int} {a2 : Int} {a3 : Int} {r : Int}   (h : m_X12_sumBy M a1 a2 a3 = some r) : RunI 0 yX12_sumBy cX12_sumBy 5 (some .int) [vR 55, vI a1, vI a2, vI a3] M r M := by
  refine runI_of (lv := [(0, vR 55), (1, vI a1), (2, vI a2), (3, vI a3)]) (by decide +kernel) (Or.inl rfl) (Nat.le_of_ble_eq_true rfl) rfl ?_
  intro G hQ
  unfold m_X12_sumBy at h
  refine r_aload_n dX12_sumBy_0 rfl 0 rfl ?_
  refine r_getR (j := 13) (v := 65) dX12_sumBy_1 f_X12_39 rfl rfl rfl ?_
  refine r_sipush dX12_sumBy_4 (by decide) ?_
  refine r_iload_n dX12_sumBy_7 rfl 2 rfl ?_
  refine r_iconst dX12_sumBy_8 ?_
  refine r_iadd dX12_sumBy_9 ?_
  refine r_imul dX12_sumBy_10 ?_
  refine r_iload_n dX12_sumBy_11 rfl 3 rfl ?_
  refine r_iconst dX12_sumBy_12 ?_
  refine r_ishr dX12_sumBy_13 ?_
  refine r_iadd dX12_sumBy_14 ?_
  obtain ⟨c1, h⟩ := of_ck h
  refine r_iald dX12_sumBy_15 rfl c1 ?_
  refine r_istore (lv2 := [(4, vI (gI M 65 (wr ((256 * (a2 + 1)) + (sar a3 1))))), (0, vR 55), (1, vI a1), (2, vI a2), (3, vI a3)]) dX12_sumBy_16 (by decide) rfl ?_
  refine r_aload_n dX12_sumBy_18 rfl 1 rfl ?_
  refine r_getR (j := 11) (v := 63) dX12_sumBy_19 f_X12_32 rfl rfl rfl ?_
  refine r_iload_n dX12_sumBy_22 rfl 2 rfl ?_
  obtain ⟨c2, h⟩ := of_ck h
  refine r_zald dX12_sumBy_23 rfl c2 ?_
  obtain ⟨v5, ev5, h⟩ := of_lt h
  have kJ : Ex G 0 cX12_sumBy RX12 5 48 [] [vI v5] M := by
    cases h
    exact hQ _ _ dX12_sumBy_48
  clear h
  by_cases c3 : wr (gI M 63 (wr a1)) = 0
  · skip
    refine r_if_eq (tgt := 34) dX12_sumBy_24 (by decide) (fun _ => ?_) (fun q => absurd c3 q)
    refine r_ldc (v := 1000000) dX12_sumBy_34 k_X12_198 ?_
    refine r_goto (tgt := 48) dX12_sumBy_36 (by decide) ?_
    rw [show v5 = 1000000 from by rw [ev5, if_pos c3]] at kJ
    refine r_sub (lv2 := []) [] rfl ?_
    exact kJ
  · skip
    refine r_if_eq (tgt := 34) dX12_sumBy_24 (by decide) (fun q => absurd q c3) (fun _ => ?_)
    refine r_iload dX12_sumBy_27 0 rfl ?_
    refine r_ldc (v := 1000000) dX12_sumBy_29 k_X12_198 ?_
    by_cases c4 : wr (gI M 65 (wr ((256 * (a2 + 1)) + (sar a3 1)))) < wr 1000000
    · skip
      refine r_icmp_lt (tgt := 39) dX12_sumBy_31 (by decide) (fun _ => ?_) (fun q => absurd c4 q)
      refine r_aload_n dX12_sumBy_39 rfl 1 rfl ?_
      refine r_getR (j := 4) (v := 58) dX12_sumBy_40 f_X12_17 rfl rfl rfl ?_
      refine r_iload_n dX12_sumBy_43 rfl 2 rfl ?_
      refine r_iald dX12_sumBy_44 rfl c2 ?_
      refine r_iload dX12_sumBy_45 0 rfl ?_
      refine r_iadd dX12_sumBy_47 ?_
      rw [show v5 = ((gI M 58 (wr a1)) + (gI M 65 (wr ((256 * (a2 + 1)) + (sar a3 1))))) from by rw [ev5, if_neg c3, if_pos c4]] at kJ
      refine r_sub (lv2 := []) [] rfl ?_
      exact kJ
    · skip
      refine r_icmp_lt (tgt := 39) dX12_sumBy_31 (by decide) (fun q => absurd q c4) (fun _ => ?_)
      refine r_ldc (v := 1000000) dX12_sumBy_34 k_X12_198 ?_
      refine r_goto (tgt := 48) dX12_sumBy_36 (by decide) ?_
      rw [show v5 = 1000000 from by rw [ev5, if_neg c3, if_neg c4]] at kJ
      refine r_sub (lv2 := []) [] rfl ?_
      exact kJ

def m_X12_eastSum (M : Mem) (a1 : Int) (a2 : Int) : Option (Int) :=
  bd1 (
    if wr (iand a2 2) = 0 then
      bd1 (m_X12_sumBy M (2 * a1) a1 (ior a2 2)) fun r3 =>
      some (r3)
    else
      some (1000000)) fun (v4 : Int) =>
  some v4
set_option maxRecDepth 10000 in
theorem run_X12_eastSum {M : Mem} {a1 : Int} {a2 : Int} {r : Int}   (h : m_X12_eastSum M a1 a2 = some r) : RunI 1 yX12_eastSum cX12_eastSum 3 (some .int) [vR 55, vI a1, vI a2] M r M := by
  refine runI_of (lv := [(0, vR 55), (1, vI a1), (2, vI a2)]) (by decide +kernel) (Or.inl rfl) (Nat.le_of_ble_eq_true rfl) rfl ?_
  intro G hQ
  unfold m_X12_eastSum at h
  refine r_iload_n dX12_eastSum_0 rfl 2 rfl ?_
  refine r_iconst dX12_eastSum_1 ?_
  refine r_iand dX12_eastSum_2 ?_
  obtain ⟨v4, h9, h⟩ := of_bd1 h
  have kJ : Ex G 1 cX12_eastSum RX12 3 22 [] [vI v4] M := by
    cases h
    exact hQ _ _ dX12_eastSum_22
  clear h
  have h := h9
  clear h9
  by_cases c1 : wr (iand a2 2) = 0
  · rw [if_pos c1] at h
    refine r_if_ne (tgt := 20) dX12_eastSum_3 (by decide) (fun q => absurd c1 q) (fun _ => ?_)
    refine r_aload_n dX12_eastSum_6 rfl 0 rfl ?_
    refine r_iconst dX12_eastSum_7 ?_
    refine r_iload_n dX12_eastSum_8 rfl 1 rfl ?_
    refine r_imul dX12_eastSum_9 ?_
    refine r_iload_n dX12_eastSum_10 rfl 1 rfl ?_
    refine r_iload_n dX12_eastSum_11 rfl 2 rfl ?_
    refine r_iconst dX12_eastSum_12 ?_
    refine r_ior dX12_eastSum_13 ?_
    obtain ⟨r3, hc2, h⟩ := of_bd1 h
    refine r_callVI (st := []) dX12_eastSum_14 v_X12_199 (run_X12_sumBy hc2) (by decide) (by decide) rfl rfl (Nat.le_of_ble_eq_true rfl) rfl ?_
    refine r_goto (tgt := 22) dX12_eastSum_17 (by decide) ?_
    refine r_sub (lv2 := []) [] rfl ?_
    cases h
    exact kJ
  · rw [if_neg c1] at h
    refine r_if_ne (tgt := 20) dX12_eastSum_3 (by decide) (fun _ => ?_) (fun q => absurd q c1)
    refine r_ldc (v := 1000000) dX12_eastSum_20 k_X12_198 ?_
    refine r_sub (lv2 := []) [] rfl ?_
    cases h
    exact kJ

def m_X12_sums_L12 (M : Mem) (p1 : Int) (x2 : Int) : Option ((Int × Mem) ⊕ (Int × Mem)) :=
  if wr (shl 1 (gI M 55 0)) ≤ wr x2 then
    some (.inr (x2, M))
  else
    lt (if wr x2 = 0 then 0 else 1000000) fun (v3 : Int) =>
    if 0 ≤ wr ((256 * p1) + x2) ∧ wr ((256 * p1) + x2) < 16640 then
    lt (sI M 65 (wr ((256 * p1) + x2)) v3) fun M5 =>
    some (.inl ((x2 + 1), M5))
    else none
def m_X12_sums_L60 (M : Mem) (p2 : Int) (x3 : Int) : Option ((Int × Mem) ⊕ (Int × Mem)) :=
  if wr (shl 1 (gI M 55 0)) ≤ wr x3 then
    some (.inr (x3, M))
  else
    if 0 ≤ wr p2 ∧ wr p2 < 64 then
    bd1 (
      if wr (gI M 56 (wr p2)) = 0 then
        bd1 (
          if wr (gI M 56 (wr p2)) = 0 then
            if wr (iand x3 1) = wr 1 then
              some (1000000)
            else
              if 0 ≤ wr ((256 * (p2 + 1)) + (sar x3 1)) ∧ wr ((256 * (p2 + 1)) + (sar x3 1)) < 16640 then
              some ((gI M 65 (wr ((256 * (p2 + 1)) + (sar x3 1)))))
              else none
          else
            if 0 ≤ wr ((256 * (p2 + 1)) + (sar x3 1)) ∧ wr ((256 * (p2 + 1)) + (sar x3 1)) < 16640 then
            some ((gI M 65 (wr ((256 * (p2 + 1)) + (sar x3 1)))))
            else none) fun (v16 : Int) =>
        some (v16)
      else
        if wr (iand x3 1) = wr 1 then
          bd1 (
            if wr (gI M 56 (wr p2)) = 0 then
              if wr (iand x3 1) = wr 1 then
                some (1000000)
              else
                if 0 ≤ wr ((256 * (p2 + 1)) + (sar x3 1)) ∧ wr ((256 * (p2 + 1)) + (sar x3 1)) < 16640 then
                some ((gI M 65 (wr ((256 * (p2 + 1)) + (sar x3 1)))))
                else none
            else
              if 0 ≤ wr ((256 * (p2 + 1)) + (sar x3 1)) ∧ wr ((256 * (p2 + 1)) + (sar x3 1)) < 16640 then
              some ((gI M 65 (wr ((256 * (p2 + 1)) + (sar x3 1)))))
              else none) fun (v28 : Int) =>
          some (v28)
        else
          bd1 (m_X12_eastSum M p2 x3) fun r19 =>
          bd1 (m_X12_sumBy M ((2 * p2) + 1) p2 (ior x3 (shl 1 (gI M 55 0)))) fun r21 =>
          lt (if wr r21 < wr r19 then r21 else r19) fun (v23 : Int) =>
          some (v23)) fun (v29 : Int) =>
    if 0 ≤ wr ((256 * p2) + x3) ∧ wr ((256 * p2) + x3) < 16640 then
    lt (sI M 65 (wr ((256 * p2) + x3)) v29) fun M31 =>
    some (.inl ((x3 + 1), M31))
    else none
    else none
def m_X12_sums_L54 (M : Mem)  (x2 : Int) : Option ((Int × Mem) ⊕ (Int × Mem)) :=
  if wr x2 < 0 then
    some (.inr (x2, M))
  else
    bd2 (itr (fun s => m_X12_sums_L60 s.2 x2 s.1) FU (0, M)) fun y32 M33 =>
    some (.inl ((x2 + (-1)), M33))
def m_X12_sums (M : Mem) : Option (Mem) :=
  bd2 (itr (fun s => m_X12_sums_L12 s.2 ((gI M 55 0) * (gI M 55 1)) s.1) FU (0, M)) fun y6 M7 =>
  bd2 (itr (fun s => m_X12_sums_L54 s.2  s.1) FU ((((gI M 55 0) * (gI M 55 1)) - 1), M7)) fun y34 M35 =>
  some M35
set_option maxRecDepth 10000 in
theorem lp_X12_sums_L12 {G : Gx} (p1 : Int)   (X : (Int × Mem) → Prop) (hX1 : ∀ (x2 : Int) (M : Mem), X (x2, M) → Ex G 2 cX12_sums RX12 7 50 [(0, vR 55), (1, vI p1), (2, vI x2)] [] M) : ∀ (nn : Nat) (x2 : Int) (M : Mem) (out : Int × Mem), itr (fun s => m_X12_sums_L12 s.2 p1 s.1) nn (x2, M) = some out → X out → Ex G 2 cX12_sums RX12 7 12 [(0, vR 55), (1, vI p1), (2, vI x2)] [] M := by
  intro nn
  induction nn with
  | zero =>
    intro x2 M out h _
    cases h
  | succ nn ih =>
    intro x2 M out h0 hX
    obtain ⟨w, h, k1, k2⟩ := itr_inv h0
    have h : m_X12_sums_L12 M p1 x2 = some w := h
    unfold m_X12_sums_L12 at h
    refine r_iload_n dX12_sums_12 rfl 2 rfl ?_
    refine r_iconst dX12_sums_13 ?_
    refine r_aload_n dX12_sums_14 rfl 0 rfl ?_
    refine r_getI (j := 0) (jz := 0) dX12_sums_15 f_X12_88 rfl rfl rfl ?_
    refine r_ishl dX12_sums_18 ?_
    by_cases c1 : wr (shl 1 (gI M 55 0)) ≤ wr x2
    · rw [if_pos c1] at h
      refine r_icmp_ge (tgt := 50) dX12_sums_19 (by decide) (fun _ => ?_) (fun q => absurd c1 q)
      cases h
      cases k2 _ rfl
      exact hX1 _ _ hX
    · rw [if_neg c1] at h
      refine r_icmp_ge (tgt := 50) dX12_sums_19 (by decide) (fun q => absurd q c1) (fun _ => ?_)
      refine r_aload_n dX12_sums_22 rfl 0 rfl ?_
      refine r_getR (j := 13) (v := 65) dX12_sums_23 f_X12_39 rfl rfl rfl ?_
      refine r_sipush dX12_sums_26 (by decide) ?_
      refine r_iload_n dX12_sums_29 rfl 1 rfl ?_
      refine r_imul dX12_sums_30 ?_
      refine r_iload_n dX12_sums_31 rfl 2 rfl ?_
      refine r_iadd dX12_sums_32 ?_
      refine r_iload_n dX12_sums_33 rfl 2 rfl ?_
      obtain ⟨v3, ev3, h⟩ := of_lt h
      have kJ : Ex G 2 cX12_sums RX12 7 43 [(0, vR 55), (1, vI p1), (2, vI x2)] [vI v3, vI ((256 * p1) + x2), vR 65] M := by
        obtain ⟨c4, h⟩ := of_ck h
        obtain ⟨M5, eM5, h⟩ := of_lt h
        refine r_iast dX12_sums_43 rfl c4 ?_
        rw [← eM5]
        refine r_iinc (lv2 := [(2, vI (x2 + 1)), (0, vR 55), (1, vI p1)]) dX12_sums_44 2 rfl (by decide) rfl ?_
        refine r_goto (tgt := 12) dX12_sums_47 (by decide) ?_
        refine r_sub (lv2 := [(0, vR 55), (1, vI p1), (2, vI (x2 + 1))]) [1, 2, 0] rfl ?_
        cases h
        exact ih _ _  _ (k1 _ rfl) hX
      clear h
      by_cases c2 : wr x2 = 0
      · skip
        refine r_if_ne (tgt := 41) dX12_sums_34 (by decide) (fun q => absurd c2 q) (fun _ => ?_)
        refine r_iconst dX12_sums_37 ?_
        refine r_goto (tgt := 43) dX12_sums_38 (by decide) ?_
        rw [show v3 = 0 from by rw [ev3, if_pos c2]] at kJ
        exact kJ
      · skip
        refine r_if_ne (tgt := 41) dX12_sums_34 (by decide) (fun _ => ?_) (fun q => absurd q c2)
        refine r_ldc (v := 1000000) dX12_sums_41 k_X12_198 ?_
        rw [show v3 = 1000000 from by rw [ev3, if_neg c2]] at kJ
        exact kJ

set_option maxRecDepth 10000 in
theorem lp_X12_sums_L60 {G : Gx} (p2 : Int)   (X : (Int × Mem) → Prop) (hX1 : ∀ (x3 : Int) (M : Mem), X (x3, M) → Ex G 2 cX12_sums RX12 7 192 [(0, vR 55), (2, vI p2), (3, vI x3)] [] M) : ∀ (nn : Nat) (x3 : Int) (M : Mem) (out : Int × Mem), itr (fun s => m_X12_sums_L60 s.2 p2 s.1) nn (x3, M) = some out → X out → Ex G 2 cX12_sums RX12 7 60 [(0, vR 55), (2, vI p2), (3, vI x3)] [] M := by
  intro nn
  induction nn with
  | zero =>
    intro x3 M out h _
    cases h
  | succ nn ih =>
    intro x3 M out h0 hX
    obtain ⟨w, h, k1, k2⟩ := itr_inv h0
    have h : m_X12_sums_L60 M p2 x3 = some w := h
    unfold m_X12_sums_L60 at h
    refine r_iload_n dX12_sums_60 rfl 2 rfl ?_
    refine r_iconst dX12_sums_61 ?_
    refine r_aload_n dX12_sums_62 rfl 0 rfl ?_
    refine r_getI (j := 0) (jz := 0) dX12_sums_63 f_X12_88 rfl rfl rfl ?_
    refine r_ishl dX12_sums_66 ?_
    by_cases c9 : wr (shl 1 (gI M 55 0)) ≤ wr x3
    · rw [if_pos c9] at h
      refine r_icmp_ge (tgt := 192) dX12_sums_67 (by decide) (fun _ => ?_) (fun q => absurd c9 q)
      cases h
      cases k2 _ rfl
      exact hX1 _ _ hX
    · rw [if_neg c9] at h
      refine r_icmp_ge (tgt := 192) dX12_sums_67 (by decide) (fun q => absurd q c9) (fun _ => ?_)
      refine r_aload_n dX12_sums_70 rfl 0 rfl ?_
      refine r_getR (j := 2) (v := 56) dX12_sums_71 f_X12_7 rfl rfl rfl ?_
      refine r_iload_n dX12_sums_74 rfl 1 rfl ?_
      obtain ⟨c10, h⟩ := of_ck h
      refine r_zald dX12_sums_75 rfl c10 ?_
      obtain ⟨v29, h9, h⟩ := of_bd1 h
      have kJ : Ex G 2 cX12_sums RX12 7 172 [(0, vR 55), (2, vI p2), (3, vI x3), (4, vI v29)] [] M := by
        refine r_aload_n dX12_sums_172 rfl 0 rfl ?_
        refine r_getR (j := 13) (v := 65) dX12_sums_173 f_X12_39 rfl rfl rfl ?_
        refine r_sipush dX12_sums_176 (by decide) ?_
        refine r_iload_n dX12_sums_179 rfl 1 rfl ?_
        refine r_imul dX12_sums_180 ?_
        refine r_iload_n dX12_sums_181 rfl 2 rfl ?_
        refine r_iadd dX12_sums_182 ?_
        refine r_iload dX12_sums_183 3 rfl ?_
        obtain ⟨c30, h⟩ := of_ck h
        obtain ⟨M31, eM31, h⟩ := of_lt h
        refine r_iast dX12_sums_185 rfl c30 ?_
        rw [← eM31]
        refine r_iinc (lv2 := [(3, vI (x3 + 1)), (0, vR 55), (2, vI p2), (4, vI v29)]) dX12_sums_186 2 rfl (by decide) rfl ?_
        refine r_goto (tgt := 60) dX12_sums_189 (by decide) ?_
        refine r_sub (lv2 := [(0, vR 55), (2, vI p2), (3, vI (x3 + 1))]) [1, 2, 0] rfl ?_
        cases h
        exact ih _ _  _ (k1 _ rfl) hX
      clear h
      have h := h9
      clear h9
      by_cases c11 : wr (gI M 56 (wr p2)) = 0
      · rw [if_pos c11] at h
        refine r_if_eq (tgt := 86) dX12_sums_76 (by decide) (fun _ => ?_) (fun q => absurd c11 q)
        refine r_aload_n dX12_sums_86 rfl 0 rfl ?_
        refine r_getR (j := 2) (v := 56) dX12_sums_87 f_X12_7 rfl rfl rfl ?_
        refine r_iload_n dX12_sums_90 rfl 1 rfl ?_
        refine r_zald dX12_sums_91 rfl c10 ?_
        obtain ⟨v16, h9, h⟩ := of_bd1 h
        have kJ : Ex G 2 cX12_sums RX12 7 123 [(0, vR 55), (2, vI p2), (3, vI x3)] [vI v16] M := by
          refine r_istore (lv2 := [(4, vI v16), (0, vR 55), (2, vI p2), (3, vI x3)]) dX12_sums_123 (by decide) rfl ?_
          refine r_goto (tgt := 172) dX12_sums_125 (by decide) ?_
          refine r_sub (lv2 := [(0, vR 55), (2, vI p2), (3, vI x3), (4, vI v16)]) [1, 2, 3, 0] rfl ?_
          cases h
          exact kJ
        clear h
        have h := h9
        clear h9
        by_cases c12 : wr (gI M 56 (wr p2)) = 0
        · rw [if_pos c12] at h
          refine r_if_ne (tgt := 107) dX12_sums_92 (by decide) (fun q => absurd c12 q) (fun _ => ?_)
          refine r_iload_n dX12_sums_95 rfl 2 rfl ?_
          refine r_iconst dX12_sums_96 ?_
          refine r_iand dX12_sums_97 ?_
          refine r_iconst dX12_sums_98 ?_
          by_cases c14 : wr (iand x3 1) = wr 1
          · rw [if_pos c14] at h
            refine r_icmp_ne (tgt := 107) dX12_sums_99 (by decide) (fun q => absurd c14 q) (fun _ => ?_)
            refine r_ldc (v := 1000000) dX12_sums_102 k_X12_198 ?_
            refine r_goto (tgt := 123) dX12_sums_104 (by decide) ?_
            cases h
            exact kJ
          · rw [if_neg c14] at h
            refine r_icmp_ne (tgt := 107) dX12_sums_99 (by decide) (fun _ => ?_) (fun q => absurd q c14)
            refine r_aload_n dX12_sums_107 rfl 0 rfl ?_
            refine r_getR (j := 13) (v := 65) dX12_sums_108 f_X12_39 rfl rfl rfl ?_
            refine r_sipush dX12_sums_111 (by decide) ?_
            refine r_iload_n dX12_sums_114 rfl 1 rfl ?_
            refine r_iconst dX12_sums_115 ?_
            refine r_iadd dX12_sums_116 ?_
            refine r_imul dX12_sums_117 ?_
            refine r_iload_n dX12_sums_118 rfl 2 rfl ?_
            refine r_iconst dX12_sums_119 ?_
            refine r_ishr dX12_sums_120 ?_
            refine r_iadd dX12_sums_121 ?_
            obtain ⟨c15, h⟩ := of_ck h
            refine r_iald dX12_sums_122 rfl c15 ?_
            cases h
            exact kJ
        · rw [if_neg c12] at h
          refine r_if_ne (tgt := 107) dX12_sums_92 (by decide) (fun _ => ?_) (fun q => absurd q c12)
          refine r_aload_n dX12_sums_107 rfl 0 rfl ?_
          refine r_getR (j := 13) (v := 65) dX12_sums_108 f_X12_39 rfl rfl rfl ?_
          refine r_sipush dX12_sums_111 (by decide) ?_
          refine r_iload_n dX12_sums_114 rfl 1 rfl ?_
          refine r_iconst dX12_sums_115 ?_
          refine r_iadd dX12_sums_116 ?_
          refine r_imul dX12_sums_117 ?_
          refine r_iload_n dX12_sums_118 rfl 2 rfl ?_
          refine r_iconst dX12_sums_119 ?_
          refine r_ishr dX12_sums_120 ?_
          refine r_iadd dX12_sums_121 ?_
          obtain ⟨c13, h⟩ := of_ck h
          refine r_iald dX12_sums_122 rfl c13 ?_
          cases h
          exact kJ
      · rw [if_neg c11] at h
        refine r_if_eq (tgt := 86) dX12_sums_76 (by decide) (fun q => absurd q c11) (fun _ => ?_)
        refine r_iload_n dX12_sums_79 rfl 2 rfl ?_
        refine r_iconst dX12_sums_80 ?_
        refine r_iand dX12_sums_81 ?_
        refine r_iconst dX12_sums_82 ?_
        by_cases c17 : wr (iand x3 1) = wr 1
        · rw [if_pos c17] at h
          refine r_icmp_ne (tgt := 128) dX12_sums_83 (by decide) (fun q => absurd c17 q) (fun _ => ?_)
          refine r_aload_n dX12_sums_86 rfl 0 rfl ?_
          refine r_getR (j := 2) (v := 56) dX12_sums_87 f_X12_7 rfl rfl rfl ?_
          refine r_iload_n dX12_sums_90 rfl 1 rfl ?_
          refine r_zald dX12_sums_91 rfl c10 ?_
          obtain ⟨v28, h9, h⟩ := of_bd1 h
          have kJ : Ex G 2 cX12_sums RX12 7 123 [(0, vR 55), (2, vI p2), (3, vI x3)] [vI v28] M := by
            refine r_istore (lv2 := [(4, vI v28), (0, vR 55), (2, vI p2), (3, vI x3)]) dX12_sums_123 (by decide) rfl ?_
            refine r_goto (tgt := 172) dX12_sums_125 (by decide) ?_
            refine r_sub (lv2 := [(0, vR 55), (2, vI p2), (3, vI x3), (4, vI v28)]) [1, 2, 3, 0] rfl ?_
            cases h
            exact kJ
          clear h
          have h := h9
          clear h9
          by_cases c24 : wr (gI M 56 (wr p2)) = 0
          · rw [if_pos c24] at h
            refine r_if_ne (tgt := 107) dX12_sums_92 (by decide) (fun q => absurd c24 q) (fun _ => ?_)
            refine r_iload_n dX12_sums_95 rfl 2 rfl ?_
            refine r_iconst dX12_sums_96 ?_
            refine r_iand dX12_sums_97 ?_
            refine r_iconst dX12_sums_98 ?_
            by_cases c26 : wr (iand x3 1) = wr 1
            · rw [if_pos c26] at h
              refine r_icmp_ne (tgt := 107) dX12_sums_99 (by decide) (fun q => absurd c26 q) (fun _ => ?_)
              refine r_ldc (v := 1000000) dX12_sums_102 k_X12_198 ?_
              refine r_goto (tgt := 123) dX12_sums_104 (by decide) ?_
              cases h
              exact kJ
            · rw [if_neg c26] at h
              refine r_icmp_ne (tgt := 107) dX12_sums_99 (by decide) (fun _ => ?_) (fun q => absurd q c26)
              refine r_aload_n dX12_sums_107 rfl 0 rfl ?_
              refine r_getR (j := 13) (v := 65) dX12_sums_108 f_X12_39 rfl rfl rfl ?_
              refine r_sipush dX12_sums_111 (by decide) ?_
              refine r_iload_n dX12_sums_114 rfl 1 rfl ?_
              refine r_iconst dX12_sums_115 ?_
              refine r_iadd dX12_sums_116 ?_
              refine r_imul dX12_sums_117 ?_
              refine r_iload_n dX12_sums_118 rfl 2 rfl ?_
              refine r_iconst dX12_sums_119 ?_
              refine r_ishr dX12_sums_120 ?_
              refine r_iadd dX12_sums_121 ?_
              obtain ⟨c27, h⟩ := of_ck h
              refine r_iald dX12_sums_122 rfl c27 ?_
              cases h
              exact kJ
          · rw [if_neg c24] at h
            refine r_if_ne (tgt := 107) dX12_sums_92 (by decide) (fun _ => ?_) (fun q => absurd q c24)
            refine r_aload_n dX12_sums_107 rfl 0 rfl ?_
            refine r_getR (j := 13) (v := 65) dX12_sums_108 f_X12_39 rfl rfl rfl ?_
            refine r_sipush dX12_sums_111 (by decide) ?_
            refine r_iload_n dX12_sums_114 rfl 1 rfl ?_
            refine r_iconst dX12_sums_115 ?_
            refine r_iadd dX12_sums_116 ?_
            refine r_imul dX12_sums_117 ?_
            refine r_iload_n dX12_sums_118 rfl 2 rfl ?_
            refine r_iconst dX12_sums_119 ?_
            refine r_ishr dX12_sums_120 ?_
            refine r_iadd dX12_sums_121 ?_
            obtain ⟨c25, h⟩ := of_ck h
            refine r_iald dX12_sums_122 rfl c25 ?_
            cases h
            exact kJ
        · rw [if_neg c17] at h
          refine r_icmp_ne (tgt := 128) dX12_sums_83 (by decide) (fun _ => ?_) (fun q => absurd q c17)
          refine r_aload_n dX12_sums_128 rfl 0 rfl ?_
          refine r_iload_n dX12_sums_129 rfl 1 rfl ?_
          refine r_iload_n dX12_sums_130 rfl 2 rfl ?_
          obtain ⟨r19, hc18, h⟩ := of_bd1 h
          refine r_callVI (st := []) dX12_sums_131 v_X12_203 (run_X12_eastSum hc18) (by decide) (by decide) rfl rfl (Nat.le_of_ble_eq_true rfl) rfl ?_
          refine r_istore (lv2 := [(5, vI r19), (0, vR 55), (2, vI p2), (3, vI x3)]) dX12_sums_134 (by decide) rfl ?_
          refine r_aload_n dX12_sums_136 rfl 1 rfl ?_
          refine r_iconst dX12_sums_137 ?_
          refine r_iload_n dX12_sums_138 rfl 2 rfl ?_
          refine r_imul dX12_sums_139 ?_
          refine r_iconst dX12_sums_140 ?_
          refine r_iadd dX12_sums_141 ?_
          refine r_iload_n dX12_sums_142 rfl 2 rfl ?_
          refine r_iload_n dX12_sums_143 rfl 3 rfl ?_
          refine r_iconst dX12_sums_144 ?_
          refine r_aload_n dX12_sums_145 rfl 1 rfl ?_
          refine r_getI (j := 0) (jz := 0) dX12_sums_146 f_X12_88 rfl rfl rfl ?_
          refine r_ishl dX12_sums_149 ?_
          refine r_ior dX12_sums_150 ?_
          obtain ⟨r21, hc20, h⟩ := of_bd1 h
          refine r_callVI (st := []) dX12_sums_151 v_X12_199 (run_X12_sumBy hc20) (by decide) (by decide) rfl rfl (Nat.le_of_ble_eq_true rfl) rfl ?_
          refine r_istore (lv2 := [(6, vI r21), (5, vI r19), (0, vR 55), (2, vI p2), (3, vI x3)]) dX12_sums_154 (by decide) rfl ?_
          refine r_iload dX12_sums_156 1 rfl ?_
          refine r_iload dX12_sums_158 0 rfl ?_
          obtain ⟨v23, ev23, h⟩ := of_lt h
          have kJ : Ex G 2 cX12_sums RX12 7 170 [(0, vR 55), (2, vI p2), (3, vI x3)] [vI v23] M := by
            refine r_istore (lv2 := [(4, vI v23), (0, vR 55), (2, vI p2), (3, vI x3)]) dX12_sums_170 (by decide) rfl ?_
            refine r_sub (lv2 := [(0, vR 55), (2, vI p2), (3, vI x3), (4, vI v23)]) [1, 2, 3, 0] rfl ?_
            cases h
            exact kJ
          clear h
          by_cases c22 : wr r21 < wr r19
          · skip
            refine r_icmp_gt (tgt := 168) dX12_sums_160 (by decide) (fun _ => ?_) (fun q => absurd c22 q)
            refine r_iload dX12_sums_168 0 rfl ?_
            rw [show v23 = r21 from by rw [ev23, if_pos c22]] at kJ
            refine r_sub (lv2 := [(0, vR 55), (2, vI p2), (3, vI x3)]) [2, 3, 4] rfl ?_
            exact kJ
          · skip
            refine r_icmp_gt (tgt := 168) dX12_sums_160 (by decide) (fun q => absurd q c22) (fun _ => ?_)
            refine r_iload dX12_sums_163 1 rfl ?_
            refine r_goto (tgt := 170) dX12_sums_165 (by decide) ?_
            rw [show v23 = r19 from by rw [ev23, if_neg c22]] at kJ
            refine r_sub (lv2 := [(0, vR 55), (2, vI p2), (3, vI x3)]) [2, 3, 4] rfl ?_
            exact kJ

set_option maxRecDepth 10000 in
theorem lp_X12_sums_L54 {G : Gx}    (X : (Int × Mem) → Prop) (hX1 : ∀ (x2 : Int) (M : Mem), X (x2, M) → Ex G 2 cX12_sums RX12 7 198 [(0, vR 55), (2, vI x2)] [] M) : ∀ (nn : Nat) (x2 : Int) (M : Mem) (out : Int × Mem), itr (fun s => m_X12_sums_L54 s.2  s.1) nn (x2, M) = some out → X out → Ex G 2 cX12_sums RX12 7 54 [(0, vR 55), (2, vI x2)] [] M := by
  intro nn
  induction nn with
  | zero =>
    intro x2 M out h _
    cases h
  | succ nn ih =>
    intro x2 M out h0 hX
    obtain ⟨w, h, k1, k2⟩ := itr_inv h0
    have h : m_X12_sums_L54 M  x2 = some w := h
    unfold m_X12_sums_L54 at h
    refine r_iload_n dX12_sums_54 rfl 1 rfl ?_
    by_cases c8 : wr x2 < 0
    · rw [if_pos c8] at h
      refine r_if_lt (tgt := 198) dX12_sums_55 (by decide) (fun _ => ?_) (fun q => absurd c8 q)
      cases h
      cases k2 _ rfl
      exact hX1 _ _ hX
    · rw [if_neg c8] at h
      refine r_if_lt (tgt := 198) dX12_sums_55 (by decide) (fun q => absurd q c8) (fun _ => ?_)
      refine r_iconst dX12_sums_58 ?_
      refine r_istore_n (lv2 := [(3, vI 0), (0, vR 55), (2, vI x2)]) dX12_sums_59 rfl (by decide) rfl ?_
      obtain ⟨y32, M33, h9, h⟩ := of_bd2 h
      refine r_sub (lv2 := [(0, vR 55), (2, vI x2), (3, vI 0)]) [1, 2, 0] rfl ?_
      refine lp_X12_sums_L60 x2  (fun w => w = (y32, M33)) ?_ FU 0 M _ h9 rfl
      intro z0 z1 hw
      cases hw
      refine r_iinc (lv2 := [(2, vI (x2 + (-1))), (0, vR 55), (3, vI y32)]) dX12_sums_192 1 rfl (by decide) rfl ?_
      refine r_goto (tgt := 54) dX12_sums_195 (by decide) ?_
      refine r_sub (lv2 := [(0, vR 55), (2, vI (x2 + (-1)))]) [1, 0] rfl ?_
      cases h
      exact ih _ _  _ (k1 _ rfl) hX

set_option maxRecDepth 10000 in
theorem run_X12_sums {M : Mem} {M2 : Mem}   (h : m_X12_sums M = some (M2)) : RunV 2 yX12_sums cX12_sums 7 none [vR 55] M M2 := by
  refine runV_of (lv := [(0, vR 55)]) (by decide +kernel) rfl (Nat.le_of_ble_eq_true rfl) rfl ?_
  intro G hQ
  unfold m_X12_sums at h
  refine r_aload_n dX12_sums_0 rfl 0 rfl ?_
  refine r_getI (j := 0) (jz := 0) dX12_sums_1 f_X12_88 rfl rfl rfl ?_
  refine r_aload_n dX12_sums_4 rfl 0 rfl ?_
  refine r_getI (j := 1) (jz := 1) dX12_sums_5 f_X12_92 rfl rfl rfl ?_
  refine r_imul dX12_sums_8 ?_
  refine r_istore_n (lv2 := [(1, vI ((gI M 55 0) * (gI M 55 1))), (0, vR 55)]) dX12_sums_9 rfl (by decide) rfl ?_
  refine r_iconst dX12_sums_10 ?_
  refine r_istore_n (lv2 := [(2, vI 0), (1, vI ((gI M 55 0) * (gI M 55 1))), (0, vR 55)]) dX12_sums_11 rfl (by decide) rfl ?_
  obtain ⟨y6, M7, h9, h⟩ := of_bd2 h
  refine r_sub (lv2 := [(0, vR 55), (1, vI ((gI M 55 0) * (gI M 55 1))), (2, vI 0)]) [2, 1, 0] rfl ?_
  refine lp_X12_sums_L12 ((gI M 55 0) * (gI M 55 1))  (fun w => w = (y6, M7)) ?_ FU 0 M _ h9 rfl
  intro z0 z1 hw
  cases hw
  refine r_iload_n dX12_sums_50 rfl 1 rfl ?_
  refine r_iconst dX12_sums_51 ?_
  refine r_isub dX12_sums_52 ?_
  refine r_istore_n (lv2 := [(2, vI (((gI M 55 0) * (gI M 55 1)) - 1)), (0, vR 55), (1, vI ((gI M 55 0) * (gI M 55 1)))]) dX12_sums_53 rfl (by decide) rfl ?_
  obtain ⟨y34, M35, h9, h⟩ := of_bd2 h
  refine r_sub (lv2 := [(0, vR 55), (2, vI (((gI M 55 0) * (gI M 55 1)) - 1))]) [1, 0] rfl ?_
  refine lp_X12_sums_L54   (fun w => w = (y34, M35)) ?_ FU (((gI M 55 0) * (gI M 55 1)) - 1) M7 _ h9 rfl
  intro z0 z1 hw
  cases hw
  cases h
  exact hQ _ _ dX12_sums_198

def m_X12_cheapest_L36 (M : Mem) (p1 : Int) (x2 : Int) (x3 : Int) : Option ((Int × Int × Mem) ⊕ (Int × Int × Mem)) :=
  if wr ((gI M 55 0) * (gI M 55 1)) ≤ wr x3 then
    some (.inr (x2, x3, M))
  else
    if 0 ≤ wr x3 ∧ wr x3 < 64 then
    bd2 (
      if wr (gI M 56 (wr x3)) = 0 then
        some (x2, M)
      else
        if wr (iand x2 1) = 0 then
          bd1 (m_X12_eastSum M x3 x2) fun r14 =>
          bd1 (m_X12_sumBy M ((2 * x3) + 1) x3 (ior x2 (shl 1 (gI M 55 0)))) fun r16 =>
          lt (if wr r16 < wr r14 then 0 else 1) fun (v18 : Int) =>
          lt (if wr v18 = 0 then (shl 1 (gI M 55 0)) else 2) fun (v20 : Int) =>
          lt (if wr v18 = 0 then ((2 * x3) + 1) else (2 * x3)) fun (v22 : Int) =>
          bd1 (m_X12_lays M p1 v22) fun M24 =>
          some ((ior x2 v20), M24)
        else
          some (x2, M)) fun (v25 : Int) (M26 : Mem) =>
    some (.inl ((sar v25 1), (x3 + 1), M26))
    else none
def m_X12_cheapest (M : Mem) (a1 : Int) : Option (Int × Mem) :=
  bd1 (m_X12_isSlot a1) fun b2 =>
  if wr (bI b2) = 0 then
    some ((-1), M)
  else
    bd1 (m_X12_allows M 1) fun M5 =>
    bd1 (m_X12_sums M5) fun M7 =>
    if wr (gI M7 65 (wr 0)) < wr 1000000 then
      bd3 (itr (fun s => m_X12_cheapest_L36 s.2.2 a1 s.1 s.2.1) FU (0, 0, M7)) fun y27 y28 M29 =>
      if 0 ≤ wr a1 ∧ wr a1 < 4 then
      lt (sI M29 59 (wr a1) 1) fun M31 =>
      some ((gI M31 65 (wr 0)), M31)
      else none
    else
      some ((-4), M7)
set_option maxRecDepth 10000 in
theorem lp_X12_cheapest_L36 {G : Gx} (p1 : Int)   (X : (Int × Int × Mem) → Prop) (hX1 : ∀ (x2 : Int) (x3 : Int) (M : Mem), X (x2, x3, M) → Ex G 3 cX12_cheapest RX12 5 147 [(0, vR 55), (1, vI p1), (2, vI x2), (3, vI x3)] [] M) : ∀ (nn : Nat) (x2 : Int) (x3 : Int) (M : Mem) (out : Int × Int × Mem), itr (fun s => m_X12_cheapest_L36 s.2.2 p1 s.1 s.2.1) nn (x2, x3, M) = some out → X out → Ex G 3 cX12_cheapest RX12 5 36 [(0, vR 55), (1, vI p1), (2, vI x2), (3, vI x3)] [] M := by
  intro nn
  induction nn with
  | zero =>
    intro x2 x3 M out h _
    cases h
  | succ nn ih =>
    intro x2 x3 M out h0 hX
    obtain ⟨w, h, k1, k2⟩ := itr_inv h0
    have h : m_X12_cheapest_L36 M p1 x2 x3 = some w := h
    unfold m_X12_cheapest_L36 at h
    refine r_iload_n dX12_cheapest_36 rfl 3 rfl ?_
    refine r_aload_n dX12_cheapest_37 rfl 0 rfl ?_
    refine r_getI (j := 0) (jz := 0) dX12_cheapest_38 f_X12_88 rfl rfl rfl ?_
    refine r_aload_n dX12_cheapest_41 rfl 0 rfl ?_
    refine r_getI (j := 1) (jz := 1) dX12_cheapest_42 f_X12_92 rfl rfl rfl ?_
    refine r_imul dX12_cheapest_45 ?_
    by_cases c9 : wr ((gI M 55 0) * (gI M 55 1)) ≤ wr x3
    · rw [if_pos c9] at h
      refine r_icmp_ge (tgt := 147) dX12_cheapest_46 (by decide) (fun _ => ?_) (fun q => absurd c9 q)
      cases h
      cases k2 _ rfl
      exact hX1 _ _ _ hX
    · rw [if_neg c9] at h
      refine r_icmp_ge (tgt := 147) dX12_cheapest_46 (by decide) (fun q => absurd q c9) (fun _ => ?_)
      refine r_aload_n dX12_cheapest_49 rfl 0 rfl ?_
      refine r_getR (j := 2) (v := 56) dX12_cheapest_50 f_X12_7 rfl rfl rfl ?_
      refine r_iload_n dX12_cheapest_53 rfl 3 rfl ?_
      obtain ⟨c10, h⟩ := of_ck h
      refine r_zald dX12_cheapest_54 rfl c10 ?_
      obtain ⟨v25, M26, h9, h⟩ := of_bd2 h
      have kJ : Ex G 3 cX12_cheapest RX12 5 137 [(0, vR 55), (1, vI p1), (2, vI v25), (3, vI x3)] [] M26 := by
        refine r_iload_n dX12_cheapest_137 rfl 2 rfl ?_
        refine r_iconst dX12_cheapest_138 ?_
        refine r_ishr dX12_cheapest_139 ?_
        refine r_istore_n (lv2 := [(2, vI (sar v25 1)), (0, vR 55), (1, vI p1), (3, vI x3)]) dX12_cheapest_140 rfl (by decide) rfl ?_
        refine r_iinc (lv2 := [(3, vI (x3 + 1)), (2, vI (sar v25 1)), (0, vR 55), (1, vI p1)]) dX12_cheapest_141 3 rfl (by decide) rfl ?_
        refine r_goto (tgt := 36) dX12_cheapest_144 (by decide) ?_
        refine r_sub (lv2 := [(0, vR 55), (1, vI p1), (2, vI (sar v25 1)), (3, vI (x3 + 1))]) [2, 3, 1, 0] rfl ?_
        cases h
        exact ih _ _ _  _ (k1 _ rfl) hX
      clear h
      have h := h9
      clear h9
      by_cases c11 : wr (gI M 56 (wr x3)) = 0
      · rw [if_pos c11] at h
        refine r_if_eq (tgt := 137) dX12_cheapest_55 (by decide) (fun _ => ?_) (fun q => absurd c11 q)
        cases h
        exact kJ
      · rw [if_neg c11] at h
        refine r_if_eq (tgt := 137) dX12_cheapest_55 (by decide) (fun q => absurd q c11) (fun _ => ?_)
        refine r_iload_n dX12_cheapest_58 rfl 2 rfl ?_
        refine r_iconst dX12_cheapest_59 ?_
        refine r_iand dX12_cheapest_60 ?_
        by_cases c12 : wr (iand x2 1) = 0
        · rw [if_pos c12] at h
          refine r_if_ne (tgt := 137) dX12_cheapest_61 (by decide) (fun q => absurd c12 q) (fun _ => ?_)
          refine r_aload_n dX12_cheapest_64 rfl 0 rfl ?_
          refine r_iload_n dX12_cheapest_65 rfl 3 rfl ?_
          refine r_iload_n dX12_cheapest_66 rfl 2 rfl ?_
          obtain ⟨r14, hc13, h⟩ := of_bd1 h
          refine r_callVI (st := []) dX12_cheapest_67 v_X12_203 (run_X12_eastSum hc13) (by decide) (by decide) rfl rfl (Nat.le_of_ble_eq_true rfl) rfl ?_
          refine r_aload_n dX12_cheapest_70 rfl 0 rfl ?_
          refine r_iconst dX12_cheapest_71 ?_
          refine r_iload_n dX12_cheapest_72 rfl 3 rfl ?_
          refine r_imul dX12_cheapest_73 ?_
          refine r_iconst dX12_cheapest_74 ?_
          refine r_iadd dX12_cheapest_75 ?_
          refine r_iload_n dX12_cheapest_76 rfl 3 rfl ?_
          refine r_iload_n dX12_cheapest_77 rfl 2 rfl ?_
          refine r_iconst dX12_cheapest_78 ?_
          refine r_aload_n dX12_cheapest_79 rfl 0 rfl ?_
          refine r_getI (j := 0) (jz := 0) dX12_cheapest_80 f_X12_88 rfl rfl rfl ?_
          refine r_ishl dX12_cheapest_83 ?_
          refine r_ior dX12_cheapest_84 ?_
          obtain ⟨r16, hc15, h⟩ := of_bd1 h
          refine r_callVI (st := [vI r14]) dX12_cheapest_85 v_X12_199 (run_X12_sumBy hc15) (by decide) (by decide) rfl rfl (Nat.le_of_ble_eq_true rfl) rfl ?_
          obtain ⟨v18, ev18, h⟩ := of_lt h
          have kJ : Ex G 3 cX12_cheapest RX12 5 96 [(0, vR 55), (1, vI p1), (2, vI x2), (3, vI x3)] [vI v18] M := by
            refine r_istore (lv2 := [(4, vI v18), (0, vR 55), (1, vI p1), (2, vI x2), (3, vI x3)]) dX12_cheapest_96 (by decide) rfl ?_
            refine r_iload_n dX12_cheapest_98 rfl 3 rfl ?_
            refine r_iload dX12_cheapest_99 0 rfl ?_
            obtain ⟨v20, ev20, h⟩ := of_lt h
            have kJ : Ex G 3 cX12_cheapest RX12 5 114 [(0, vR 55), (1, vI p1), (3, vI x3), (4, vI v18)] [vI v20, vI x2] M := by
              refine r_ior dX12_cheapest_114 ?_
              refine r_istore_n (lv2 := [(2, vI (ior x2 v20)), (0, vR 55), (1, vI p1), (3, vI x3), (4, vI v18)]) dX12_cheapest_115 rfl (by decide) rfl ?_
              refine r_aload_n dX12_cheapest_116 rfl 1 rfl ?_
              refine r_iload_n dX12_cheapest_117 rfl 2 rfl ?_
              refine r_iload dX12_cheapest_118 4 rfl ?_
              obtain ⟨v22, ev22, h⟩ := of_lt h
              have kJ : Ex G 3 cX12_cheapest RX12 5 134 [(0, vR 55), (1, vI p1), (2, vI (ior x2 v20)), (3, vI x3)] [vI v22, vI p1, vR 55] M := by
                obtain ⟨M24, hc23, h⟩ := of_bd1 h
                refine r_callVV (st := []) dX12_cheapest_134 v_X12_191 (run_X12_lays hc23) (by decide) (by decide) rfl rfl (Nat.le_of_ble_eq_true rfl) rfl ?_
                cases h
                exact kJ
              clear h
              by_cases c21 : wr v18 = 0
              · skip
                refine r_if_eq (tgt := 129) dX12_cheapest_120 (by decide) (fun _ => ?_) (fun q => absurd c21 q)
                refine r_iconst dX12_cheapest_129 ?_
                refine r_iload_n dX12_cheapest_130 rfl 3 rfl ?_
                refine r_imul dX12_cheapest_131 ?_
                refine r_iconst dX12_cheapest_132 ?_
                refine r_iadd dX12_cheapest_133 ?_
                rw [show v22 = ((2 * x3) + 1) from by rw [ev22, if_pos c21]] at kJ
                refine r_sub (lv2 := [(0, vR 55), (1, vI p1), (2, vI (ior x2 v20)), (3, vI x3)]) [1, 2, 0, 3] rfl ?_
                exact kJ
              · skip
                refine r_if_eq (tgt := 129) dX12_cheapest_120 (by decide) (fun q => absurd q c21) (fun _ => ?_)
                refine r_iconst dX12_cheapest_123 ?_
                refine r_iload_n dX12_cheapest_124 rfl 3 rfl ?_
                refine r_imul dX12_cheapest_125 ?_
                refine r_goto (tgt := 134) dX12_cheapest_126 (by decide) ?_
                rw [show v22 = (2 * x3) from by rw [ev22, if_neg c21]] at kJ
                refine r_sub (lv2 := [(0, vR 55), (1, vI p1), (2, vI (ior x2 v20)), (3, vI x3)]) [1, 2, 0, 3] rfl ?_
                exact kJ
            clear h
            by_cases c19 : wr v18 = 0
            · skip
              refine r_if_eq (tgt := 108) dX12_cheapest_101 (by decide) (fun _ => ?_) (fun q => absurd c19 q)
              refine r_iconst dX12_cheapest_108 ?_
              refine r_aload_n dX12_cheapest_109 rfl 1 rfl ?_
              refine r_getI (j := 0) (jz := 0) dX12_cheapest_110 f_X12_88 rfl rfl rfl ?_
              refine r_ishl dX12_cheapest_113 ?_
              rw [show v20 = (shl 1 (gI M 55 0)) from by rw [ev20, if_pos c19]] at kJ
              refine r_sub (lv2 := [(0, vR 55), (1, vI p1), (3, vI x3), (4, vI v18)]) [1, 2, 4, 0] rfl ?_
              exact kJ
            · skip
              refine r_if_eq (tgt := 108) dX12_cheapest_101 (by decide) (fun q => absurd q c19) (fun _ => ?_)
              refine r_iconst dX12_cheapest_104 ?_
              refine r_goto (tgt := 114) dX12_cheapest_105 (by decide) ?_
              rw [show v20 = 2 from by rw [ev20, if_neg c19]] at kJ
              refine r_sub (lv2 := [(0, vR 55), (1, vI p1), (3, vI x3), (4, vI v18)]) [1, 2, 4, 0] rfl ?_
              exact kJ
          clear h
          by_cases c17 : wr r16 < wr r14
          · skip
            refine r_icmp_gt (tgt := 95) dX12_cheapest_88 (by decide) (fun _ => ?_) (fun q => absurd c17 q)
            refine r_iconst dX12_cheapest_95 ?_
            rw [show v18 = 0 from by rw [ev18, if_pos c17]] at kJ
            exact kJ
          · skip
            refine r_icmp_gt (tgt := 95) dX12_cheapest_88 (by decide) (fun q => absurd q c17) (fun _ => ?_)
            refine r_iconst dX12_cheapest_91 ?_
            refine r_goto (tgt := 96) dX12_cheapest_92 (by decide) ?_
            rw [show v18 = 1 from by rw [ev18, if_neg c17]] at kJ
            exact kJ
        · rw [if_neg c12] at h
          refine r_if_ne (tgt := 137) dX12_cheapest_61 (by decide) (fun _ => ?_) (fun q => absurd q c12)
          cases h
          exact kJ

set_option maxRecDepth 10000 in
theorem run_X12_cheapest {M : Mem} {M2 : Mem} {a1 : Int} {r : Int}   (h : m_X12_cheapest M a1 = some (r, M2)) : RunI 3 yX12_cheapest cX12_cheapest 5 (some .int) [vR 55, vI a1] M r M2 := by
  refine runI_of (lv := [(0, vR 55), (1, vI a1)]) (by decide +kernel) (Or.inl rfl) (Nat.le_of_ble_eq_true rfl) rfl ?_
  intro G hQ
  unfold m_X12_cheapest at h
  refine r_iload_n dX12_cheapest_0 rfl 1 rfl ?_
  obtain ⟨b2, hc1, h⟩ := of_bd1 h
  refine r_callSI (st := []) dX12_cheapest_1 v_X12_188 (run_X12_isSlot hc1) (by decide) (by decide) rfl (Nat.le_of_ble_eq_true rfl) rfl ?_
  by_cases c3 : wr (bI b2) = 0
  · rw [if_pos c3] at h
    refine r_if_ne (tgt := 9) dX12_cheapest_4 (by decide) (fun q => absurd c3 q) (fun _ => ?_)
    refine r_iconst dX12_cheapest_7 ?_
    cases h
    exact hQ _ _ dX12_cheapest_8
  · rw [if_neg c3] at h
    refine r_if_ne (tgt := 9) dX12_cheapest_4 (by decide) (fun _ => ?_) (fun q => absurd q c3)
    refine r_aload_n dX12_cheapest_9 rfl 0 rfl ?_
    refine r_iconst dX12_cheapest_10 ?_
    obtain ⟨M5, hc4, h⟩ := of_bd1 h
    refine r_callVV (st := []) dX12_cheapest_11 v_X12_169 (run_X12_allows hc4) (by decide) (by decide) rfl rfl (Nat.le_of_ble_eq_true rfl) rfl ?_
    refine r_aload_n dX12_cheapest_14 rfl 0 rfl ?_
    obtain ⟨M7, hc6, h⟩ := of_bd1 h
    refine r_callVV (st := []) dX12_cheapest_15 v_X12_207 (run_X12_sums hc6) (by decide) (by decide) rfl rfl (Nat.le_of_ble_eq_true rfl) rfl ?_
    refine r_aload_n dX12_cheapest_18 rfl 0 rfl ?_
    refine r_getR (j := 13) (v := 65) dX12_cheapest_19 f_X12_39 rfl rfl rfl ?_
    refine r_iconst dX12_cheapest_22 ?_
    refine r_iald dX12_cheapest_23 rfl (by decide) ?_
    refine r_ldc (v := 1000000) dX12_cheapest_24 k_X12_198 ?_
    by_cases c8 : wr (gI M7 65 (wr 0)) < wr 1000000
    · rw [if_pos c8] at h
      refine r_icmp_lt (tgt := 32) dX12_cheapest_26 (by decide) (fun _ => ?_) (fun q => absurd c8 q)
      refine r_iconst dX12_cheapest_32 ?_
      refine r_istore_n (lv2 := [(2, vI 0), (0, vR 55), (1, vI a1)]) dX12_cheapest_33 rfl (by decide) rfl ?_
      refine r_iconst dX12_cheapest_34 ?_
      refine r_istore_n (lv2 := [(3, vI 0), (2, vI 0), (0, vR 55), (1, vI a1)]) dX12_cheapest_35 rfl (by decide) rfl ?_
      obtain ⟨y27, y28, M29, h9, h⟩ := of_bd3 h
      refine r_sub (lv2 := [(0, vR 55), (1, vI a1), (2, vI 0), (3, vI 0)]) [2, 3, 1, 0] rfl ?_
      refine lp_X12_cheapest_L36 a1  (fun w => w = (y27, y28, M29)) ?_ FU 0 0 M7 _ h9 rfl
      intro z0 z1 z2 hw
      cases hw
      refine r_aload_n dX12_cheapest_147 rfl 0 rfl ?_
      refine r_getR (j := 5) (v := 59) dX12_cheapest_148 f_X12_20 rfl rfl rfl ?_
      refine r_iload_n dX12_cheapest_151 rfl 1 rfl ?_
      refine r_iconst dX12_cheapest_152 ?_
      obtain ⟨c30, h⟩ := of_ck h
      obtain ⟨M31, eM31, h⟩ := of_lt h
      refine r_zast dX12_cheapest_153 rfl c30 (by decide) ?_
      rw [← eM31]
      refine r_aload_n dX12_cheapest_154 rfl 0 rfl ?_
      refine r_getR (j := 13) (v := 65) dX12_cheapest_155 f_X12_39 rfl rfl rfl ?_
      refine r_iconst dX12_cheapest_158 ?_
      refine r_iald dX12_cheapest_159 rfl (by decide) ?_
      cases h
      exact hQ _ _ dX12_cheapest_160
    · rw [if_neg c8] at h
      refine r_icmp_lt (tgt := 32) dX12_cheapest_26 (by decide) (fun q => absurd q c8) (fun _ => ?_)
      refine r_bipush dX12_cheapest_29 (by decide) ?_
      cases h
      exact hQ _ _ dX12_cheapest_31

def m_X12_cost_L25 (M : Mem) (p1 : Int) (x2 : Int) (x3 : Int) : Option ((Int × Int) ⊕ (Int × Int)) :=
  if wr ((gI M 55 0) * (gI M 55 1)) ≤ wr x3 then
    some (.inr (x2, x3))
  else
    if 0 ≤ wr ((64 * p1) + x3) ∧ wr ((64 * p1) + x3) < 256 then
    if 0 ≤ wr x3 ∧ wr x3 < 64 then
    bd1 (
      if wr (gI M 56 (wr x3)) = 0 then
        some (0)
      else
        if wr (idv (gI M 60 (wr ((64 * p1) + x3))) 2) = wr x3 then
          if 0 ≤ wr (gI M 60 (wr ((64 * p1) + x3))) ∧ wr (gI M 60 (wr ((64 * p1) + x3))) < 128 then
          some ((gI M 58 (wr (gI M 60 (wr ((64 * p1) + x3))))))
          else none
        else
          some (0)) fun (v12 : Int) =>
    some (.inl ((x2 + v12), (x3 + 1)))
    else none
    else none
def m_X12_cost (M : Mem) (a1 : Int) : Option (Int) :=
  bd1 (m_X12_isSlot a1) fun b2 =>
  if wr (bI b2) = 0 then
    some (-1)
  else
    if 0 ≤ wr a1 ∧ wr a1 < 4 then
    if wr (gI M 59 (wr a1)) = 0 then
      some (-4)
    else
      bd2 (itr (fun s => m_X12_cost_L25 M a1 s.1 s.2) FU (0, 0)) fun y13 y14 =>
      some y13
    else none
set_option maxRecDepth 10000 in
theorem lp_X12_cost_L25 {G : Gx} (M : Mem) (p1 : Int)   (X : (Int × Int) → Prop) (hX1 : ∀ (x2 : Int) (x3 : Int), X (x2, x3) → Ex G 2 cX12_cost RX12 5 88 [(0, vR 55), (1, vI p1), (2, vI x2), (3, vI x3)] [] M) : ∀ (nn : Nat) (x2 : Int) (x3 : Int) (out : Int × Int), itr (fun s => m_X12_cost_L25 M p1 s.1 s.2) nn (x2, x3) = some out → X out → Ex G 2 cX12_cost RX12 5 25 [(0, vR 55), (1, vI p1), (2, vI x2), (3, vI x3)] [] M := by
  intro nn
  induction nn with
  | zero =>
    intro x2 x3 out h _
    cases h
  | succ nn ih =>
    intro x2 x3 out h0 hX
    obtain ⟨w, h, k1, k2⟩ := itr_inv h0
    have h : m_X12_cost_L25 M p1 x2 x3 = some w := h
    unfold m_X12_cost_L25 at h
    refine r_iload_n dX12_cost_25 rfl 3 rfl ?_
    refine r_aload_n dX12_cost_26 rfl 0 rfl ?_
    refine r_getI (j := 0) (jz := 0) dX12_cost_27 f_X12_88 rfl rfl rfl ?_
    refine r_aload_n dX12_cost_30 rfl 0 rfl ?_
    refine r_getI (j := 1) (jz := 1) dX12_cost_31 f_X12_92 rfl rfl rfl ?_
    refine r_imul dX12_cost_34 ?_
    by_cases c6 : wr ((gI M 55 0) * (gI M 55 1)) ≤ wr x3
    · rw [if_pos c6] at h
      refine r_icmp_ge (tgt := 88) dX12_cost_35 (by decide) (fun _ => ?_) (fun q => absurd c6 q)
      cases h
      cases k2 _ rfl
      exact hX1 _ _ hX
    · rw [if_neg c6] at h
      refine r_icmp_ge (tgt := 88) dX12_cost_35 (by decide) (fun q => absurd q c6) (fun _ => ?_)
      refine r_aload_n dX12_cost_38 rfl 0 rfl ?_
      refine r_getR (j := 6) (v := 60) dX12_cost_39 f_X12_23 rfl rfl rfl ?_
      refine r_bipush dX12_cost_42 (by decide) ?_
      refine r_iload_n dX12_cost_44 rfl 1 rfl ?_
      refine r_imul dX12_cost_45 ?_
      refine r_iload_n dX12_cost_46 rfl 3 rfl ?_
      refine r_iadd dX12_cost_47 ?_
      obtain ⟨c7, h⟩ := of_ck h
      refine r_iald dX12_cost_48 rfl c7 ?_
      refine r_istore (lv2 := [(4, vI (gI M 60 (wr ((64 * p1) + x3)))), (0, vR 55), (1, vI p1), (2, vI x2), (3, vI x3)]) dX12_cost_49 (by decide) rfl ?_
      refine r_iload_n dX12_cost_51 rfl 3 rfl ?_
      refine r_aload_n dX12_cost_52 rfl 1 rfl ?_
      refine r_getR (j := 2) (v := 56) dX12_cost_53 f_X12_7 rfl rfl rfl ?_
      refine r_iload_n dX12_cost_56 rfl 4 rfl ?_
      obtain ⟨c8, h⟩ := of_ck h
      refine r_zald dX12_cost_57 rfl c8 ?_
      obtain ⟨v12, h9, h⟩ := of_bd1 h
      have kJ : Ex G 2 cX12_cost RX12 5 80 [(0, vR 55), (1, vI p1), (3, vI x3)] [vI v12, vI x2] M := by
        refine r_iadd dX12_cost_80 ?_
        refine r_istore_n (lv2 := [(2, vI (x2 + v12)), (0, vR 55), (1, vI p1), (3, vI x3)]) dX12_cost_81 rfl (by decide) rfl ?_
        refine r_iinc (lv2 := [(3, vI (x3 + 1)), (2, vI (x2 + v12)), (0, vR 55), (1, vI p1)]) dX12_cost_82 3 rfl (by decide) rfl ?_
        refine r_goto (tgt := 25) dX12_cost_85 (by decide) ?_
        refine r_sub (lv2 := [(0, vR 55), (1, vI p1), (2, vI (x2 + v12)), (3, vI (x3 + 1))]) [2, 3, 1, 0] rfl ?_
        cases h
        exact ih _ _  _ (k1 _ rfl) hX
      clear h
      have h := h9
      clear h9
      by_cases c9 : wr (gI M 56 (wr x3)) = 0
      · rw [if_pos c9] at h
        refine r_if_eq (tgt := 79) dX12_cost_58 (by decide) (fun _ => ?_) (fun q => absurd c9 q)
        refine r_iconst dX12_cost_79 ?_
        refine r_sub (lv2 := [(0, vR 55), (1, vI p1), (3, vI x3)]) [1, 2, 4] rfl ?_
        cases h
        exact kJ
      · rw [if_neg c9] at h
        refine r_if_eq (tgt := 79) dX12_cost_58 (by decide) (fun q => absurd q c9) (fun _ => ?_)
        refine r_iload dX12_cost_61 0 rfl ?_
        refine r_iconst dX12_cost_63 ?_
        refine r_idiv dX12_cost_64 (by decide) ?_
        refine r_iload_n dX12_cost_65 rfl 4 rfl ?_
        by_cases c10 : wr (idv (gI M 60 (wr ((64 * p1) + x3))) 2) = wr x3
        · rw [if_pos c10] at h
          refine r_icmp_ne (tgt := 79) dX12_cost_66 (by decide) (fun q => absurd c10 q) (fun _ => ?_)
          refine r_aload_n dX12_cost_69 rfl 1 rfl ?_
          refine r_getR (j := 4) (v := 58) dX12_cost_70 f_X12_17 rfl rfl rfl ?_
          refine r_iload dX12_cost_73 0 rfl ?_
          obtain ⟨c11, h⟩ := of_ck h
          refine r_iald dX12_cost_75 rfl c11 ?_
          refine r_goto (tgt := 80) dX12_cost_76 (by decide) ?_
          refine r_sub (lv2 := [(0, vR 55), (1, vI p1), (3, vI x3)]) [1, 2, 4] rfl ?_
          cases h
          exact kJ
        · rw [if_neg c10] at h
          refine r_icmp_ne (tgt := 79) dX12_cost_66 (by decide) (fun _ => ?_) (fun q => absurd q c10)
          refine r_iconst dX12_cost_79 ?_
          refine r_sub (lv2 := [(0, vR 55), (1, vI p1), (3, vI x3)]) [1, 2, 4] rfl ?_
          cases h
          exact kJ

set_option maxRecDepth 10000 in
theorem run_X12_cost {M : Mem} {a1 : Int} {r : Int}   (h : m_X12_cost M a1 = some r) : RunI 2 yX12_cost cX12_cost 5 (some .int) [vR 55, vI a1] M r M := by
  refine runI_of (lv := [(0, vR 55), (1, vI a1)]) (by decide +kernel) (Or.inl rfl) (Nat.le_of_ble_eq_true rfl) rfl ?_
  intro G hQ
  unfold m_X12_cost at h
  refine r_iload_n dX12_cost_0 rfl 1 rfl ?_
  obtain ⟨b2, hc1, h⟩ := of_bd1 h
  refine r_callSI (st := []) dX12_cost_1 v_X12_188 (run_X12_isSlot hc1) (by decide) (by decide) rfl (Nat.le_of_ble_eq_true rfl) rfl ?_
  by_cases c3 : wr (bI b2) = 0
  · rw [if_pos c3] at h
    refine r_if_ne (tgt := 9) dX12_cost_4 (by decide) (fun q => absurd c3 q) (fun _ => ?_)
    refine r_iconst dX12_cost_7 ?_
    cases h
    exact hQ _ _ dX12_cost_8
  · rw [if_neg c3] at h
    refine r_if_ne (tgt := 9) dX12_cost_4 (by decide) (fun _ => ?_) (fun q => absurd q c3)
    refine r_aload_n dX12_cost_9 rfl 0 rfl ?_
    refine r_getR (j := 5) (v := 59) dX12_cost_10 f_X12_20 rfl rfl rfl ?_
    refine r_iload_n dX12_cost_13 rfl 1 rfl ?_
    obtain ⟨c4, h⟩ := of_ck h
    refine r_zald dX12_cost_14 rfl c4 ?_
    by_cases c5 : wr (gI M 59 (wr a1)) = 0
    · rw [if_pos c5] at h
      refine r_if_ne (tgt := 21) dX12_cost_15 (by decide) (fun q => absurd c5 q) (fun _ => ?_)
      refine r_bipush dX12_cost_18 (by decide) ?_
      cases h
      exact hQ _ _ dX12_cost_20
    · rw [if_neg c5] at h
      refine r_if_ne (tgt := 21) dX12_cost_15 (by decide) (fun _ => ?_) (fun q => absurd q c5)
      refine r_iconst dX12_cost_21 ?_
      refine r_istore_n (lv2 := [(2, vI 0), (0, vR 55), (1, vI a1)]) dX12_cost_22 rfl (by decide) rfl ?_
      refine r_iconst dX12_cost_23 ?_
      refine r_istore_n (lv2 := [(3, vI 0), (2, vI 0), (0, vR 55), (1, vI a1)]) dX12_cost_24 rfl (by decide) rfl ?_
      obtain ⟨y13, y14, h9, h⟩ := of_bd2 h
      refine r_sub (lv2 := [(0, vR 55), (1, vI a1), (2, vI 0), (3, vI 0)]) [2, 3, 1, 0] rfl ?_
      refine lp_X12_cost_L25 M a1  (fun w => w = (y13, y14)) ?_ FU 0 0 _ h9 rfl
      intro z0 z1 hw
      cases hw
      refine r_iload_n dX12_cost_88 rfl 2 rfl ?_
      cases h
      exact hQ _ _ dX12_cost_89

def m_X12_keep_L30 (M : Mem) (p1 : Int) (p2 : Int) (x3 : Int) : Option ((Int × Mem) ⊕ (Int × Mem)) :=
  if wr 64 ≤ wr x3 then
    some (.inr (x3, M))
  else
    if 0 ≤ wr ((64 * p1) + x3) ∧ wr ((64 * p1) + x3) < 256 then
    if 0 ≤ wr ((64 * p2) + x3) ∧ wr ((64 * p2) + x3) < 256 then
    lt (sI M 60 (wr ((64 * p2) + x3)) (gI M 60 (wr ((64 * p1) + x3)))) fun M12 =>
    some (.inl ((x3 + 1), M12))
    else none
    else none
def m_X12_keep (M : Mem) (a1 : Int) (a2 : Int) : Option (Int × Mem) :=
  bd1 (m_X12_isSlot a1) fun b2 =>
  if wr (bI b2) = 0 then
    some ((-1), M)
  else
    bd1 (m_X12_isSlot a2) fun b5 =>
    if wr (bI b5) = 0 then
      some ((-1), M)
    else
      if 0 ≤ wr a1 ∧ wr a1 < 4 then
      if wr (gI M 59 (wr a1)) = 0 then
        some ((-4), M)
      else
        bd2 (itr (fun s => m_X12_keep_L30 s.2 a1 a2 s.1) FU (0, M)) fun y13 M14 =>
        if 0 ≤ wr a2 ∧ wr a2 < 4 then
        lt (sI M14 59 (wr a2) 1) fun M16 =>
        some (1, M16)
        else none
      else none
set_option maxRecDepth 10000 in
theorem lp_X12_keep_L30 {G : Gx} (p1 : Int) (p2 : Int)   (X : (Int × Mem) → Prop) (hX1 : ∀ (x3 : Int) (M : Mem), X (x3, M) → Ex G 2 cX12_keep RX12 4 64 [(0, vR 55), (1, vI p1), (2, vI p2), (3, vI x3)] [] M) : ∀ (nn : Nat) (x3 : Int) (M : Mem) (out : Int × Mem), itr (fun s => m_X12_keep_L30 s.2 p1 p2 s.1) nn (x3, M) = some out → X out → Ex G 2 cX12_keep RX12 4 30 [(0, vR 55), (1, vI p1), (2, vI p2), (3, vI x3)] [] M := by
  intro nn
  induction nn with
  | zero =>
    intro x3 M out h _
    cases h
  | succ nn ih =>
    intro x3 M out h0 hX
    obtain ⟨w, h, k1, k2⟩ := itr_inv h0
    have h : m_X12_keep_L30 M p1 p2 x3 = some w := h
    unfold m_X12_keep_L30 at h
    refine r_iload_n dX12_keep_30 rfl 3 rfl ?_
    refine r_bipush dX12_keep_31 (by decide) ?_
    by_cases c9 : wr 64 ≤ wr x3
    · rw [if_pos c9] at h
      refine r_icmp_ge (tgt := 64) dX12_keep_33 (by decide) (fun _ => ?_) (fun q => absurd c9 q)
      cases h
      cases k2 _ rfl
      exact hX1 _ _ hX
    · rw [if_neg c9] at h
      refine r_icmp_ge (tgt := 64) dX12_keep_33 (by decide) (fun q => absurd q c9) (fun _ => ?_)
      refine r_aload_n dX12_keep_36 rfl 0 rfl ?_
      refine r_getR (j := 6) (v := 60) dX12_keep_37 f_X12_23 rfl rfl rfl ?_
      refine r_bipush dX12_keep_40 (by decide) ?_
      refine r_iload_n dX12_keep_42 rfl 2 rfl ?_
      refine r_imul dX12_keep_43 ?_
      refine r_iload_n dX12_keep_44 rfl 3 rfl ?_
      refine r_iadd dX12_keep_45 ?_
      refine r_aload_n dX12_keep_46 rfl 0 rfl ?_
      refine r_getR (j := 6) (v := 60) dX12_keep_47 f_X12_23 rfl rfl rfl ?_
      refine r_bipush dX12_keep_50 (by decide) ?_
      refine r_iload_n dX12_keep_52 rfl 1 rfl ?_
      refine r_imul dX12_keep_53 ?_
      refine r_iload_n dX12_keep_54 rfl 3 rfl ?_
      refine r_iadd dX12_keep_55 ?_
      obtain ⟨c10, h⟩ := of_ck h
      refine r_iald dX12_keep_56 rfl c10 ?_
      obtain ⟨c11, h⟩ := of_ck h
      obtain ⟨M12, eM12, h⟩ := of_lt h
      refine r_iast dX12_keep_57 rfl c11 ?_
      rw [← eM12]
      refine r_iinc (lv2 := [(3, vI (x3 + 1)), (0, vR 55), (1, vI p1), (2, vI p2)]) dX12_keep_58 3 rfl (by decide) rfl ?_
      refine r_goto (tgt := 30) dX12_keep_61 (by decide) ?_
      refine r_sub (lv2 := [(0, vR 55), (1, vI p1), (2, vI p2), (3, vI (x3 + 1))]) [1, 2, 3, 0] rfl ?_
      cases h
      exact ih _ _  _ (k1 _ rfl) hX

set_option maxRecDepth 10000 in
theorem run_X12_keep {M : Mem} {M2 : Mem} {a1 : Int} {a2 : Int} {r : Int}   (h : m_X12_keep M a1 a2 = some (r, M2)) : RunI 2 yX12_keep cX12_keep 4 (some .int) [vR 55, vI a1, vI a2] M r M2 := by
  refine runI_of (lv := [(0, vR 55), (1, vI a1), (2, vI a2)]) (by decide +kernel) (Or.inl rfl) (Nat.le_of_ble_eq_true rfl) rfl ?_
  intro G hQ
  unfold m_X12_keep at h
  refine r_iload_n dX12_keep_0 rfl 1 rfl ?_
  obtain ⟨b2, hc1, h⟩ := of_bd1 h
  refine r_callSI (st := []) dX12_keep_1 v_X12_188 (run_X12_isSlot hc1) (by decide) (by decide) rfl (Nat.le_of_ble_eq_true rfl) rfl ?_
  by_cases c3 : wr (bI b2) = 0
  · rw [if_pos c3] at h
    refine r_if_eq (tgt := 14) dX12_keep_4 (by decide) (fun _ => ?_) (fun q => absurd c3 q)
    refine r_iconst dX12_keep_14 ?_
    cases h
    exact hQ _ _ dX12_keep_15
  · rw [if_neg c3] at h
    refine r_if_eq (tgt := 14) dX12_keep_4 (by decide) (fun q => absurd q c3) (fun _ => ?_)
    refine r_iload_n dX12_keep_7 rfl 2 rfl ?_
    obtain ⟨b5, hc4, h⟩ := of_bd1 h
    refine r_callSI (st := []) dX12_keep_8 v_X12_188 (run_X12_isSlot hc4) (by decide) (by decide) rfl (Nat.le_of_ble_eq_true rfl) rfl ?_
    by_cases c6 : wr (bI b5) = 0
    · rw [if_pos c6] at h
      refine r_if_ne (tgt := 16) dX12_keep_11 (by decide) (fun q => absurd c6 q) (fun _ => ?_)
      refine r_iconst dX12_keep_14 ?_
      cases h
      exact hQ _ _ dX12_keep_15
    · rw [if_neg c6] at h
      refine r_if_ne (tgt := 16) dX12_keep_11 (by decide) (fun _ => ?_) (fun q => absurd q c6)
      refine r_aload_n dX12_keep_16 rfl 0 rfl ?_
      refine r_getR (j := 5) (v := 59) dX12_keep_17 f_X12_20 rfl rfl rfl ?_
      refine r_iload_n dX12_keep_20 rfl 1 rfl ?_
      obtain ⟨c7, h⟩ := of_ck h
      refine r_zald dX12_keep_21 rfl c7 ?_
      by_cases c8 : wr (gI M 59 (wr a1)) = 0
      · rw [if_pos c8] at h
        refine r_if_ne (tgt := 28) dX12_keep_22 (by decide) (fun q => absurd c8 q) (fun _ => ?_)
        refine r_bipush dX12_keep_25 (by decide) ?_
        cases h
        exact hQ _ _ dX12_keep_27
      · rw [if_neg c8] at h
        refine r_if_ne (tgt := 28) dX12_keep_22 (by decide) (fun _ => ?_) (fun q => absurd q c8)
        refine r_iconst dX12_keep_28 ?_
        refine r_istore_n (lv2 := [(3, vI 0), (0, vR 55), (1, vI a1), (2, vI a2)]) dX12_keep_29 rfl (by decide) rfl ?_
        obtain ⟨y13, M14, h9, h⟩ := of_bd2 h
        refine r_sub (lv2 := [(0, vR 55), (1, vI a1), (2, vI a2), (3, vI 0)]) [1, 2, 3, 0] rfl ?_
        refine lp_X12_keep_L30 a1 a2  (fun w => w = (y13, M14)) ?_ FU 0 M _ h9 rfl
        intro z0 z1 hw
        cases hw
        refine r_aload_n dX12_keep_64 rfl 0 rfl ?_
        refine r_getR (j := 5) (v := 59) dX12_keep_65 f_X12_20 rfl rfl rfl ?_
        refine r_iload_n dX12_keep_68 rfl 2 rfl ?_
        refine r_iconst dX12_keep_69 ?_
        obtain ⟨c15, h⟩ := of_ck h
        obtain ⟨M16, eM16, h⟩ := of_lt h
        refine r_zast dX12_keep_70 rfl c15 (by decide) ?_
        rw [← eM16]
        refine r_iconst dX12_keep_71 ?_
        cases h
        exact hQ _ _ dX12_keep_72

def m_X12_bricks_L49 (M : Mem) (p1 : Int) (p2 : Int) (x5 : Int) : Option ((Int × Mem) ⊕ (Int × Mem)) :=
  if wr 64 ≤ wr x5 then
    some (.inr (x5, M))
  else
    bd1 (
      if wr ((gI M 55 0) * (gI M 55 1)) ≤ wr x5 then
        some (1)
      else
        if 0 ≤ wr x5 ∧ wr x5 < 64 then
        if wr (gI M 56 (wr x5)) = 0 then
          some (1)
        else
          some (0)
        else none) fun (v17 : Int) =>
    if 0 ≤ wr x5 ∧ wr x5 < 64 then
    if v17 = 0 ∨ v17 = 1 then
    lt (sI M 66 (wr x5) v17) fun M20 =>
    some (.inl ((x5 + 1), M20))
    else none
    else none
def m_X12_bricks_L101 (M : Mem) (p1 : Int) (p2 : Int) (x5 : Int) : Option ((Int × Mem) ⊕ ((Int × Mem) ⊕ (Int × Mem))) :=
  if 0 ≤ wr p2 ∧ wr p2 < 4 then
  if wr (gI M 77 (wr p2)) ≤ wr x5 then
    some (.inr (.inl (x5, M)))
  else
    if 0 ≤ wr ((64 * p2) + x5) ∧ wr ((64 * p2) + x5) < 256 then
    bd1 (m_X12_isBrick M (gI M 78 (wr ((64 * p2) + x5)))) fun b27 =>
    if wr (bI b27) = 0 then
      some (.inr (.inr ((-2), M)))
    else
      if 0 ≤ wr (idv (gI M 78 (wr ((64 * p2) + x5))) 2) ∧ wr (idv (gI M 78 (wr ((64 * p2) + x5))) 2) < 64 then
      if wr (gI M 66 (wr (idv (gI M 78 (wr ((64 * p2) + x5))) 2))) = 0 then
        bd1 (m_X12_otherOf M (gI M 78 (wr ((64 * p2) + x5)))) fun r32 =>
        if 0 ≤ wr r32 ∧ wr r32 < 64 then
        if wr (gI M 66 (wr r32)) = 0 then
          lt (sI M 66 (wr (idv (gI M 78 (wr ((64 * p2) + x5))) 2)) 1) fun M35 =>
          bd1 (m_X12_otherOf M35 (gI M 78 (wr ((64 * p2) + x5)))) fun r37 =>
          if 0 ≤ wr r37 ∧ wr r37 < 64 then
          lt (sI M35 66 (wr r37) 1) fun M39 =>
          some (.inl ((x5 + 1), M39))
          else none
        else
          some (.inr (.inr ((-2), M)))
        else none
      else
        some (.inr (.inr ((-2), M)))
      else none
    else none
  else none
def m_X12_bricks_L195 (M : Mem) (p1 : Int) (p2 : Int) (x5 : Int) : Option ((Int) ⊕ ((Int) ⊕ (Int × Mem))) :=
  if wr 64 ≤ wr x5 then
    some (.inr (.inl (x5)))
  else
    if 0 ≤ wr x5 ∧ wr x5 < 64 then
    if wr (gI M 66 (wr x5)) = 0 then
      some (.inr (.inr ((-2), M)))
    else
      some (.inl ((x5 + 1)))
    else none
def m_X12_bricks_L224 (M : Mem) (p1 : Int) (p2 : Int) (x5 : Int) : Option ((Int × Mem) ⊕ (Int × Mem)) :=
  if 0 ≤ wr p2 ∧ wr p2 < 4 then
  if wr (gI M 77 (wr p2)) ≤ wr x5 then
    some (.inr (x5, M))
  else
    if 0 ≤ wr ((64 * p2) + x5) ∧ wr ((64 * p2) + x5) < 256 then
    bd1 (m_X12_lays M p1 (gI M 78 (wr ((64 * p2) + x5)))) fun M50 =>
    some (.inl ((x5 + 1), M50))
    else none
  else none
def m_X12_bricks (M : Mem) (a1 : Int) (a2 : Int) (a3 : Int) : Option (Int × Mem) :=
  bd1 (m_X12_isSlot a1) fun b2 =>
  if wr (bI b2) = 0 then
    some ((-1), M)
  else
    bd1 (m_X12_isSheet a2) fun b5 =>
    if wr (bI b5) = 0 then
      some ((-1), M)
    else
      bd1 (m_X12_in (i2l a3) (1 : Int64) (2)) fun b8 =>
      if wr (bI b8) = 0 then
        some ((-1), M)
      else
        bd1 (m_X12_finds M a2 a3 0 0) fun r11 =>
        if 0 ≤ wr r11 then
          bd2 (itr (fun s => m_X12_bricks_L49 s.2 a1 a2 s.1) FU (0, M)) fun y21 M22 =>
          be2 (itr (fun s => m_X12_bricks_L101 s.2 a1 a2 s.1) FU (0, M22)) (fun y40 M41 =>
          be1 (itr (fun s => m_X12_bricks_L195 M41 a1 a2 s) FU (0)) (fun y45 =>
          bd2 (itr (fun s => m_X12_bricks_L224 s.2 a1 a2 s.1) FU (0, M41)) fun y51 M52 =>
          if 0 ≤ wr a1 ∧ wr a1 < 4 then
          lt (sI M52 59 (wr a1) 1) fun M54 =>
          some (1, M54)
          else none))
        else
          some (r11, M)
set_option maxRecDepth 10000 in
theorem lp_X12_bricks_L49 {G : Gx} (p1 : Int) (p2 : Int)   (X : (Int × Mem) → Prop) (hX1 : ∀ (x5 : Int) (M : Mem), X (x5, M) → Ex G 2 cX12_bricks RX12 7 98 [(0, vR 55), (1, vI p1), (2, vI p2), (5, vI x5)] [] M) : ∀ (nn : Nat) (x5 : Int) (M : Mem) (out : Int × Mem), itr (fun s => m_X12_bricks_L49 s.2 p1 p2 s.1) nn (x5, M) = some out → X out → Ex G 2 cX12_bricks RX12 7 49 [(0, vR 55), (1, vI p1), (2, vI p2), (5, vI x5)] [] M := by
  intro nn
  induction nn with
  | zero =>
    intro x5 M out h _
    cases h
  | succ nn ih =>
    intro x5 M out h0 hX
    obtain ⟨w, h, k1, k2⟩ := itr_inv h0
    have h : m_X12_bricks_L49 M p1 p2 x5 = some w := h
    unfold m_X12_bricks_L49 at h
    refine r_iload dX12_bricks_49 3 rfl ?_
    refine r_bipush dX12_bricks_51 (by decide) ?_
    by_cases c13 : wr 64 ≤ wr x5
    · rw [if_pos c13] at h
      refine r_icmp_ge (tgt := 98) dX12_bricks_53 (by decide) (fun _ => ?_) (fun q => absurd c13 q)
      cases h
      cases k2 _ rfl
      exact hX1 _ _ hX
    · rw [if_neg c13] at h
      refine r_icmp_ge (tgt := 98) dX12_bricks_53 (by decide) (fun q => absurd q c13) (fun _ => ?_)
      refine r_aload_n dX12_bricks_56 rfl 0 rfl ?_
      refine r_getR (j := 14) (v := 66) dX12_bricks_57 f_X12_42 rfl rfl rfl ?_
      refine r_iload dX12_bricks_60 3 rfl ?_
      refine r_iload dX12_bricks_62 3 rfl ?_
      refine r_aload_n dX12_bricks_64 rfl 0 rfl ?_
      refine r_getI (j := 0) (jz := 0) dX12_bricks_65 f_X12_88 rfl rfl rfl ?_
      refine r_aload_n dX12_bricks_68 rfl 0 rfl ?_
      refine r_getI (j := 1) (jz := 1) dX12_bricks_69 f_X12_92 rfl rfl rfl ?_
      refine r_imul dX12_bricks_72 ?_
      obtain ⟨v17, h9, h⟩ := of_bd1 h
      have kJ : Ex G 2 cX12_bricks RX12 7 91 [(0, vR 55), (1, vI p1), (2, vI p2), (5, vI x5)] [vI v17, vI x5, vR 66] M := by
        obtain ⟨c18, h⟩ := of_ck h
        obtain ⟨c19, h⟩ := of_ck h
        obtain ⟨M20, eM20, h⟩ := of_lt h
        refine r_zast dX12_bricks_91 rfl c18 c19 ?_
        rw [← eM20]
        refine r_iinc (lv2 := [(5, vI (x5 + 1)), (0, vR 55), (1, vI p1), (2, vI p2)]) dX12_bricks_92 3 rfl (by decide) rfl ?_
        refine r_goto (tgt := 49) dX12_bricks_95 (by decide) ?_
        refine r_sub (lv2 := [(0, vR 55), (1, vI p1), (2, vI p2), (5, vI (x5 + 1))]) [1, 2, 3, 0] rfl ?_
        cases h
        exact ih _ _  _ (k1 _ rfl) hX
      clear h
      have h := h9
      clear h9
      by_cases c14 : wr ((gI M 55 0) * (gI M 55 1)) ≤ wr x5
      · rw [if_pos c14] at h
        refine r_icmp_ge (tgt := 86) dX12_bricks_73 (by decide) (fun _ => ?_) (fun q => absurd c14 q)
        refine r_iconst dX12_bricks_86 ?_
        refine r_goto (tgt := 91) dX12_bricks_87 (by decide) ?_
        cases h
        exact kJ
      · rw [if_neg c14] at h
        refine r_icmp_ge (tgt := 86) dX12_bricks_73 (by decide) (fun q => absurd q c14) (fun _ => ?_)
        refine r_aload_n dX12_bricks_76 rfl 0 rfl ?_
        refine r_getR (j := 2) (v := 56) dX12_bricks_77 f_X12_7 rfl rfl rfl ?_
        refine r_iload dX12_bricks_80 3 rfl ?_
        obtain ⟨c15, h⟩ := of_ck h
        refine r_zald dX12_bricks_82 rfl c15 ?_
        by_cases c16 : wr (gI M 56 (wr x5)) = 0
        · rw [if_pos c16] at h
          refine r_if_ne (tgt := 90) dX12_bricks_83 (by decide) (fun q => absurd c16 q) (fun _ => ?_)
          refine r_iconst dX12_bricks_86 ?_
          refine r_goto (tgt := 91) dX12_bricks_87 (by decide) ?_
          cases h
          exact kJ
        · rw [if_neg c16] at h
          refine r_if_ne (tgt := 90) dX12_bricks_83 (by decide) (fun _ => ?_) (fun q => absurd q c16)
          refine r_iconst dX12_bricks_90 ?_
          cases h
          exact kJ

set_option maxRecDepth 10000 in
theorem lp_X12_bricks_L101 {G : Gx} (p1 : Int) (p2 : Int)   (X : ((Int × Mem) ⊕ (Int × Mem)) → Prop) (hX1 : ∀ (x5 : Int) (M : Mem), X (.inl (x5, M)) → Ex G 2 cX12_bricks RX12 7 192 [(0, vR 55), (1, vI p1), (2, vI p2), (5, vI x5)] [] M) (hX2 : ∀ (r : Int) (M2 : Mem), X (.inr (r, M2)) → RetI G 2 cX12_bricks RX12 7 r M2) : ∀ (nn : Nat) (x5 : Int) (M : Mem) (out : (Int × Mem) ⊕ (Int × Mem)), itr (fun s => m_X12_bricks_L101 s.2 p1 p2 s.1) nn (x5, M) = some out → X out → Ex G 2 cX12_bricks RX12 7 101 [(0, vR 55), (1, vI p1), (2, vI p2), (5, vI x5)] [] M := by
  intro nn
  induction nn with
  | zero =>
    intro x5 M out h _
    cases h
  | succ nn ih =>
    intro x5 M out h0 hX
    obtain ⟨w, h, k1, k2⟩ := itr_inv h0
    have h : m_X12_bricks_L101 M p1 p2 x5 = some w := h
    unfold m_X12_bricks_L101 at h
    refine r_iload dX12_bricks_101 3 rfl ?_
    refine r_aload_n dX12_bricks_103 rfl 0 rfl ?_
    refine r_getR (j := 25) (v := 77) dX12_bricks_104 f_X12_75 rfl rfl rfl ?_
    refine r_iload_n dX12_bricks_107 rfl 2 rfl ?_
    obtain ⟨c23, h⟩ := of_ck h
    refine r_iald dX12_bricks_108 rfl c23 ?_
    by_cases c24 : wr (gI M 77 (wr p2)) ≤ wr x5
    · rw [if_pos c24] at h
      refine r_icmp_ge (tgt := 192) dX12_bricks_109 (by decide) (fun _ => ?_) (fun q => absurd c24 q)
      cases h
      cases k2 _ rfl
      exact hX1 _ _ hX
    · rw [if_neg c24] at h
      refine r_icmp_ge (tgt := 192) dX12_bricks_109 (by decide) (fun q => absurd q c24) (fun _ => ?_)
      refine r_aload_n dX12_bricks_112 rfl 0 rfl ?_
      refine r_getR (j := 26) (v := 78) dX12_bricks_113 f_X12_78 rfl rfl rfl ?_
      refine r_bipush dX12_bricks_116 (by decide) ?_
      refine r_iload_n dX12_bricks_118 rfl 2 rfl ?_
      refine r_imul dX12_bricks_119 ?_
      refine r_iload dX12_bricks_120 3 rfl ?_
      refine r_iadd dX12_bricks_122 ?_
      obtain ⟨c25, h⟩ := of_ck h
      refine r_iald dX12_bricks_123 rfl c25 ?_
      refine r_istore (lv2 := [(6, vI (gI M 78 (wr ((64 * p2) + x5)))), (0, vR 55), (1, vI p1), (2, vI p2), (5, vI x5)]) dX12_bricks_124 (by decide) rfl ?_
      refine r_aload_n dX12_bricks_126 rfl 1 rfl ?_
      refine r_iload dX12_bricks_127 0 rfl ?_
      obtain ⟨b27, hc26, h⟩ := of_bd1 h
      refine r_callVI (st := []) dX12_bricks_129 v_X12_153 (run_X12_isBrick hc26) (by decide) (by decide) rfl rfl (Nat.le_of_ble_eq_true rfl) rfl ?_
      by_cases c28 : wr (bI b27) = 0
      · rw [if_pos c28] at h
        refine r_if_eq (tgt := 161) dX12_bricks_132 (by decide) (fun _ => ?_) (fun q => absurd c28 q)
        refine r_bipush dX12_bricks_161 (by decide) ?_
        cases h
        cases k2 _ rfl
        exact hX2 _ _ hX _ _ dX12_bricks_163
      · rw [if_neg c28] at h
        refine r_if_eq (tgt := 161) dX12_bricks_132 (by decide) (fun q => absurd q c28) (fun _ => ?_)
        refine r_aload_n dX12_bricks_135 rfl 1 rfl ?_
        refine r_getR (j := 14) (v := 66) dX12_bricks_136 f_X12_42 rfl rfl rfl ?_
        refine r_iload dX12_bricks_139 0 rfl ?_
        refine r_iconst dX12_bricks_141 ?_
        refine r_idiv dX12_bricks_142 (by decide) ?_
        obtain ⟨c29, h⟩ := of_ck h
        refine r_zald dX12_bricks_143 rfl c29 ?_
        by_cases c30 : wr (gI M 66 (wr (idv (gI M 78 (wr ((64 * p2) + x5))) 2))) = 0
        · rw [if_pos c30] at h
          refine r_if_ne (tgt := 161) dX12_bricks_144 (by decide) (fun q => absurd c30 q) (fun _ => ?_)
          refine r_aload_n dX12_bricks_147 rfl 1 rfl ?_
          refine r_getR (j := 14) (v := 66) dX12_bricks_148 f_X12_42 rfl rfl rfl ?_
          refine r_aload_n dX12_bricks_151 rfl 1 rfl ?_
          refine r_iload dX12_bricks_152 0 rfl ?_
          obtain ⟨r32, hc31, h⟩ := of_bd1 h
          refine r_callVI (st := [vR 66]) dX12_bricks_154 v_X12_108 (run_X12_otherOf hc31) (by decide) (by decide) rfl rfl (Nat.le_of_ble_eq_true rfl) rfl ?_
          obtain ⟨c33, h⟩ := of_ck h
          refine r_zald dX12_bricks_157 rfl c33 ?_
          by_cases c34 : wr (gI M 66 (wr r32)) = 0
          · rw [if_pos c34] at h
            refine r_if_eq (tgt := 164) dX12_bricks_158 (by decide) (fun _ => ?_) (fun q => absurd c34 q)
            refine r_aload_n dX12_bricks_164 rfl 1 rfl ?_
            refine r_getR (j := 14) (v := 66) dX12_bricks_165 f_X12_42 rfl rfl rfl ?_
            refine r_iload dX12_bricks_168 0 rfl ?_
            refine r_iconst dX12_bricks_170 ?_
            refine r_idiv dX12_bricks_171 (by decide) ?_
            refine r_iconst dX12_bricks_172 ?_
            obtain ⟨M35, eM35, h⟩ := of_lt h
            refine r_zast dX12_bricks_173 rfl c29 (by decide) ?_
            rw [← eM35]
            refine r_aload_n dX12_bricks_174 rfl 1 rfl ?_
            refine r_getR (j := 14) (v := 66) dX12_bricks_175 f_X12_42 rfl rfl rfl ?_
            refine r_aload_n dX12_bricks_178 rfl 1 rfl ?_
            refine r_iload dX12_bricks_179 0 rfl ?_
            obtain ⟨r37, hc36, h⟩ := of_bd1 h
            refine r_callVI (st := [vR 66]) dX12_bricks_181 v_X12_108 (run_X12_otherOf hc36) (by decide) (by decide) rfl rfl (Nat.le_of_ble_eq_true rfl) rfl ?_
            refine r_iconst dX12_bricks_184 ?_
            obtain ⟨c38, h⟩ := of_ck h
            obtain ⟨M39, eM39, h⟩ := of_lt h
            refine r_zast dX12_bricks_185 rfl c38 (by decide) ?_
            rw [← eM39]
            refine r_iinc (lv2 := [(5, vI (x5 + 1)), (6, vI (gI M 78 (wr ((64 * p2) + x5)))), (0, vR 55), (1, vI p1), (2, vI p2)]) dX12_bricks_186 4 rfl (by decide) rfl ?_
            refine r_goto (tgt := 101) dX12_bricks_189 (by decide) ?_
            refine r_sub (lv2 := [(0, vR 55), (1, vI p1), (2, vI p2), (5, vI (x5 + 1))]) [2, 3, 4, 0] rfl ?_
            cases h
            exact ih _ _  _ (k1 _ rfl) hX
          · rw [if_neg c34] at h
            refine r_if_eq (tgt := 164) dX12_bricks_158 (by decide) (fun q => absurd q c34) (fun _ => ?_)
            refine r_bipush dX12_bricks_161 (by decide) ?_
            cases h
            cases k2 _ rfl
            exact hX2 _ _ hX _ _ dX12_bricks_163
        · rw [if_neg c30] at h
          refine r_if_ne (tgt := 161) dX12_bricks_144 (by decide) (fun _ => ?_) (fun q => absurd q c30)
          refine r_bipush dX12_bricks_161 (by decide) ?_
          cases h
          cases k2 _ rfl
          exact hX2 _ _ hX _ _ dX12_bricks_163

set_option maxRecDepth 10000 in
theorem lp_X12_bricks_L195 {G : Gx} (M : Mem) (p1 : Int) (p2 : Int)   (X : ((Int) ⊕ (Int × Mem)) → Prop) (hX1 : ∀ (x5 : Int), X (.inl (x5)) → Ex G 2 cX12_bricks RX12 7 221 [(0, vR 55), (1, vI p1), (2, vI p2), (5, vI x5)] [] M) (hX2 : ∀ (r : Int) (M2 : Mem), X (.inr (r, M2)) → RetI G 2 cX12_bricks RX12 7 r M2) : ∀ (nn : Nat) (x5 : Int) (out : (Int) ⊕ (Int × Mem)), itr (fun s => m_X12_bricks_L195 M p1 p2 s) nn (x5) = some out → X out → Ex G 2 cX12_bricks RX12 7 195 [(0, vR 55), (1, vI p1), (2, vI p2), (5, vI x5)] [] M := by
  intro nn
  induction nn with
  | zero =>
    intro x5 out h _
    cases h
  | succ nn ih =>
    intro x5 out h0 hX
    obtain ⟨w, h, k1, k2⟩ := itr_inv h0
    have h : m_X12_bricks_L195 M p1 p2 x5 = some w := h
    unfold m_X12_bricks_L195 at h
    refine r_iload dX12_bricks_195 3 rfl ?_
    refine r_bipush dX12_bricks_197 (by decide) ?_
    by_cases c42 : wr 64 ≤ wr x5
    · rw [if_pos c42] at h
      refine r_icmp_ge (tgt := 221) dX12_bricks_199 (by decide) (fun _ => ?_) (fun q => absurd c42 q)
      cases h
      cases k2 _ rfl
      exact hX1 _ hX
    · rw [if_neg c42] at h
      refine r_icmp_ge (tgt := 221) dX12_bricks_199 (by decide) (fun q => absurd q c42) (fun _ => ?_)
      refine r_aload_n dX12_bricks_202 rfl 0 rfl ?_
      refine r_getR (j := 14) (v := 66) dX12_bricks_203 f_X12_42 rfl rfl rfl ?_
      refine r_iload dX12_bricks_206 3 rfl ?_
      obtain ⟨c43, h⟩ := of_ck h
      refine r_zald dX12_bricks_208 rfl c43 ?_
      by_cases c44 : wr (gI M 66 (wr x5)) = 0
      · rw [if_pos c44] at h
        refine r_if_ne (tgt := 215) dX12_bricks_209 (by decide) (fun q => absurd c44 q) (fun _ => ?_)
        refine r_bipush dX12_bricks_212 (by decide) ?_
        cases h
        cases k2 _ rfl
        exact hX2 _ _ hX _ _ dX12_bricks_214
      · rw [if_neg c44] at h
        refine r_if_ne (tgt := 215) dX12_bricks_209 (by decide) (fun _ => ?_) (fun q => absurd q c44)
        refine r_iinc (lv2 := [(5, vI (x5 + 1)), (0, vR 55), (1, vI p1), (2, vI p2)]) dX12_bricks_215 3 rfl (by decide) rfl ?_
        refine r_goto (tgt := 195) dX12_bricks_218 (by decide) ?_
        refine r_sub (lv2 := [(0, vR 55), (1, vI p1), (2, vI p2), (5, vI (x5 + 1))]) [1, 2, 3, 0] rfl ?_
        cases h
        exact ih _  _ (k1 _ rfl) hX

set_option maxRecDepth 10000 in
theorem lp_X12_bricks_L224 {G : Gx} (p1 : Int) (p2 : Int)   (X : (Int × Mem) → Prop) (hX1 : ∀ (x5 : Int) (M : Mem), X (x5, M) → Ex G 2 cX12_bricks RX12 7 258 [(0, vR 55), (1, vI p1), (2, vI p2), (5, vI x5)] [] M) : ∀ (nn : Nat) (x5 : Int) (M : Mem) (out : Int × Mem), itr (fun s => m_X12_bricks_L224 s.2 p1 p2 s.1) nn (x5, M) = some out → X out → Ex G 2 cX12_bricks RX12 7 224 [(0, vR 55), (1, vI p1), (2, vI p2), (5, vI x5)] [] M := by
  intro nn
  induction nn with
  | zero =>
    intro x5 M out h _
    cases h
  | succ nn ih =>
    intro x5 M out h0 hX
    obtain ⟨w, h, k1, k2⟩ := itr_inv h0
    have h : m_X12_bricks_L224 M p1 p2 x5 = some w := h
    unfold m_X12_bricks_L224 at h
    refine r_iload dX12_bricks_224 3 rfl ?_
    refine r_aload_n dX12_bricks_226 rfl 0 rfl ?_
    refine r_getR (j := 25) (v := 77) dX12_bricks_227 f_X12_75 rfl rfl rfl ?_
    refine r_iload_n dX12_bricks_230 rfl 2 rfl ?_
    obtain ⟨c46, h⟩ := of_ck h
    refine r_iald dX12_bricks_231 rfl c46 ?_
    by_cases c47 : wr (gI M 77 (wr p2)) ≤ wr x5
    · rw [if_pos c47] at h
      refine r_icmp_ge (tgt := 258) dX12_bricks_232 (by decide) (fun _ => ?_) (fun q => absurd c47 q)
      cases h
      cases k2 _ rfl
      exact hX1 _ _ hX
    · rw [if_neg c47] at h
      refine r_icmp_ge (tgt := 258) dX12_bricks_232 (by decide) (fun q => absurd q c47) (fun _ => ?_)
      refine r_aload_n dX12_bricks_235 rfl 0 rfl ?_
      refine r_iload_n dX12_bricks_236 rfl 1 rfl ?_
      refine r_aload_n dX12_bricks_237 rfl 0 rfl ?_
      refine r_getR (j := 26) (v := 78) dX12_bricks_238 f_X12_78 rfl rfl rfl ?_
      refine r_bipush dX12_bricks_241 (by decide) ?_
      refine r_iload_n dX12_bricks_243 rfl 2 rfl ?_
      refine r_imul dX12_bricks_244 ?_
      refine r_iload dX12_bricks_245 3 rfl ?_
      refine r_iadd dX12_bricks_247 ?_
      obtain ⟨c48, h⟩ := of_ck h
      refine r_iald dX12_bricks_248 rfl c48 ?_
      obtain ⟨M50, hc49, h⟩ := of_bd1 h
      refine r_callVV (st := []) dX12_bricks_249 v_X12_191 (run_X12_lays hc49) (by decide) (by decide) rfl rfl (Nat.le_of_ble_eq_true rfl) rfl ?_
      refine r_iinc (lv2 := [(5, vI (x5 + 1)), (0, vR 55), (1, vI p1), (2, vI p2)]) dX12_bricks_252 3 rfl (by decide) rfl ?_
      refine r_goto (tgt := 224) dX12_bricks_255 (by decide) ?_
      refine r_sub (lv2 := [(0, vR 55), (1, vI p1), (2, vI p2), (5, vI (x5 + 1))]) [1, 2, 3, 0] rfl ?_
      cases h
      exact ih _ _  _ (k1 _ rfl) hX

set_option maxRecDepth 10000 in
theorem run_X12_bricks {M : Mem} {M2 : Mem} {a1 : Int} {a2 : Int} {a3 : Int} {r : Int}   (h : m_X12_bricks M a1 a2 a3 = some (r, M2)) : RunI 2 yX12_bricks cX12_bricks 7 (some .int) [vR 55, vI a1, vI a2, vI a3] M r M2 := by
  refine runI_of (lv := [(0, vR 55), (1, vI a1), (2, vI a2), (3, vI a3)]) (by decide +kernel) (Or.inl rfl) (Nat.le_of_ble_eq_true rfl) rfl ?_
  intro G hQ
  unfold m_X12_bricks at h
  refine r_iload_n dX12_bricks_0 rfl 1 rfl ?_
  obtain ⟨b2, hc1, h⟩ := of_bd1 h
  refine r_callSI (st := []) dX12_bricks_1 v_X12_188 (run_X12_isSlot hc1) (by decide) (by decide) rfl (Nat.le_of_ble_eq_true rfl) rfl ?_
  by_cases c3 : wr (bI b2) = 0
  · rw [if_pos c3] at h
    refine r_if_eq (tgt := 26) dX12_bricks_4 (by decide) (fun _ => ?_) (fun q => absurd c3 q)
    refine r_iconst dX12_bricks_26 ?_
    cases h
    exact hQ _ _ dX12_bricks_27
  · rw [if_neg c3] at h
    refine r_if_eq (tgt := 26) dX12_bricks_4 (by decide) (fun q => absurd q c3) (fun _ => ?_)
    refine r_iload_n dX12_bricks_7 rfl 2 rfl ?_
    obtain ⟨b5, hc4, h⟩ := of_bd1 h
    refine r_callSI (st := []) dX12_bricks_8 v_X12_143 (run_X12_isSheet hc4) (by decide) (by decide) rfl (Nat.le_of_ble_eq_true rfl) rfl ?_
    by_cases c6 : wr (bI b5) = 0
    · rw [if_pos c6] at h
      refine r_if_eq (tgt := 26) dX12_bricks_11 (by decide) (fun _ => ?_) (fun q => absurd c6 q)
      refine r_iconst dX12_bricks_26 ?_
      cases h
      exact hQ _ _ dX12_bricks_27
    · rw [if_neg c6] at h
      refine r_if_eq (tgt := 26) dX12_bricks_11 (by decide) (fun q => absurd q c6) (fun _ => ?_)
      refine r_iload_n dX12_bricks_14 rfl 3 rfl ?_
      refine r_i2l dX12_bricks_15 ?_
      refine r_lconst (v := 1) dX12_bricks_16 rfl ?_
      refine r_ldc2 (v := (2)) dX12_bricks_17 kl_X12_156 ?_
      obtain ⟨b8, hc7, h⟩ := of_bd1 h
      refine r_callSI (st := []) dX12_bricks_20 v_X12_100 (run_X12_in hc7) (by decide) (by decide) rfl (Nat.le_of_ble_eq_true rfl) rfl ?_
      by_cases c9 : wr (bI b8) = 0
      · rw [if_pos c9] at h
        refine r_if_ne (tgt := 28) dX12_bricks_23 (by decide) (fun q => absurd c9 q) (fun _ => ?_)
        refine r_iconst dX12_bricks_26 ?_
        cases h
        exact hQ _ _ dX12_bricks_27
      · rw [if_neg c9] at h
        refine r_if_ne (tgt := 28) dX12_bricks_23 (by decide) (fun _ => ?_) (fun q => absurd q c9)
        refine r_aload_n dX12_bricks_28 rfl 0 rfl ?_
        refine r_iload_n dX12_bricks_29 rfl 2 rfl ?_
        refine r_iload_n dX12_bricks_30 rfl 3 rfl ?_
        refine r_iconst dX12_bricks_31 ?_
        refine r_iconst dX12_bricks_32 ?_
        obtain ⟨r11, hc10, h⟩ := of_bd1 h
        refine r_callVI (st := []) dX12_bricks_33 v_X12_146 (run_X12_finds hc10) (by decide) (by decide) rfl rfl (Nat.le_of_ble_eq_true rfl) rfl ?_
        refine r_istore (lv2 := [(4, vI r11), (0, vR 55), (1, vI a1), (2, vI a2), (3, vI a3)]) dX12_bricks_36 (by decide) rfl ?_
        refine r_iload dX12_bricks_38 0 rfl ?_
        by_cases c12 : 0 ≤ wr r11
        · rw [if_pos c12] at h
          refine r_if_ge (tgt := 46) dX12_bricks_40 (by decide) (fun _ => ?_) (fun q => absurd c12 q)
          refine r_iconst dX12_bricks_46 ?_
          refine r_istore (lv2 := [(5, vI 0), (4, vI r11), (0, vR 55), (1, vI a1), (2, vI a2), (3, vI a3)]) dX12_bricks_47 (by decide) rfl ?_
          obtain ⟨y21, M22, h9, h⟩ := of_bd2 h
          refine r_sub (lv2 := [(0, vR 55), (1, vI a1), (2, vI a2), (5, vI 0)]) [2, 3, 4, 0] rfl ?_
          refine lp_X12_bricks_L49 a1 a2  (fun w => w = (y21, M22)) ?_ FU 0 M _ h9 rfl
          intro z0 z1 hw
          cases hw
          refine r_iconst dX12_bricks_98 ?_
          refine r_istore (lv2 := [(5, vI 0), (0, vR 55), (1, vI a1), (2, vI a2)]) dX12_bricks_99 (by decide) rfl ?_
          obtain ⟨w9, h9, h⟩ := of_be2 h
          refine r_sub (lv2 := [(0, vR 55), (1, vI a1), (2, vI a2), (5, vI 0)]) [1, 2, 3, 0] rfl ?_
          refine lp_X12_bricks_L101 a1 a2  (fun w => w = w9) ?_ ?_ FU 0 M22 w9 h9 rfl
          · intro y40 M41 hw
            subst hw
            have h := h.1 _ _  rfl
            refine r_iconst dX12_bricks_192 ?_
            refine r_istore (lv2 := [(5, vI 0), (0, vR 55), (1, vI a1), (2, vI a2)]) dX12_bricks_193 (by decide) rfl ?_
            obtain ⟨w9, h9, h⟩ := of_be1 h
            refine r_sub (lv2 := [(0, vR 55), (1, vI a1), (2, vI a2), (5, vI 0)]) [1, 2, 3, 0] rfl ?_
            refine lp_X12_bricks_L195 M41 a1 a2  (fun w => w = w9) ?_ ?_ FU 0 w9 h9 rfl
            · intro y45 hw
              subst hw
              have h := h.1 _  rfl
              refine r_iconst dX12_bricks_221 ?_
              refine r_istore (lv2 := [(5, vI 0), (0, vR 55), (1, vI a1), (2, vI a2)]) dX12_bricks_222 (by decide) rfl ?_
              obtain ⟨y51, M52, h9, h⟩ := of_bd2 h
              refine r_sub (lv2 := [(0, vR 55), (1, vI a1), (2, vI a2), (5, vI 0)]) [1, 2, 3, 0] rfl ?_
              refine lp_X12_bricks_L224 a1 a2  (fun w => w = (y51, M52)) ?_ FU 0 M41 _ h9 rfl
              intro z0 z1 hw
              cases hw
              refine r_aload_n dX12_bricks_258 rfl 0 rfl ?_
              refine r_getR (j := 5) (v := 59) dX12_bricks_259 f_X12_20 rfl rfl rfl ?_
              refine r_iload_n dX12_bricks_262 rfl 1 rfl ?_
              refine r_iconst dX12_bricks_263 ?_
              obtain ⟨c53, h⟩ := of_ck h
              obtain ⟨M54, eM54, h⟩ := of_lt h
              refine r_zast dX12_bricks_264 rfl c53 (by decide) ?_
              rw [← eM54]
              refine r_iconst dX12_bricks_265 ?_
              cases h
              exact hQ _ _ dX12_bricks_266
            · intro r9 M9 hw
              subst hw
              have h := h.2 _ rfl
              cases h
              exact hQ
          · intro r9 M9 hw
            subst hw
            have h := h.2 _ rfl
            cases h
            exact hQ
        · rw [if_neg c12] at h
          refine r_if_ge (tgt := 46) dX12_bricks_40 (by decide) (fun q => absurd q c12) (fun _ => ?_)
          refine r_iload dX12_bricks_43 0 rfl ?_
          cases h
          exact hQ _ _ dX12_bricks_45

def m_X12_beside (M : Mem) (a1 : Int) (a2 : Int) : Option (Int) :=
  if ¬ wr (gI M 55 0) = 0 then
  lt (if wr a2 = 0 then 1 else (if wr a2 = wr 2 then (-1) else 0)) fun (v4 : Int) =>
  lt (if wr a2 = wr 1 then 1 else (if wr a2 = wr 3 then (-1) else 0)) fun (v7 : Int) =>
  bd1 (m_X12_isOpenAt M ((irm a1 (gI M 55 0)) + v4) ((idv a1 (gI M 55 0)) + v7)) fun b9 =>
  lt (if wr (bI b9) = 0 then (-1) else (((gI M 55 0) * ((idv a1 (gI M 55 0)) + v7)) + ((irm a1 (gI M 55 0)) + v4))) fun (v11 : Int) =>
  some v11
  else none
set_option maxRecDepth 10000 in
theorem run_X12_beside {M : Mem} {a1 : Int} {a2 : Int} {r : Int}   (h : m_X12_beside M a1 a2 = some r) : RunI 2 yX12_beside cX12_beside 5 (some .int) [vR 55, vI a1, vI a2] M r M := by
  refine runI_of (lv := [(0, vR 55), (1, vI a1), (2, vI a2)]) (by decide +kernel) (Or.inl rfl) (Nat.le_of_ble_eq_true rfl) rfl ?_
  intro G hQ
  unfold m_X12_beside at h
  refine r_iload_n dX12_beside_0 rfl 1 rfl ?_
  refine r_aload_n dX12_beside_1 rfl 0 rfl ?_
  refine r_getI (j := 0) (jz := 0) dX12_beside_2 f_X12_88 rfl rfl rfl ?_
  obtain ⟨c1, h⟩ := of_ck h
  refine r_irem dX12_beside_5 c1 ?_
  refine r_iload_n dX12_beside_6 rfl 2 rfl ?_
  obtain ⟨v4, ev4, h⟩ := of_lt h
  have kJ : Ex G 2 cX12_beside RX12 5 24 [(0, vR 55), (1, vI a1), (2, vI a2)] [vI v4, vI (irm a1 (gI M 55 0))] M := by
    refine r_iadd dX12_beside_24 ?_
    refine r_istore_n (lv2 := [(3, vI ((irm a1 (gI M 55 0)) + v4)), (0, vR 55), (1, vI a1), (2, vI a2)]) dX12_beside_25 rfl (by decide) rfl ?_
    refine r_iload_n dX12_beside_26 rfl 2 rfl ?_
    refine r_aload_n dX12_beside_27 rfl 1 rfl ?_
    refine r_getI (j := 0) (jz := 0) dX12_beside_28 f_X12_88 rfl rfl rfl ?_
    refine r_idiv dX12_beside_31 c1 ?_
    refine r_iload_n dX12_beside_32 rfl 3 rfl ?_
    refine r_iconst dX12_beside_33 ?_
    obtain ⟨v7, ev7, h⟩ := of_lt h
    have kJ : Ex G 2 cX12_beside RX12 5 51 [(0, vR 55), (3, vI ((irm a1 (gI M 55 0)) + v4))] [vI v7, vI (idv a1 (gI M 55 0))] M := by
      refine r_iadd dX12_beside_51 ?_
      refine r_istore (lv2 := [(4, vI ((idv a1 (gI M 55 0)) + v7)), (0, vR 55), (3, vI ((irm a1 (gI M 55 0)) + v4))]) dX12_beside_52 (by decide) rfl ?_
      refine r_aload_n dX12_beside_54 rfl 1 rfl ?_
      refine r_iload_n dX12_beside_55 rfl 2 rfl ?_
      refine r_iload dX12_beside_56 0 rfl ?_
      obtain ⟨b9, hc8, h⟩ := of_bd1 h
      refine r_callVI (st := []) dX12_beside_58 v_X12_210 (run_X12_isOpenAt hc8) (by decide) (by decide) rfl rfl (Nat.le_of_ble_eq_true rfl) rfl ?_
      obtain ⟨v11, ev11, h⟩ := of_lt h
      have kJ : Ex G 2 cX12_beside RX12 5 77 [] [vI v11] M := by
        cases h
        exact hQ _ _ dX12_beside_77
      clear h
      by_cases c10 : wr (bI b9) = 0
      · skip
        refine r_if_eq (tgt := 76) dX12_beside_61 (by decide) (fun _ => ?_) (fun q => absurd c10 q)
        refine r_iconst dX12_beside_76 ?_
        rw [show v11 = (-1) from by rw [ev11, if_pos c10]] at kJ
        refine r_sub (lv2 := []) [] rfl ?_
        exact kJ
      · skip
        refine r_if_eq (tgt := 76) dX12_beside_61 (by decide) (fun q => absurd q c10) (fun _ => ?_)
        refine r_aload_n dX12_beside_64 rfl 1 rfl ?_
        refine r_getI (j := 0) (jz := 0) dX12_beside_65 f_X12_88 rfl rfl rfl ?_
        refine r_iload dX12_beside_68 0 rfl ?_
        refine r_imul dX12_beside_70 ?_
        refine r_iload_n dX12_beside_71 rfl 2 rfl ?_
        refine r_iadd dX12_beside_72 ?_
        refine r_goto (tgt := 77) dX12_beside_73 (by decide) ?_
        rw [show v11 = (((gI M 55 0) * ((idv a1 (gI M 55 0)) + v7)) + ((irm a1 (gI M 55 0)) + v4)) from by rw [ev11, if_neg c10]] at kJ
        refine r_sub (lv2 := []) [] rfl ?_
        exact kJ
    clear h
    by_cases c5 : wr a2 = wr 1
    · skip
      refine r_icmp_ne (tgt := 41) dX12_beside_34 (by decide) (fun q => absurd c5 q) (fun _ => ?_)
      refine r_iconst dX12_beside_37 ?_
      refine r_goto (tgt := 51) dX12_beside_38 (by decide) ?_
      rw [show v7 = 1 from by rw [ev7, if_pos c5]] at kJ
      refine r_sub (lv2 := [(0, vR 55), (3, vI ((irm a1 (gI M 55 0)) + v4))]) [1, 0] rfl ?_
      exact kJ
    · skip
      refine r_icmp_ne (tgt := 41) dX12_beside_34 (by decide) (fun _ => ?_) (fun q => absurd q c5)
      refine r_iload_n dX12_beside_41 rfl 3 rfl ?_
      refine r_iconst dX12_beside_42 ?_
      by_cases c6 : wr a2 = wr 3
      · skip
        refine r_icmp_ne (tgt := 50) dX12_beside_43 (by decide) (fun q => absurd c6 q) (fun _ => ?_)
        refine r_iconst dX12_beside_46 ?_
        refine r_goto (tgt := 51) dX12_beside_47 (by decide) ?_
        rw [show v7 = (-1) from by rw [ev7, if_neg c5, if_pos c6]] at kJ
        refine r_sub (lv2 := [(0, vR 55), (3, vI ((irm a1 (gI M 55 0)) + v4))]) [1, 0] rfl ?_
        exact kJ
      · skip
        refine r_icmp_ne (tgt := 50) dX12_beside_43 (by decide) (fun _ => ?_) (fun q => absurd q c6)
        refine r_iconst dX12_beside_50 ?_
        rw [show v7 = 0 from by rw [ev7, if_neg c5, if_neg c6]] at kJ
        refine r_sub (lv2 := [(0, vR 55), (3, vI ((irm a1 (gI M 55 0)) + v4))]) [1, 0] rfl ?_
        exact kJ
  clear h
  by_cases c2 : wr a2 = 0
  · skip
    refine r_if_ne (tgt := 14) dX12_beside_7 (by decide) (fun q => absurd c2 q) (fun _ => ?_)
    refine r_iconst dX12_beside_10 ?_
    refine r_goto (tgt := 24) dX12_beside_11 (by decide) ?_
    rw [show v4 = 1 from by rw [ev4, if_pos c2]] at kJ
    exact kJ
  · skip
    refine r_if_ne (tgt := 14) dX12_beside_7 (by decide) (fun _ => ?_) (fun q => absurd q c2)
    refine r_iload_n dX12_beside_14 rfl 2 rfl ?_
    refine r_iconst dX12_beside_15 ?_
    by_cases c3 : wr a2 = wr 2
    · skip
      refine r_icmp_ne (tgt := 23) dX12_beside_16 (by decide) (fun q => absurd c3 q) (fun _ => ?_)
      refine r_iconst dX12_beside_19 ?_
      refine r_goto (tgt := 24) dX12_beside_20 (by decide) ?_
      rw [show v4 = (-1) from by rw [ev4, if_neg c2, if_pos c3]] at kJ
      exact kJ
    · skip
      refine r_icmp_ne (tgt := 23) dX12_beside_16 (by decide) (fun _ => ?_) (fun q => absurd q c3)
      refine r_iconst dX12_beside_23 ?_
      rw [show v4 = 0 from by rw [ev4, if_neg c2, if_neg c3]] at kJ
      exact kJ

def m_X12_searches_L26 (M : Mem) (p3 : Int) (x2 : Int) (x4 : Int) : Option ((Int × Int × Mem) ⊕ ((Int × Int × Mem) ⊕ (Int × Mem))) :=
  if wr 4 ≤ wr x4 then
    some (.inr (.inl (x2, x4, M)))
  else
    if 0 ≤ wr p3 ∧ wr p3 < 64 then
    bd1 (m_X12_beside M (gI M 69 (wr p3)) x4) fun r8 =>
    if wr r8 < 0 then
      some (.inl (x2, (x4 + 1), M))
    else
      if 0 ≤ wr r8 ∧ wr r8 < 64 then
      if 0 ≤ wr (gI M 68 (wr r8)) then
        some (.inl (x2, (x4 + 1), M))
      else
        lt (sI M 68 (wr r8) (gI M 69 (wr p3))) fun M12 =>
        if 0 ≤ wr (gI M12 67 (wr r8)) then
          if 0 ≤ wr (gI M12 67 (wr r8)) ∧ wr (gI M12 67 (wr r8)) < 64 then
          bd2 (
            if 0 ≤ wr (gI M12 68 (wr (gI M12 67 (wr r8)))) then
              some (x2, M12)
            else
              lt (sI M12 68 (wr (gI M12 67 (wr r8))) r8) fun M16 =>
              if 0 ≤ wr x2 ∧ wr x2 < 64 then
              lt (sI M16 69 (wr x2) (gI M16 67 (wr r8))) fun M18 =>
              some ((x2 + 1), M18)
              else none) fun (v19 : Int) (M20 : Mem) =>
          some (.inl (v19, (x4 + 1), M20))
          else none
        else
          some (.inr (.inr (r8, M12)))
      else none
    else none
def m_X12_searches_L18 (M : Mem)  (x2 : Int) (x3 : Int) : Option ((Int × Int × Mem) ⊕ ((Int × Int × Mem) ⊕ (Int × Mem))) :=
  if wr x2 ≤ wr x3 then
    some (.inr (.inl (x2, x3, M)))
  else
    be3l (itr (fun s => m_X12_searches_L26 s.2.2 x3 s.1 s.2.1) FU (x2, 0, M)) (fun y21 y22 M23 =>
    some (.inl (y21, (x3 + 1), M23)))
def m_X12_searches (M : Mem) (a1 : Int) : Option (Int × Mem) :=
  lt (sI M 69 (wr 0) a1) fun M1 =>
  if 0 ≤ wr a1 ∧ wr a1 < 64 then
  lt (sI M1 68 (wr a1) a1) fun M3 =>
  be3 (itr (fun s => m_X12_searches_L18 s.2.2  s.1 s.2.1) FU (1, 0, M3)) (fun y24 y25 M26 =>
  some ((-1), M26))
  else none
set_option maxRecDepth 10000 in
theorem lp_X12_searches_L26 {G : Gx} (p3 : Int)   (X : ((Int × Int × Mem) ⊕ (Int × Mem)) → Prop) (hX1 : ∀ (x2 : Int) (x4 : Int) (M : Mem), X (.inl (x2, x4, M)) → Ex G 3 cX12_searches RX12 6 138 [(0, vR 55), (2, vI x2), (3, vI p3), (4, vI x4)] [] M) (hX2 : ∀ (r : Int) (M2 : Mem), X (.inr (r, M2)) → RetI G 3 cX12_searches RX12 6 r M2) : ∀ (nn : Nat) (x2 : Int) (x4 : Int) (M : Mem) (out : (Int × Int × Mem) ⊕ (Int × Mem)), itr (fun s => m_X12_searches_L26 s.2.2 p3 s.1 s.2.1) nn (x2, x4, M) = some out → X out → Ex G 3 cX12_searches RX12 6 26 [(0, vR 55), (2, vI x2), (3, vI p3), (4, vI x4)] [] M := by
  intro nn
  induction nn with
  | zero =>
    intro x2 x4 M out h _
    cases h
  | succ nn ih =>
    intro x2 x4 M out h0 hX
    obtain ⟨w, h, k1, k2⟩ := itr_inv h0
    have h : m_X12_searches_L26 M p3 x2 x4 = some w := h
    unfold m_X12_searches_L26 at h
    refine r_iload dX12_searches_26 3 rfl ?_
    refine r_iconst dX12_searches_28 ?_
    by_cases c5 : wr 4 ≤ wr x4
    · rw [if_pos c5] at h
      refine r_icmp_ge (tgt := 138) dX12_searches_29 (by decide) (fun _ => ?_) (fun q => absurd c5 q)
      cases h
      cases k2 _ rfl
      exact hX1 _ _ _ hX
    · rw [if_neg c5] at h
      refine r_icmp_ge (tgt := 138) dX12_searches_29 (by decide) (fun q => absurd q c5) (fun _ => ?_)
      refine r_aload_n dX12_searches_32 rfl 0 rfl ?_
      refine r_aload_n dX12_searches_33 rfl 0 rfl ?_
      refine r_getR (j := 17) (v := 69) dX12_searches_34 f_X12_51 rfl rfl rfl ?_
      refine r_iload_n dX12_searches_37 rfl 2 rfl ?_
      obtain ⟨c6, h⟩ := of_ck h
      refine r_iald dX12_searches_38 rfl c6 ?_
      refine r_iload dX12_searches_39 3 rfl ?_
      obtain ⟨r8, hc7, h⟩ := of_bd1 h
      refine r_callVI (st := []) dX12_searches_41 v_X12_213 (run_X12_beside hc7) (by decide) (by decide) rfl rfl (Nat.le_of_ble_eq_true rfl) rfl ?_
      refine r_istore (lv2 := [(5, vI r8), (0, vR 55), (2, vI x2), (3, vI p3), (4, vI x4)]) dX12_searches_44 (by decide) rfl ?_
      refine r_iload dX12_searches_46 0 rfl ?_
      by_cases c9 : wr r8 < 0
      · rw [if_pos c9] at h
        refine r_if_lt (tgt := 132) dX12_searches_48 (by decide) (fun _ => ?_) (fun q => absurd c9 q)
        refine r_iinc (lv2 := [(4, vI (x4 + 1)), (5, vI r8), (0, vR 55), (2, vI x2), (3, vI p3)]) dX12_searches_132 4 rfl (by decide) rfl ?_
        refine r_goto (tgt := 26) dX12_searches_135 (by decide) ?_
        refine r_sub (lv2 := [(0, vR 55), (2, vI x2), (3, vI p3), (4, vI (x4 + 1))]) [2, 3, 4, 0] rfl ?_
        cases h
        exact ih _ _ _  _ (k1 _ rfl) hX
      · rw [if_neg c9] at h
        refine r_if_lt (tgt := 132) dX12_searches_48 (by decide) (fun q => absurd q c9) (fun _ => ?_)
        refine r_aload_n dX12_searches_51 rfl 1 rfl ?_
        refine r_getR (j := 16) (v := 68) dX12_searches_52 f_X12_48 rfl rfl rfl ?_
        refine r_iload dX12_searches_55 0 rfl ?_
        obtain ⟨c10, h⟩ := of_ck h
        refine r_iald dX12_searches_57 rfl c10 ?_
        by_cases c11 : 0 ≤ wr (gI M 68 (wr r8))
        · rw [if_pos c11] at h
          refine r_if_ge (tgt := 132) dX12_searches_58 (by decide) (fun _ => ?_) (fun q => absurd c11 q)
          refine r_iinc (lv2 := [(4, vI (x4 + 1)), (5, vI r8), (0, vR 55), (2, vI x2), (3, vI p3)]) dX12_searches_132 4 rfl (by decide) rfl ?_
          refine r_goto (tgt := 26) dX12_searches_135 (by decide) ?_
          refine r_sub (lv2 := [(0, vR 55), (2, vI x2), (3, vI p3), (4, vI (x4 + 1))]) [2, 3, 4, 0] rfl ?_
          cases h
          exact ih _ _ _  _ (k1 _ rfl) hX
        · rw [if_neg c11] at h
          refine r_if_ge (tgt := 132) dX12_searches_58 (by decide) (fun q => absurd q c11) (fun _ => ?_)
          refine r_aload_n dX12_searches_61 rfl 1 rfl ?_
          refine r_getR (j := 16) (v := 68) dX12_searches_62 f_X12_48 rfl rfl rfl ?_
          refine r_iload dX12_searches_65 0 rfl ?_
          refine r_aload_n dX12_searches_67 rfl 1 rfl ?_
          refine r_getR (j := 17) (v := 69) dX12_searches_68 f_X12_51 rfl rfl rfl ?_
          refine r_iload_n dX12_searches_71 rfl 3 rfl ?_
          refine r_iald dX12_searches_72 rfl c6 ?_
          obtain ⟨M12, eM12, h⟩ := of_lt h
          refine r_iast dX12_searches_73 rfl c10 ?_
          rw [← eM12]
          refine r_aload_n dX12_searches_74 rfl 1 rfl ?_
          refine r_getR (j := 15) (v := 67) dX12_searches_75 f_X12_45 rfl rfl rfl ?_
          refine r_iload dX12_searches_78 0 rfl ?_
          refine r_iald dX12_searches_80 rfl c10 ?_
          by_cases c13 : 0 ≤ wr (gI M12 67 (wr r8))
          · rw [if_pos c13] at h
            refine r_if_ge (tgt := 87) dX12_searches_81 (by decide) (fun _ => ?_) (fun q => absurd c13 q)
            refine r_aload_n dX12_searches_87 rfl 1 rfl ?_
            refine r_getR (j := 16) (v := 68) dX12_searches_88 f_X12_48 rfl rfl rfl ?_
            refine r_aload_n dX12_searches_91 rfl 1 rfl ?_
            refine r_getR (j := 15) (v := 67) dX12_searches_92 f_X12_45 rfl rfl rfl ?_
            refine r_iload dX12_searches_95 0 rfl ?_
            refine r_iald dX12_searches_97 rfl c10 ?_
            obtain ⟨c14, h⟩ := of_ck h
            refine r_iald dX12_searches_98 rfl c14 ?_
            obtain ⟨v19, M20, h9, h⟩ := of_bd2 h
            have kJ : Ex G 3 cX12_searches RX12 6 132 [(0, vR 55), (2, vI v19), (3, vI p3), (4, vI x4)] [] M20 := by
              refine r_iinc (lv2 := [(4, vI (x4 + 1)), (0, vR 55), (2, vI v19), (3, vI p3)]) dX12_searches_132 3 rfl (by decide) rfl ?_
              refine r_goto (tgt := 26) dX12_searches_135 (by decide) ?_
              refine r_sub (lv2 := [(0, vR 55), (2, vI v19), (3, vI p3), (4, vI (x4 + 1))]) [1, 2, 3, 0] rfl ?_
              cases h
              exact ih _ _ _  _ (k1 _ rfl) hX
            clear h
            have h := h9
            clear h9
            by_cases c15 : 0 ≤ wr (gI M12 68 (wr (gI M12 67 (wr r8))))
            · rw [if_pos c15] at h
              refine r_if_ge (tgt := 132) dX12_searches_99 (by decide) (fun _ => ?_) (fun q => absurd c15 q)
              refine r_sub (lv2 := [(0, vR 55), (2, vI x2), (3, vI p3), (4, vI x4)]) [1, 2, 3, 4] rfl ?_
              cases h
              exact kJ
            · rw [if_neg c15] at h
              refine r_if_ge (tgt := 132) dX12_searches_99 (by decide) (fun q => absurd q c15) (fun _ => ?_)
              refine r_aload_n dX12_searches_102 rfl 1 rfl ?_
              refine r_getR (j := 16) (v := 68) dX12_searches_103 f_X12_48 rfl rfl rfl ?_
              refine r_aload_n dX12_searches_106 rfl 1 rfl ?_
              refine r_getR (j := 15) (v := 67) dX12_searches_107 f_X12_45 rfl rfl rfl ?_
              refine r_iload dX12_searches_110 0 rfl ?_
              refine r_iald dX12_searches_112 rfl c10 ?_
              refine r_iload dX12_searches_113 0 rfl ?_
              obtain ⟨M16, eM16, h⟩ := of_lt h
              refine r_iast dX12_searches_115 rfl c14 ?_
              rw [← eM16]
              refine r_aload_n dX12_searches_116 rfl 1 rfl ?_
              refine r_getR (j := 17) (v := 69) dX12_searches_117 f_X12_51 rfl rfl rfl ?_
              refine r_iload_n dX12_searches_120 rfl 2 rfl ?_
              refine r_aload_n dX12_searches_121 rfl 1 rfl ?_
              refine r_getR (j := 15) (v := 67) dX12_searches_122 f_X12_45 rfl rfl rfl ?_
              refine r_iload dX12_searches_125 0 rfl ?_
              refine r_iald dX12_searches_127 rfl c10 ?_
              obtain ⟨c17, h⟩ := of_ck h
              obtain ⟨M18, eM18, h⟩ := of_lt h
              refine r_iast dX12_searches_128 rfl c17 ?_
              rw [← eM18]
              refine r_iinc (lv2 := [(2, vI (x2 + 1)), (5, vI r8), (0, vR 55), (3, vI p3), (4, vI x4)]) dX12_searches_129 2 rfl (by decide) rfl ?_
              refine r_sub (lv2 := [(0, vR 55), (2, vI (x2 + 1)), (3, vI p3), (4, vI x4)]) [2, 0, 3, 4] rfl ?_
              cases h
              exact kJ
          · rw [if_neg c13] at h
            refine r_if_ge (tgt := 87) dX12_searches_81 (by decide) (fun q => absurd q c13) (fun _ => ?_)
            refine r_iload dX12_searches_84 0 rfl ?_
            cases h
            cases k2 _ rfl
            exact hX2 _ _ hX _ _ dX12_searches_86

set_option maxRecDepth 10000 in
theorem lp_X12_searches_L18 {G : Gx}    (X : ((Int × Int × Mem) ⊕ (Int × Mem)) → Prop) (hX1 : ∀ (x2 : Int) (x3 : Int) (M : Mem), X (.inl (x2, x3, M)) → Ex G 3 cX12_searches RX12 6 144 [(0, vR 55), (2, vI x2), (3, vI x3)] [] M) (hX2 : ∀ (r : Int) (M2 : Mem), X (.inr (r, M2)) → RetI G 3 cX12_searches RX12 6 r M2) : ∀ (nn : Nat) (x2 : Int) (x3 : Int) (M : Mem) (out : (Int × Int × Mem) ⊕ (Int × Mem)), itr (fun s => m_X12_searches_L18 s.2.2  s.1 s.2.1) nn (x2, x3, M) = some out → X out → Ex G 3 cX12_searches RX12 6 18 [(0, vR 55), (2, vI x2), (3, vI x3)] [] M := by
  intro nn
  induction nn with
  | zero =>
    intro x2 x3 M out h _
    cases h
  | succ nn ih =>
    intro x2 x3 M out h0 hX
    obtain ⟨w, h, k1, k2⟩ := itr_inv h0
    have h : m_X12_searches_L18 M  x2 x3 = some w := h
    unfold m_X12_searches_L18 at h
    refine r_iload_n dX12_searches_18 rfl 2 rfl ?_
    refine r_iload_n dX12_searches_19 rfl 1 rfl ?_
    by_cases c4 : wr x2 ≤ wr x3
    · rw [if_pos c4] at h
      refine r_icmp_ge (tgt := 144) dX12_searches_20 (by decide) (fun _ => ?_) (fun q => absurd c4 q)
      cases h
      cases k2 _ rfl
      exact hX1 _ _ _ hX
    · rw [if_neg c4] at h
      refine r_icmp_ge (tgt := 144) dX12_searches_20 (by decide) (fun q => absurd q c4) (fun _ => ?_)
      refine r_iconst dX12_searches_23 ?_
      refine r_istore (lv2 := [(4, vI 0), (0, vR 55), (2, vI x2), (3, vI x3)]) dX12_searches_24 (by decide) rfl ?_
      obtain ⟨w9, h9, h⟩ := of_be3l h
      refine r_sub (lv2 := [(0, vR 55), (2, vI x2), (3, vI x3), (4, vI 0)]) [1, 2, 3, 0] rfl ?_
      refine lp_X12_searches_L26 x3  (fun w => w = w9) ?_ ?_ FU x2 0 M w9 h9 rfl
      · intro y21 y22 M23 hw
        subst hw
        have h := h.1 _ _ _  rfl
        refine r_iinc (lv2 := [(3, vI (x3 + 1)), (0, vR 55), (2, vI y21), (4, vI y22)]) dX12_searches_138 2 rfl (by decide) rfl ?_
        refine r_goto (tgt := 18) dX12_searches_141 (by decide) ?_
        refine r_sub (lv2 := [(0, vR 55), (2, vI y21), (3, vI (x3 + 1))]) [1, 2, 0] rfl ?_
        cases h
        exact ih _ _ _  _ (k1 _ rfl) hX
      · intro r9 M9 hw
        subst hw
        have h := h.2 _ rfl
        cases h
        cases k2 _ rfl
        exact hX2 _ _ hX

set_option maxRecDepth 10000 in
theorem run_X12_searches {M : Mem} {M2 : Mem} {a1 : Int} {r : Int}   (h : m_X12_searches M a1 = some (r, M2)) : RunI 3 yX12_searches cX12_searches 6 (some .int) [vR 55, vI a1] M r M2 := by
  refine runI_of (lv := [(0, vR 55), (1, vI a1)]) (by decide +kernel) (Or.inl rfl) (Nat.le_of_ble_eq_true rfl) rfl ?_
  intro G hQ
  unfold m_X12_searches at h
  refine r_iconst dX12_searches_0 ?_
  refine r_istore_n (lv2 := [(2, vI 1), (0, vR 55), (1, vI a1)]) dX12_searches_1 rfl (by decide) rfl ?_
  refine r_aload_n dX12_searches_2 rfl 1 rfl ?_
  refine r_getR (j := 17) (v := 69) dX12_searches_3 f_X12_51 rfl rfl rfl ?_
  refine r_iconst dX12_searches_6 ?_
  refine r_iload_n dX12_searches_7 rfl 2 rfl ?_
  obtain ⟨M1, eM1, h⟩ := of_lt h
  refine r_iast dX12_searches_8 rfl (by decide) ?_
  rw [← eM1]
  refine r_aload_n dX12_searches_9 rfl 1 rfl ?_
  refine r_getR (j := 16) (v := 68) dX12_searches_10 f_X12_48 rfl rfl rfl ?_
  refine r_iload_n dX12_searches_13 rfl 2 rfl ?_
  refine r_iload_n dX12_searches_14 rfl 2 rfl ?_
  obtain ⟨c2, h⟩ := of_ck h
  obtain ⟨M3, eM3, h⟩ := of_lt h
  refine r_iast dX12_searches_15 rfl c2 ?_
  rw [← eM3]
  refine r_iconst dX12_searches_16 ?_
  refine r_istore_n (lv2 := [(3, vI 0), (2, vI 1), (0, vR 55), (1, vI a1)]) dX12_searches_17 rfl (by decide) rfl ?_
  obtain ⟨w9, h9, h⟩ := of_be3 h
  refine r_sub (lv2 := [(0, vR 55), (2, vI 1), (3, vI 0)]) [2, 1, 0] rfl ?_
  refine lp_X12_searches_L18   (fun w => w = w9) ?_ ?_ FU 1 0 M3 w9 h9 rfl
  · intro y24 y25 M26 hw
    subst hw
    have h := h.1 _ _ _  rfl
    refine r_iconst dX12_searches_144 ?_
    cases h
    exact hQ _ _ dX12_searches_145
  · intro r9 M9 hw
    subst hw
    have h := h.2 _ rfl
    cases h
    exact hQ

