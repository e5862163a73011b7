def m_X12_rings (M : Mem) (a1 : Int) (a2 : Int) : Option (Int × Mem) :=
  bd1 (m_X12_refusesBoth M a1 a2) fun r2 =>
  bd2 (
    if 0 ≤ wr r2 then
      bd2 (m_X12_ringMany M a1 a2) fun r5 M6 =>
      some (r5, M6)
    else
      some (r2, M)) fun (v7 : Int) (M8 : Mem) =>
  some (v7, M8)
set_option maxRecDepth 10000 in
theorem run_X12_rings {M : Mem} {M2 : Mem} {a1 : Int} {a2 : Int} {r : Int}   (h : m_X12_rings M a1 a2 = some (r, M2)) : RunI 3 yX12_rings cX12_rings 4 (some .int) [vR 55, vI a1, vI a2] M r M2 := by
  refine runI_of (lv := [(0, vR 55), (1, vI a1), (2, vI a2)]) (by decide +kernel) (Or.inl rfl) (Nat.le_of_ble_eq_true rfl) rfl ?_
  intro G hQ
  unfold m_X12_rings at h
  refine r_aload_n dX12_rings_0 rfl 0 rfl ?_
  refine r_iload_n dX12_rings_1 rfl 1 rfl ?_
  refine r_iload_n dX12_rings_2 rfl 2 rfl ?_
  obtain ⟨r2, hc1, h⟩ := of_bd1 h
  refine r_callVI (st := []) dX12_rings_3 v_X12_265 (run_X12_refusesBoth hc1) (by decide) (by decide) rfl rfl (Nat.le_of_ble_eq_true rfl) rfl ?_
  refine r_istore_n (lv2 := [(3, vI r2), (0, vR 55), (1, vI a1), (2, vI a2)]) dX12_rings_6 rfl (by decide) rfl ?_
  refine r_iload_n dX12_rings_7 rfl 0 rfl ?_
  obtain ⟨v7, M8, h9, h⟩ := of_bd2 h
  have kJ : Ex G 3 cX12_rings RX12 4 21 [] [vI v7] M8 := by
    cases h
    exact hQ _ _ dX12_rings_21
  clear h
  have h := h9
  clear h9
  by_cases c3 : 0 ≤ wr r2
  · rw [if_pos c3] at h
    refine r_if_ge (tgt := 15) dX12_rings_8 (by decide) (fun _ => ?_) (fun q => absurd c3 q)
    refine r_aload_n dX12_rings_15 rfl 1 rfl ?_
    refine r_iload_n dX12_rings_16 rfl 2 rfl ?_
    refine r_iload_n dX12_rings_17 rfl 3 rfl ?_
    obtain ⟨r5, M6, hc4, h⟩ := of_bd2 h
    refine r_callVI (st := []) dX12_rings_18 v_X12_277 (run_X12_ringMany hc4) (by decide) (by decide) rfl rfl (Nat.le_of_ble_eq_true rfl) rfl ?_
    refine r_sub (lv2 := []) [] rfl ?_
    cases h
    exact kJ
  · rw [if_neg c3] at h
    refine r_if_ge (tgt := 15) dX12_rings_8 (by decide) (fun q => absurd q c3) (fun _ => ?_)
    refine r_iload_n dX12_rings_11 rfl 0 rfl ?_
    refine r_goto (tgt := 21) dX12_rings_12 (by decide) ?_
    refine r_sub (lv2 := []) [] rfl ?_
    cases h
    exact kJ

def m_X12_ringSize_L4 (M : Mem) (p1 : Int) (x2 : Int) (x3 : Int) : Option ((Int × Int) ⊕ (Int × Int)) :=
  if wr ((gI M 55 0) * (gI M 55 1)) ≤ wr x3 then
    some (.inr (x2, x3))
  else
    if 0 ≤ wr x3 ∧ wr x3 < 64 then
    lt (if wr (gI M 75 (wr x3)) = wr p1 then 1 else 0) fun (v4 : Int) =>
    some (.inl ((x2 + v4), (x3 + 1)))
    else none
def m_X12_ringSize (M : Mem) (a1 : Int) : Option (Int) :=
  bd2 (itr (fun s => m_X12_ringSize_L4 M a1 s.1 s.2) FU (0, 0)) fun y5 y6 =>
  some y5
set_option maxRecDepth 10000 in
theorem lp_X12_ringSize_L4 {G : Gx} (M : Mem) (p1 : Int)   (X : (Int × Int) → Prop) (hX1 : ∀ (x2 : Int) (x3 : Int), X (x2, x3) → Ex G 0 cX12_ringSize RX12 4 41 [(0, vR 55), (1, vI p1), (2, vI x2), (3, vI x3)] [] M) : ∀ (nn : Nat) (x2 : Int) (x3 : Int) (out : Int × Int), itr (fun s => m_X12_ringSize_L4 M p1 s.1 s.2) nn (x2, x3) = some out → X out → Ex G 0 cX12_ringSize RX12 4 4 [(0, vR 55), (1, vI p1), (2, vI x2), (3, vI x3)] [] M := by
  intro nn
  induction nn with
  | zero =>
    intro x2 x3 out h _
    cases h
  | succ nn ih =>
    intro x2 x3 out h0 hX
    obtain ⟨w, h, k1, k2⟩ := itr_inv h0
    have h : m_X12_ringSize_L4 M p1 x2 x3 = some w := h
    unfold m_X12_ringSize_L4 at h
    refine r_iload_n dX12_ringSize_4 rfl 3 rfl ?_
    refine r_aload_n dX12_ringSize_5 rfl 0 rfl ?_
    refine r_getI (j := 0) (jz := 0) dX12_ringSize_6 f_X12_88 rfl rfl rfl ?_
    refine r_aload_n dX12_ringSize_9 rfl 0 rfl ?_
    refine r_getI (j := 1) (jz := 1) dX12_ringSize_10 f_X12_92 rfl rfl rfl ?_
    refine r_imul dX12_ringSize_13 ?_
    by_cases c1 : wr ((gI M 55 0) * (gI M 55 1)) ≤ wr x3
    · rw [if_pos c1] at h
      refine r_icmp_ge (tgt := 41) dX12_ringSize_14 (by decide) (fun _ => ?_) (fun q => absurd c1 q)
      cases h
      cases k2 _ rfl
      exact hX1 _ _ hX
    · rw [if_neg c1] at h
      refine r_icmp_ge (tgt := 41) dX12_ringSize_14 (by decide) (fun q => absurd q c1) (fun _ => ?_)
      refine r_iload_n dX12_ringSize_17 rfl 2 rfl ?_
      refine r_aload_n dX12_ringSize_18 rfl 0 rfl ?_
      refine r_getR (j := 23) (v := 75) dX12_ringSize_19 f_X12_69 rfl rfl rfl ?_
      refine r_iload_n dX12_ringSize_22 rfl 3 rfl ?_
      obtain ⟨c2, h⟩ := of_ck h
      refine r_iald dX12_ringSize_23 rfl c2 ?_
      refine r_iload_n dX12_ringSize_24 rfl 1 rfl ?_
      obtain ⟨v4, ev4, h⟩ := of_lt h
      have kJ : Ex G 0 cX12_ringSize RX12 4 33 [(0, vR 55), (1, vI p1), (3, vI x3)] [vI v4, vI x2] M := by
        refine r_iadd dX12_ringSize_33 ?_
        refine r_istore_n (lv2 := [(2, vI (x2 + v4)), (0, vR 55), (1, vI p1), (3, vI x3)]) dX12_ringSize_34 rfl (by decide) rfl ?_
        refine r_iinc (lv2 := [(3, vI (x3 + 1)), (2, vI (x2 + v4)), (0, vR 55), (1, vI p1)]) dX12_ringSize_35 3 rfl (by decide) rfl ?_
        refine r_goto (tgt := 4) dX12_ringSize_38 (by decide) ?_
        refine r_sub (lv2 := [(0, vR 55), (1, vI p1), (2, vI (x2 + v4)), (3, vI (x3 + 1))]) [2, 3, 1, 0] rfl ?_
        cases h
        exact ih _ _  _ (k1 _ rfl) hX
      clear h
      by_cases c3 : wr (gI M 75 (wr x3)) = wr p1
      · skip
        refine r_icmp_ne (tgt := 32) dX12_ringSize_25 (by decide) (fun q => absurd c3 q) (fun _ => ?_)
        refine r_iconst dX12_ringSize_28 ?_
        refine r_goto (tgt := 33) dX12_ringSize_29 (by decide) ?_
        rw [show v4 = 1 from by rw [ev4, if_pos c3]] at kJ
        refine r_sub (lv2 := [(0, vR 55), (1, vI p1), (3, vI x3)]) [0, 1, 3] rfl ?_
        exact kJ
      · skip
        refine r_icmp_ne (tgt := 32) dX12_ringSize_25 (by decide) (fun _ => ?_) (fun q => absurd q c3)
        refine r_iconst dX12_ringSize_32 ?_
        rw [show v4 = 0 from by rw [ev4, if_neg c3]] at kJ
        refine r_sub (lv2 := [(0, vR 55), (1, vI p1), (3, vI x3)]) [0, 1, 3] rfl ?_
        exact kJ

set_option maxRecDepth 10000 in
theorem run_X12_ringSize {M : Mem} {a1 : Int} {r : Int}   (h : m_X12_ringSize M a1 = some r) : RunI 0 yX12_ringSize cX12_ringSize 4 (some .int) [vR 55, vI a1] M r M := by
  refine runI_of (lv := [(0, vR 55), (1, vI a1)]) (by decide +kernel) (Or.inl rfl) (Nat.le_of_ble_eq_true rfl) rfl ?_
  intro G hQ
  unfold m_X12_ringSize at h
  refine r_iconst dX12_ringSize_0 ?_
  refine r_istore_n (lv2 := [(2, vI 0), (0, vR 55), (1, vI a1)]) dX12_ringSize_1 rfl (by decide) rfl ?_
  refine r_iconst dX12_ringSize_2 ?_
  refine r_istore_n (lv2 := [(3, vI 0), (2, vI 0), (0, vR 55), (1, vI a1)]) dX12_ringSize_3 rfl (by decide) rfl ?_
  obtain ⟨y5, y6, h9, h⟩ := of_bd2 h
  refine r_sub (lv2 := [(0, vR 55), (1, vI a1), (2, vI 0), (3, vI 0)]) [2, 3, 1, 0] rfl ?_
  refine lp_X12_ringSize_L4 M a1  (fun w => w = (y5, y6)) ?_ FU 0 0 _ h9 rfl
  intro z0 z1 hw
  cases hw
  refine r_iload_n dX12_ringSize_41 rfl 2 rfl ?_
  cases h
  exact hQ _ _ dX12_ringSize_42

def m_X12_ring (M : Mem) (a1 : Int) (a2 : Int) (a3 : Int) : Option (Int × Mem) :=
  bd1 (m_X12_isSlot a1) fun b2 =>
  if wr (bI b2) = 0 then
    some ((-1), M)
  else
    bd1 (m_X12_isSlot a2) fun b5 =>
    if wr (bI b5) = 0 then
      some ((-1), M)
    else
      if 0 ≤ wr a3 then
        bd1 (m_X12_refusesBoth M a1 a2) fun r9 =>
        if 0 ≤ wr r9 then
          bd2 (m_X12_ringMany M a1 a2) fun r12 M13 =>
          bd1 (
            if wr r12 ≤ wr a3 then
              some ((-1))
            else
              bd1 (m_X12_ringSize M13 a3) fun r16 =>
              some (r16)) fun (v17 : Int) =>
          some (v17, M13)
        else
          some (r9, M)
      else
        some ((-1), M)
set_option maxRecDepth 10000 in
theorem run_X12_ring {M : Mem} {M2 : Mem} {a1 : Int} {a2 : Int} {a3 : Int} {r : Int}   (h : m_X12_ring M a1 a2 a3 = some (r, M2)) : RunI 3 yX12_ring cX12_ring 5 (some .int) [vR 55, vI a1, vI a2, vI a3] M r M2 := by
  refine runI_of (lv := [(0, vR 55), (1, vI a1), (2, vI a2), (3, vI a3)]) (by decide +kernel) (Or.inl rfl) (Nat.le_of_ble_eq_true rfl) rfl ?_
  intro G hQ
  unfold m_X12_ring at h
  refine r_iload_n dX12_ring_0 rfl 1 rfl ?_
  obtain ⟨b2, hc1, h⟩ := of_bd1 h
  refine r_callSI (st := []) dX12_ring_1 v_X12_188 (run_X12_isSlot hc1) (by decide) (by decide) rfl (Nat.le_of_ble_eq_true rfl) rfl ?_
  by_cases c3 : wr (bI b2) = 0
  · rw [if_pos c3] at h
    refine r_if_eq (tgt := 18) dX12_ring_4 (by decide) (fun _ => ?_) (fun q => absurd c3 q)
    refine r_iconst dX12_ring_18 ?_
    cases h
    exact hQ _ _ dX12_ring_19
  · rw [if_neg c3] at h
    refine r_if_eq (tgt := 18) dX12_ring_4 (by decide) (fun q => absurd q c3) (fun _ => ?_)
    refine r_iload_n dX12_ring_7 rfl 2 rfl ?_
    obtain ⟨b5, hc4, h⟩ := of_bd1 h
    refine r_callSI (st := []) dX12_ring_8 v_X12_188 (run_X12_isSlot hc4) (by decide) (by decide) rfl (Nat.le_of_ble_eq_true rfl) rfl ?_
    by_cases c6 : wr (bI b5) = 0
    · rw [if_pos c6] at h
      refine r_if_eq (tgt := 18) dX12_ring_11 (by decide) (fun _ => ?_) (fun q => absurd c6 q)
      refine r_iconst dX12_ring_18 ?_
      cases h
      exact hQ _ _ dX12_ring_19
    · rw [if_neg c6] at h
      refine r_if_eq (tgt := 18) dX12_ring_11 (by decide) (fun q => absurd q c6) (fun _ => ?_)
      refine r_iload_n dX12_ring_14 rfl 3 rfl ?_
      by_cases c7 : 0 ≤ wr a3
      · rw [if_pos c7] at h
        refine r_if_ge (tgt := 20) dX12_ring_15 (by decide) (fun _ => ?_) (fun q => absurd c7 q)
        refine r_aload_n dX12_ring_20 rfl 0 rfl ?_
        refine r_iload_n dX12_ring_21 rfl 1 rfl ?_
        refine r_iload_n dX12_ring_22 rfl 2 rfl ?_
        obtain ⟨r9, hc8, h⟩ := of_bd1 h
        refine r_callVI (st := []) dX12_ring_23 v_X12_265 (run_X12_refusesBoth hc8) (by decide) (by decide) rfl rfl (Nat.le_of_ble_eq_true rfl) rfl ?_
        refine r_istore (lv2 := [(4, vI r9), (0, vR 55), (1, vI a1), (2, vI a2), (3, vI a3)]) dX12_ring_26 (by decide) rfl ?_
        refine r_iload dX12_ring_28 0 rfl ?_
        by_cases c10 : 0 ≤ wr r9
        · rw [if_pos c10] at h
          refine r_if_ge (tgt := 36) dX12_ring_30 (by decide) (fun _ => ?_) (fun q => absurd c10 q)
          refine r_iload_n dX12_ring_36 rfl 4 rfl ?_
          refine r_aload_n dX12_ring_37 rfl 1 rfl ?_
          refine r_iload_n dX12_ring_38 rfl 2 rfl ?_
          refine r_iload_n dX12_ring_39 rfl 3 rfl ?_
          obtain ⟨r12, M13, hc11, h⟩ := of_bd2 h
          refine r_callVI (st := [vI a3]) dX12_ring_40 v_X12_277 (run_X12_ringMany hc11) (by decide) (by decide) rfl rfl (Nat.le_of_ble_eq_true rfl) rfl ?_
          obtain ⟨v17, h9, h⟩ := of_bd1 h
          have kJ : Ex G 3 cX12_ring RX12 5 55 [] [vI v17] M13 := by
            cases h
            exact hQ _ _ dX12_ring_55
          clear h
          have h := h9
          clear h9
          by_cases c14 : wr r12 ≤ wr a3
          · rw [if_pos c14] at h
            refine r_icmp_ge (tgt := 54) dX12_ring_43 (by decide) (fun _ => ?_) (fun q => absurd c14 q)
            refine r_iconst dX12_ring_54 ?_
            refine r_sub (lv2 := []) [] rfl ?_
            cases h
            exact kJ
          · rw [if_neg c14] at h
            refine r_icmp_ge (tgt := 54) dX12_ring_43 (by decide) (fun q => absurd q c14) (fun _ => ?_)
            refine r_aload_n dX12_ring_46 rfl 1 rfl ?_
            refine r_iload_n dX12_ring_47 rfl 4 rfl ?_
            obtain ⟨r16, hc15, h⟩ := of_bd1 h
            refine r_callVI (st := []) dX12_ring_48 v_X12_280 (run_X12_ringSize hc15) (by decide) (by decide) rfl rfl (Nat.le_of_ble_eq_true rfl) rfl ?_
            refine r_goto (tgt := 55) dX12_ring_51 (by decide) ?_
            refine r_sub (lv2 := []) [] rfl ?_
            cases h
            exact kJ
        · rw [if_neg c10] at h
          refine r_if_ge (tgt := 36) dX12_ring_30 (by decide) (fun q => absurd q c10) (fun _ => ?_)
          refine r_iload dX12_ring_33 0 rfl ?_
          cases h
          exact hQ _ _ dX12_ring_35
      · rw [if_neg c7] at h
        refine r_if_ge (tgt := 20) dX12_ring_15 (by decide) (fun q => absurd q c7) (fun _ => ?_)
        refine r_iconst dX12_ring_18 ?_
        cases h
        exact hQ _ _ dX12_ring_19

def m_X12_wind_L51 (M : Mem) (p1 : Int) (p2 : Int) (p3 : Int) (x5 : Int) : Option ((Int × Mem) ⊕ (Int × Mem)) :=
  if wr ((gI M 55 0) * (gI M 55 1)) ≤ wr x5 then
    some (.inr (x5, M))
  else
    if 0 ≤ wr x5 ∧ wr x5 < 64 then
    bd1 (
      if wr (gI M 56 (wr x5)) = 0 then
        if 0 ≤ wr ((64 * p1) + x5) ∧ wr ((64 * p1) + x5) < 256 then
        some ((gI M 60 (wr ((64 * p1) + x5))))
        else none
      else
        if wr (gI M 75 (wr x5)) = wr p3 then
          if 0 ≤ wr ((64 * p2) + x5) ∧ wr ((64 * p2) + x5) < 256 then
          some ((gI M 60 (wr ((64 * p2) + x5))))
          else none
        else
          if 0 ≤ wr ((64 * p1) + x5) ∧ wr ((64 * p1) + x5) < 256 then
          some ((gI M 60 (wr ((64 * p1) + x5))))
          else none) fun (v22 : Int) =>
    if 0 ≤ wr ((64 * p1) + x5) ∧ wr ((64 * p1) + x5) < 256 then
    lt (sI M 60 (wr ((64 * p1) + x5)) v22) fun M24 =>
    some (.inl ((x5 + 1), M24))
    else none
    else none
def m_X12_wind (M : Mem) (a1 : Int) (a2 : Int) (a3 : Int) : Option (Int × Mem) :=
  bd1 (m_X12_isSlot a1) fun b2 =>
  if wr (bI b2) = 0 then
    some ((-1), M)
  else
    bd1 (m_X12_isSlot a2) fun b5 =>
    if wr (bI b5) = 0 then
      some ((-1), M)
    else
      if 0 ≤ wr a3 then
        bd1 (m_X12_refusesBoth M a1 a2) fun r9 =>
        if 0 ≤ wr r9 then
          bd2 (m_X12_ringMany M a1 a2) fun r12 M13 =>
          if wr a3 < wr r12 then
            bd2 (itr (fun s => m_X12_wind_L51 s.2 a1 a2 a3 s.1) FU (0, M13)) fun y25 M26 =>
            bd1 (m_X12_ringSize M26 a3) fun r28 =>
            some ((idv r28 2), M26)
          else
            some ((-1), M13)
        else
          some (r9, M)
      else
        some ((-1), M)
set_option maxRecDepth 10000 in
theorem lp_X12_wind_L51 {G : Gx} (p1 : Int) (p2 : Int) (p3 : Int)   (X : (Int × Mem) → Prop) (hX1 : ∀ (x5 : Int) (M : Mem), X (x5, M) → Ex G 3 cX12_wind RX12 6 131 [(0, vR 55), (1, vI p1), (2, vI p2), (3, vI p3), (5, vI x5)] [] M) : ∀ (nn : Nat) (x5 : Int) (M : Mem) (out : Int × Mem), itr (fun s => m_X12_wind_L51 s.2 p1 p2 p3 s.1) nn (x5, M) = some out → X out → Ex G 3 cX12_wind RX12 6 51 [(0, vR 55), (1, vI p1), (2, vI p2), (3, vI p3), (5, vI x5)] [] M := by
  intro nn
  induction nn with
  | zero =>
    intro x5 M out h _
    cases h
  | succ nn ih =>
    intro x5 M out h0 hX
    obtain ⟨w, h, k1, k2⟩ := itr_inv h0
    have h : m_X12_wind_L51 M p1 p2 p3 x5 = some w := h
    unfold m_X12_wind_L51 at h
    refine r_iload dX12_wind_51 4 rfl ?_
    refine r_aload_n dX12_wind_53 rfl 0 rfl ?_
    refine r_getI (j := 0) (jz := 0) dX12_wind_54 f_X12_88 rfl rfl rfl ?_
    refine r_aload_n dX12_wind_57 rfl 0 rfl ?_
    refine r_getI (j := 1) (jz := 1) dX12_wind_58 f_X12_92 rfl rfl rfl ?_
    refine r_imul dX12_wind_61 ?_
    by_cases c15 : wr ((gI M 55 0) * (gI M 55 1)) ≤ wr x5
    · rw [if_pos c15] at h
      refine r_icmp_ge (tgt := 131) dX12_wind_62 (by decide) (fun _ => ?_) (fun q => absurd c15 q)
      cases h
      cases k2 _ rfl
      exact hX1 _ _ hX
    · rw [if_neg c15] at h
      refine r_icmp_ge (tgt := 131) dX12_wind_62 (by decide) (fun q => absurd q c15) (fun _ => ?_)
      refine r_aload_n dX12_wind_65 rfl 0 rfl ?_
      refine r_getR (j := 6) (v := 60) dX12_wind_66 f_X12_23 rfl rfl rfl ?_
      refine r_bipush dX12_wind_69 (by decide) ?_
      refine r_iload_n dX12_wind_71 rfl 1 rfl ?_
      refine r_imul dX12_wind_72 ?_
      refine r_iload dX12_wind_73 4 rfl ?_
      refine r_iadd dX12_wind_75 ?_
      refine r_aload_n dX12_wind_76 rfl 0 rfl ?_
      refine r_getR (j := 2) (v := 56) dX12_wind_77 f_X12_7 rfl rfl rfl ?_
      refine r_iload dX12_wind_80 4 rfl ?_
      obtain ⟨c16, h⟩ := of_ck h
      refine r_zald dX12_wind_82 rfl c16 ?_
      obtain ⟨v22, h9, h⟩ := of_bd1 h
      have kJ : Ex G 3 cX12_wind RX12 6 124 [(0, vR 55), (1, vI p1), (2, vI p2), (3, vI p3), (5, vI x5)] [vI v22, vI ((64 * p1) + x5), vR 60] M := by
        obtain ⟨c23, h⟩ := of_ck h
        obtain ⟨M24, eM24, h⟩ := of_lt h
        refine r_iast dX12_wind_124 rfl c23 ?_
        rw [← eM24]
        refine r_iinc (lv2 := [(5, vI (x5 + 1)), (0, vR 55), (1, vI p1), (2, vI p2), (3, vI p3)]) dX12_wind_125 4 rfl (by decide) rfl ?_
        refine r_goto (tgt := 51) dX12_wind_128 (by decide) ?_
        refine r_sub (lv2 := [(0, vR 55), (1, vI p1), (2, vI p2), (3, vI p3), (5, vI (x5 + 1))]) [1, 2, 3, 4, 0] rfl ?_
        cases h
        exact ih _ _  _ (k1 _ rfl) hX
      clear h
      have h := h9
      clear h9
      by_cases c17 : wr (gI M 56 (wr x5)) = 0
      · rw [if_pos c17] at h
        refine r_if_eq (tgt := 112) dX12_wind_83 (by decide) (fun _ => ?_) (fun q => absurd c17 q)
        refine r_aload_n dX12_wind_112 rfl 0 rfl ?_
        refine r_getR (j := 6) (v := 60) dX12_wind_113 f_X12_23 rfl rfl rfl ?_
        refine r_bipush dX12_wind_116 (by decide) ?_
        refine r_iload_n dX12_wind_118 rfl 1 rfl ?_
        refine r_imul dX12_wind_119 ?_
        refine r_iload dX12_wind_120 4 rfl ?_
        refine r_iadd dX12_wind_122 ?_
        obtain ⟨c18, h⟩ := of_ck h
        refine r_iald dX12_wind_123 rfl c18 ?_
        cases h
        exact kJ
      · rw [if_neg c17] at h
        refine r_if_eq (tgt := 112) dX12_wind_83 (by decide) (fun q => absurd q c17) (fun _ => ?_)
        refine r_aload_n dX12_wind_86 rfl 0 rfl ?_
        refine r_getR (j := 23) (v := 75) dX12_wind_87 f_X12_69 rfl rfl rfl ?_
        refine r_iload dX12_wind_90 4 rfl ?_
        refine r_iald dX12_wind_92 rfl c16 ?_
        refine r_iload_n dX12_wind_93 rfl 3 rfl ?_
        by_cases c19 : wr (gI M 75 (wr x5)) = wr p3
        · rw [if_pos c19] at h
          refine r_icmp_ne (tgt := 112) dX12_wind_94 (by decide) (fun q => absurd c19 q) (fun _ => ?_)
          refine r_aload_n dX12_wind_97 rfl 0 rfl ?_
          refine r_getR (j := 6) (v := 60) dX12_wind_98 f_X12_23 rfl rfl rfl ?_
          refine r_bipush dX12_wind_101 (by decide) ?_
          refine r_iload_n dX12_wind_103 rfl 2 rfl ?_
          refine r_imul dX12_wind_104 ?_
          refine r_iload dX12_wind_105 4 rfl ?_
          refine r_iadd dX12_wind_107 ?_
          obtain ⟨c21, h⟩ := of_ck h
          refine r_iald dX12_wind_108 rfl c21 ?_
          refine r_goto (tgt := 124) dX12_wind_109 (by decide) ?_
          cases h
          exact kJ
        · rw [if_neg c19] at h
          refine r_icmp_ne (tgt := 112) dX12_wind_94 (by decide) (fun _ => ?_) (fun q => absurd q c19)
          refine r_aload_n dX12_wind_112 rfl 0 rfl ?_
          refine r_getR (j := 6) (v := 60) dX12_wind_113 f_X12_23 rfl rfl rfl ?_
          refine r_bipush dX12_wind_116 (by decide) ?_
          refine r_iload_n dX12_wind_118 rfl 1 rfl ?_
          refine r_imul dX12_wind_119 ?_
          refine r_iload dX12_wind_120 4 rfl ?_
          refine r_iadd dX12_wind_122 ?_
          obtain ⟨c20, h⟩ := of_ck h
          refine r_iald dX12_wind_123 rfl c20 ?_
          cases h
          exact kJ

set_option maxRecDepth 10000 in
theorem run_X12_wind {M : Mem} {M2 : Mem} {a1 : Int} {a2 : Int} {a3 : Int} {r : Int}   (h : m_X12_wind M a1 a2 a3 = some (r, M2)) : RunI 3 yX12_wind cX12_wind 6 (some .int) [vR 55, vI a1, vI a2, vI a3] M r M2 := by
  refine runI_of (lv := [(0, vR 55), (1, vI a1), (2, vI a2), (3, vI a3)]) (by decide +kernel) (Or.inl rfl) (Nat.le_of_ble_eq_true rfl) rfl ?_
  intro G hQ
  unfold m_X12_wind at h
  refine r_iload_n dX12_wind_0 rfl 1 rfl ?_
  obtain ⟨b2, hc1, h⟩ := of_bd1 h
  refine r_callSI (st := []) dX12_wind_1 v_X12_188 (run_X12_isSlot hc1) (by decide) (by decide) rfl (Nat.le_of_ble_eq_true rfl) rfl ?_
  by_cases c3 : wr (bI b2) = 0
  · rw [if_pos c3] at h
    refine r_if_eq (tgt := 18) dX12_wind_4 (by decide) (fun _ => ?_) (fun q => absurd c3 q)
    refine r_iconst dX12_wind_18 ?_
    cases h
    exact hQ _ _ dX12_wind_19
  · rw [if_neg c3] at h
    refine r_if_eq (tgt := 18) dX12_wind_4 (by decide) (fun q => absurd q c3) (fun _ => ?_)
    refine r_iload_n dX12_wind_7 rfl 2 rfl ?_
    obtain ⟨b5, hc4, h⟩ := of_bd1 h
    refine r_callSI (st := []) dX12_wind_8 v_X12_188 (run_X12_isSlot hc4) (by decide) (by decide) rfl (Nat.le_of_ble_eq_true rfl) rfl ?_
    by_cases c6 : wr (bI b5) = 0
    · rw [if_pos c6] at h
      refine r_if_eq (tgt := 18) dX12_wind_11 (by decide) (fun _ => ?_) (fun q => absurd c6 q)
      refine r_iconst dX12_wind_18 ?_
      cases h
      exact hQ _ _ dX12_wind_19
    · rw [if_neg c6] at h
      refine r_if_eq (tgt := 18) dX12_wind_11 (by decide) (fun q => absurd q c6) (fun _ => ?_)
      refine r_iload_n dX12_wind_14 rfl 3 rfl ?_
      by_cases c7 : 0 ≤ wr a3
      · rw [if_pos c7] at h
        refine r_if_ge (tgt := 20) dX12_wind_15 (by decide) (fun _ => ?_) (fun q => absurd c7 q)
        refine r_aload_n dX12_wind_20 rfl 0 rfl ?_
        refine r_iload_n dX12_wind_21 rfl 1 rfl ?_
        refine r_iload_n dX12_wind_22 rfl 2 rfl ?_
        obtain ⟨r9, hc8, h⟩ := of_bd1 h
        refine r_callVI (st := []) dX12_wind_23 v_X12_265 (run_X12_refusesBoth hc8) (by decide) (by decide) rfl rfl (Nat.le_of_ble_eq_true rfl) rfl ?_
        refine r_istore (lv2 := [(4, vI r9), (0, vR 55), (1, vI a1), (2, vI a2), (3, vI a3)]) dX12_wind_26 (by decide) rfl ?_
        refine r_iload dX12_wind_28 0 rfl ?_
        by_cases c10 : 0 ≤ wr r9
        · rw [if_pos c10] at h
          refine r_if_ge (tgt := 36) dX12_wind_30 (by decide) (fun _ => ?_) (fun q => absurd c10 q)
          refine r_iload_n dX12_wind_36 rfl 4 rfl ?_
          refine r_aload_n dX12_wind_37 rfl 1 rfl ?_
          refine r_iload_n dX12_wind_38 rfl 2 rfl ?_
          refine r_iload_n dX12_wind_39 rfl 3 rfl ?_
          obtain ⟨r12, M13, hc11, h⟩ := of_bd2 h
          refine r_callVI (st := [vI a3]) dX12_wind_40 v_X12_277 (run_X12_ringMany hc11) (by decide) (by decide) rfl rfl (Nat.le_of_ble_eq_true rfl) rfl ?_
          by_cases c14 : wr a3 < wr r12
          · rw [if_pos c14] at h
            refine r_icmp_lt (tgt := 48) dX12_wind_43 (by decide) (fun _ => ?_) (fun q => absurd c14 q)
            refine r_iconst dX12_wind_48 ?_
            refine r_istore (lv2 := [(5, vI 0), (4, vI r9), (0, vR 55), (1, vI a1), (2, vI a2), (3, vI a3)]) dX12_wind_49 (by decide) rfl ?_
            obtain ⟨y25, M26, h9, h⟩ := of_bd2 h
            refine r_sub (lv2 := [(0, vR 55), (1, vI a1), (2, vI a2), (3, vI a3), (5, vI 0)]) [2, 3, 4, 5, 0] rfl ?_
            refine lp_X12_wind_L51 a1 a2 a3  (fun w => w = (y25, M26)) ?_ FU 0 M13 _ h9 rfl
            intro z0 z1 hw
            cases hw
            refine r_aload_n dX12_wind_131 rfl 0 rfl ?_
            refine r_iload_n dX12_wind_132 rfl 3 rfl ?_
            obtain ⟨r28, hc27, h⟩ := of_bd1 h
            refine r_callVI (st := []) dX12_wind_133 v_X12_280 (run_X12_ringSize hc27) (by decide) (by decide) rfl rfl (Nat.le_of_ble_eq_true rfl) rfl ?_
            refine r_iconst dX12_wind_136 ?_
            refine r_idiv dX12_wind_137 (by decide) ?_
            cases h
            exact hQ _ _ dX12_wind_138
          · rw [if_neg c14] at h
            refine r_icmp_lt (tgt := 48) dX12_wind_43 (by decide) (fun q => absurd q c14) (fun _ => ?_)
            refine r_iconst dX12_wind_46 ?_
            cases h
            exact hQ _ _ dX12_wind_47
        · rw [if_neg c10] at h
          refine r_if_ge (tgt := 36) dX12_wind_30 (by decide) (fun q => absurd q c10) (fun _ => ?_)
          refine r_iload dX12_wind_33 0 rfl ?_
          cases h
          exact hQ _ _ dX12_wind_35
      · rw [if_neg c7] at h
        refine r_if_ge (tgt := 20) dX12_wind_15 (by decide) (fun q => absurd q c7) (fun _ => ?_)
        refine r_iconst dX12_wind_18 ?_
        cases h
        exact hQ _ _ dX12_wind_19

def m_X12_isLane (a0 : Int) : Option (Bool) :=
  bd1 (m_X12_in (i2l a0) (0 : Int64) (2)) fun b2 =>
  some b2
set_option maxRecDepth 10000 in
theorem run_X12_isLane {M : Mem} {a0 : Int} {r : Bool}   (h : m_X12_isLane a0 = some r) : RunI 1 yX12_isLane cX12_isLane 1 (some .boolean) [vI a0] M (bI r) M := by
  refine runI_of (lv := [(0, vI a0)]) (by decide +kernel) (Or.inr ⟨rfl, bI_01 r⟩) (Nat.le_of_ble_eq_true rfl) rfl ?_
  intro G hQ
  unfold m_X12_isLane at h
  refine r_iload_n dX12_isLane_0 rfl 0 rfl ?_
  refine r_i2l dX12_isLane_1 ?_
  refine r_lconst (v := 0) dX12_isLane_2 rfl ?_
  refine r_ldc2 (v := (2)) dX12_isLane_3 kl_X12_156 ?_
  obtain ⟨b2, hc1, h⟩ := of_bd1 h
  refine r_callSI (st := []) dX12_isLane_6 v_X12_100 (run_X12_in hc1) (by decide) (by decide) rfl (Nat.le_of_ble_eq_true rfl) rfl ?_
  cases h
  exact hQ _ _ dX12_isLane_9

def m_X12_sheet_L46 (M : Mem) (p1 : Int) (p3 : Int) (x4 : Int) : Option ((Int × Mem) ⊕ (Int × Mem)) :=
  if wr 64 ≤ wr x4 then
    some (.inr (x4, M))
  else
    if 0 ≤ wr ((64 * p1) + x4) ∧ wr ((64 * p1) + x4) < 256 then
    lt (sI M 78 (wr ((64 * p1) + x4)) 0) fun M14 =>
    some (.inl ((x4 + 1), M14))
    else none
def m_X12_sheet (M : Mem) (a1 : Int) (a2 : Int) (a3 : Int) : Option (Int × Mem) :=
  bd1 (m_X12_isSheet a1) fun b2 =>
  if wr (bI b2) = 0 then
    some ((-1), M)
  else
    bd1 (m_X12_isLane a2) fun b5 =>
    if wr (bI b5) = 0 then
      some ((-1), M)
    else
      if wr a3 ≤ wr 64 then
        if 0 ≤ wr a3 then
          if 0 ≤ wr a1 ∧ wr a1 < 4 then
          lt (sI M 76 (wr a1) a2) fun M10 =>
          lt (sI M10 77 (wr a1) a3) fun M11 =>
          bd2 (itr (fun s => m_X12_sheet_L46 s.2 a1 a3 s.1) FU (0, M11)) fun y15 M16 =>
          some (a3, M16)
          else none
        else
          some ((-14), M)
      else
        some ((-1), M)
set_option maxRecDepth 10000 in
theorem lp_X12_sheet_L46 {G : Gx} (p1 : Int) (p3 : Int)   (X : (Int × Mem) → Prop) (hX1 : ∀ (x4 : Int) (M : Mem), X (x4, M) → Ex G 2 cX12_sheet RX12 5 72 [(0, vR 55), (1, vI p1), (3, vI p3), (4, vI x4)] [] M) : ∀ (nn : Nat) (x4 : Int) (M : Mem) (out : Int × Mem), itr (fun s => m_X12_sheet_L46 s.2 p1 p3 s.1) nn (x4, M) = some out → X out → Ex G 2 cX12_sheet RX12 5 46 [(0, vR 55), (1, vI p1), (3, vI p3), (4, vI x4)] [] M := by
  intro nn
  induction nn with
  | zero =>
    intro x4 M out h _
    cases h
  | succ nn ih =>
    intro x4 M out h0 hX
    obtain ⟨w, h, k1, k2⟩ := itr_inv h0
    have h : m_X12_sheet_L46 M p1 p3 x4 = some w := h
    unfold m_X12_sheet_L46 at h
    refine r_iload dX12_sheet_46 3 rfl ?_
    refine r_bipush dX12_sheet_48 (by decide) ?_
    by_cases c12 : wr 64 ≤ wr x4
    · rw [if_pos c12] at h
      refine r_icmp_ge (tgt := 72) dX12_sheet_50 (by decide) (fun _ => ?_) (fun q => absurd c12 q)
      cases h
      cases k2 _ rfl
      exact hX1 _ _ hX
    · rw [if_neg c12] at h
      refine r_icmp_ge (tgt := 72) dX12_sheet_50 (by decide) (fun q => absurd q c12) (fun _ => ?_)
      refine r_aload_n dX12_sheet_53 rfl 0 rfl ?_
      refine r_getR (j := 26) (v := 78) dX12_sheet_54 f_X12_78 rfl rfl rfl ?_
      refine r_bipush dX12_sheet_57 (by decide) ?_
      refine r_iload_n dX12_sheet_59 rfl 1 rfl ?_
      refine r_imul dX12_sheet_60 ?_
      refine r_iload dX12_sheet_61 3 rfl ?_
      refine r_iadd dX12_sheet_63 ?_
      refine r_iconst dX12_sheet_64 ?_
      obtain ⟨c13, h⟩ := of_ck h
      obtain ⟨M14, eM14, h⟩ := of_lt h
      refine r_iast dX12_sheet_65 rfl c13 ?_
      rw [← eM14]
      refine r_iinc (lv2 := [(4, vI (x4 + 1)), (0, vR 55), (1, vI p1), (3, vI p3)]) dX12_sheet_66 3 rfl (by decide) rfl ?_
      refine r_goto (tgt := 46) dX12_sheet_69 (by decide) ?_
      refine r_sub (lv2 := [(0, vR 55), (1, vI p1), (3, vI p3), (4, vI (x4 + 1))]) [1, 2, 3, 0] rfl ?_
      cases h
      exact ih _ _  _ (k1 _ rfl) hX

set_option maxRecDepth 10000 in
theorem run_X12_sheet {M : Mem} {M2 : Mem} {a1 : Int} {a2 : Int} {a3 : Int} {r : Int}   (h : m_X12_sheet M a1 a2 a3 = some (r, M2)) : RunI 2 yX12_sheet cX12_sheet 5 (some .int) [vR 55, vI a1, vI a2, vI a3] M r M2 := by
  refine runI_of (lv := [(0, vR 55), (1, vI a1), (2, vI a2), (3, vI a3)]) (by decide +kernel) (Or.inl rfl) (Nat.le_of_ble_eq_true rfl) rfl ?_
  intro G hQ
  unfold m_X12_sheet at h
  refine r_iload_n dX12_sheet_0 rfl 1 rfl ?_
  obtain ⟨b2, hc1, h⟩ := of_bd1 h
  refine r_callSI (st := []) dX12_sheet_1 v_X12_143 (run_X12_isSheet hc1) (by decide) (by decide) rfl (Nat.le_of_ble_eq_true rfl) rfl ?_
  by_cases c3 : wr (bI b2) = 0
  · rw [if_pos c3] at h
    refine r_if_eq (tgt := 20) dX12_sheet_4 (by decide) (fun _ => ?_) (fun q => absurd c3 q)
    refine r_iconst dX12_sheet_20 ?_
    cases h
    exact hQ _ _ dX12_sheet_21
  · rw [if_neg c3] at h
    refine r_if_eq (tgt := 20) dX12_sheet_4 (by decide) (fun q => absurd q c3) (fun _ => ?_)
    refine r_iload_n dX12_sheet_7 rfl 2 rfl ?_
    obtain ⟨b5, hc4, h⟩ := of_bd1 h
    refine r_callSI (st := []) dX12_sheet_8 v_X12_283 (run_X12_isLane hc4) (by decide) (by decide) rfl (Nat.le_of_ble_eq_true rfl) rfl ?_
    by_cases c6 : wr (bI b5) = 0
    · rw [if_pos c6] at h
      refine r_if_eq (tgt := 20) dX12_sheet_11 (by decide) (fun _ => ?_) (fun q => absurd c6 q)
      refine r_iconst dX12_sheet_20 ?_
      cases h
      exact hQ _ _ dX12_sheet_21
    · rw [if_neg c6] at h
      refine r_if_eq (tgt := 20) dX12_sheet_11 (by decide) (fun q => absurd q c6) (fun _ => ?_)
      refine r_iload_n dX12_sheet_14 rfl 3 rfl ?_
      refine r_bipush dX12_sheet_15 (by decide) ?_
      by_cases c7 : wr a3 ≤ wr 64
      · rw [if_pos c7] at h
        refine r_icmp_le (tgt := 22) dX12_sheet_17 (by decide) (fun _ => ?_) (fun q => absurd c7 q)
        refine r_iload_n dX12_sheet_22 rfl 3 rfl ?_
        by_cases c8 : 0 ≤ wr a3
        · rw [if_pos c8] at h
          refine r_if_ge (tgt := 29) dX12_sheet_23 (by decide) (fun _ => ?_) (fun q => absurd c8 q)
          refine r_aload_n dX12_sheet_29 rfl 0 rfl ?_
          refine r_getR (j := 24) (v := 76) dX12_sheet_30 f_X12_72 rfl rfl rfl ?_
          refine r_iload_n dX12_sheet_33 rfl 1 rfl ?_
          refine r_iload_n dX12_sheet_34 rfl 2 rfl ?_
          obtain ⟨c9, h⟩ := of_ck h
          obtain ⟨M10, eM10, h⟩ := of_lt h
          refine r_iast dX12_sheet_35 rfl c9 ?_
          rw [← eM10]
          refine r_aload_n dX12_sheet_36 rfl 0 rfl ?_
          refine r_getR (j := 25) (v := 77) dX12_sheet_37 f_X12_75 rfl rfl rfl ?_
          refine r_iload_n dX12_sheet_40 rfl 1 rfl ?_
          refine r_iload_n dX12_sheet_41 rfl 3 rfl ?_
          obtain ⟨M11, eM11, h⟩ := of_lt h
          refine r_iast dX12_sheet_42 rfl c9 ?_
          rw [← eM11]
          refine r_iconst dX12_sheet_43 ?_
          refine r_istore (lv2 := [(4, vI 0), (0, vR 55), (1, vI a1), (2, vI a2), (3, vI a3)]) dX12_sheet_44 (by decide) rfl ?_
          obtain ⟨y15, M16, h9, h⟩ := of_bd2 h
          refine r_sub (lv2 := [(0, vR 55), (1, vI a1), (3, vI a3), (4, vI 0)]) [1, 2, 4, 0] rfl ?_
          refine lp_X12_sheet_L46 a1 a3  (fun w => w = (y15, M16)) ?_ FU 0 M11 _ h9 rfl
          intro z0 z1 hw
          cases hw
          refine r_iload_n dX12_sheet_72 rfl 2 rfl ?_
          cases h
          exact hQ _ _ dX12_sheet_73
        · rw [if_neg c8] at h
          refine r_if_ge (tgt := 29) dX12_sheet_23 (by decide) (fun q => absurd q c8) (fun _ => ?_)
          refine r_bipush dX12_sheet_26 (by decide) ?_
          cases h
          exact hQ _ _ dX12_sheet_28
      · rw [if_neg c7] at h
        refine r_icmp_le (tgt := 22) dX12_sheet_17 (by decide) (fun q => absurd q c7) (fun _ => ?_)
        refine r_iconst dX12_sheet_20 ?_
        cases h
        exact hQ _ _ dX12_sheet_21

def m_X12_drop (M : Mem) (a1 : Int) : Option (Int × Mem) :=
  bd1 (m_X12_isSheet a1) fun b2 =>
  if wr (bI b2) = 0 then
    some ((-1), M)
  else
    if 0 ≤ wr a1 ∧ wr a1 < 4 then
    if 0 ≤ wr (gI M 76 (wr a1)) then
      lt (sI M 76 (wr a1) (-1)) fun M6 =>
      some ((gI M6 77 (wr a1)), M6)
    else
      some ((-11), M)
    else none
set_option maxRecDepth 10000 in
theorem run_X12_drop {M : Mem} {M2 : Mem} {a1 : Int} {r : Int}   (h : m_X12_drop M a1 = some (r, M2)) : RunI 2 yX12_drop cX12_drop 2 (some .int) [vR 55, vI a1] M r M2 := by
  refine runI_of (lv := [(0, vR 55), (1, vI a1)]) (by decide +kernel) (Or.inl rfl) (Nat.le_of_ble_eq_true rfl) rfl ?_
  intro G hQ
  unfold m_X12_drop at h
  refine r_iload_n dX12_drop_0 rfl 1 rfl ?_
  obtain ⟨b2, hc1, h⟩ := of_bd1 h
  refine r_callSI (st := []) dX12_drop_1 v_X12_143 (run_X12_isSheet hc1) (by decide) (by decide) rfl (Nat.le_of_ble_eq_true rfl) rfl ?_
  by_cases c3 : wr (bI b2) = 0
  · rw [if_pos c3] at h
    refine r_if_ne (tgt := 9) dX12_drop_4 (by decide) (fun q => absurd c3 q) (fun _ => ?_)
    refine r_iconst dX12_drop_7 ?_
    cases h
    exact hQ _ _ dX12_drop_8
  · rw [if_neg c3] at h
    refine r_if_ne (tgt := 9) dX12_drop_4 (by decide) (fun _ => ?_) (fun q => absurd q c3)
    refine r_aload_n dX12_drop_9 rfl 0 rfl ?_
    refine r_getR (j := 24) (v := 76) dX12_drop_10 f_X12_72 rfl rfl rfl ?_
    refine r_iload_n dX12_drop_13 rfl 1 rfl ?_
    obtain ⟨c4, h⟩ := of_ck h
    refine r_iald dX12_drop_14 rfl c4 ?_
    by_cases c5 : 0 ≤ wr (gI M 76 (wr a1))
    · rw [if_pos c5] at h
      refine r_if_ge (tgt := 21) dX12_drop_15 (by decide) (fun _ => ?_) (fun q => absurd c5 q)
      refine r_aload_n dX12_drop_21 rfl 0 rfl ?_
      refine r_getR (j := 24) (v := 76) dX12_drop_22 f_X12_72 rfl rfl rfl ?_
      refine r_iload_n dX12_drop_25 rfl 1 rfl ?_
      refine r_iconst dX12_drop_26 ?_
      obtain ⟨M6, eM6, h⟩ := of_lt h
      refine r_iast dX12_drop_27 rfl c4 ?_
      rw [← eM6]
      refine r_aload_n dX12_drop_28 rfl 0 rfl ?_
      refine r_getR (j := 25) (v := 77) dX12_drop_29 f_X12_75 rfl rfl rfl ?_
      refine r_iload_n dX12_drop_32 rfl 1 rfl ?_
      refine r_iald dX12_drop_33 rfl c4 ?_
      cases h
      exact hQ _ _ dX12_drop_34
    · rw [if_neg c5] at h
      refine r_if_ge (tgt := 21) dX12_drop_15 (by decide) (fun q => absurd q c5) (fun _ => ?_)
      refine r_bipush dX12_drop_18 (by decide) ?_
      cases h
      exact hQ _ _ dX12_drop_20

def m_X12_item (M : Mem) (a1 : Int) (a2 : Int) (a3 : Int) (a4 : Int) : Option (Int × Mem) :=
  bd1 (m_X12_isSheet a1) fun b2 =>
  if wr (bI b2) = 0 then
    some ((-1), M)
  else
    bd1 (m_X12_isLane a2) fun b5 =>
    if wr (bI b5) = 0 then
      some ((-1), M)
    else
      bd1 (m_X12_finds M a1 a2 a3 1) fun r8 =>
      if 0 ≤ wr r8 then
        lt (if wr a2 = 0 then (if wr a4 = 0 then 0 else 1) else (if wr a2 = wr 1 then (i2b a4) else a4)) fun (v13 : Int) =>
        if 0 ≤ wr ((64 * a1) + a3) ∧ wr ((64 * a1) + a3) < 256 then
        lt (sI M 78 (wr ((64 * a1) + a3)) v13) fun M15 =>
        some (1, M15)
        else none
      else
        some (r8, M)
set_option maxRecDepth 10000 in
theorem run_X12_item {M : Mem} {M2 : Mem} {a1 : Int} {a2 : Int} {a3 : Int} {a4 : Int} {r : Int}   (h : m_X12_item M a1 a2 a3 a4 = some (r, M2)) : RunI 2 yX12_item cX12_item 6 (some .int) [vR 55, vI a1, vI a2, vI a3, vI a4] M r M2 := by
  refine runI_of (lv := [(0, vR 55), (1, vI a1), (2, vI a2), (3, vI a3), (4, vI a4)]) (by decide +kernel) (Or.inl rfl) (Nat.le_of_ble_eq_true rfl) rfl ?_
  intro G hQ
  unfold m_X12_item at h
  refine r_iload_n dX12_item_0 rfl 1 rfl ?_
  obtain ⟨b2, hc1, h⟩ := of_bd1 h
  refine r_callSI (st := []) dX12_item_1 v_X12_143 (run_X12_isSheet hc1) (by decide) (by decide) rfl (Nat.le_of_ble_eq_true rfl) rfl ?_
  by_cases c3 : wr (bI b2) = 0
  · rw [if_pos c3] at h
    refine r_if_eq (tgt := 14) dX12_item_4 (by decide) (fun _ => ?_) (fun q => absurd c3 q)
    refine r_iconst dX12_item_14 ?_
    cases h
    exact hQ _ _ dX12_item_15
  · rw [if_neg c3] at h
    refine r_if_eq (tgt := 14) dX12_item_4 (by decide) (fun q => absurd q c3) (fun _ => ?_)
    refine r_iload_n dX12_item_7 rfl 2 rfl ?_
    obtain ⟨b5, hc4, h⟩ := of_bd1 h
    refine r_callSI (st := []) dX12_item_8 v_X12_283 (run_X12_isLane hc4) (by decide) (by decide) rfl (Nat.le_of_ble_eq_true rfl) rfl ?_
    by_cases c6 : wr (bI b5) = 0
    · rw [if_pos c6] at h
      refine r_if_ne (tgt := 16) dX12_item_11 (by decide) (fun q => absurd c6 q) (fun _ => ?_)
      refine r_iconst dX12_item_14 ?_
      cases h
      exact hQ _ _ dX12_item_15
    · rw [if_neg c6] at h
      refine r_if_ne (tgt := 16) dX12_item_11 (by decide) (fun _ => ?_) (fun q => absurd q c6)
      refine r_aload_n dX12_item_16 rfl 0 rfl ?_
      refine r_iload_n dX12_item_17 rfl 1 rfl ?_
      refine r_iload_n dX12_item_18 rfl 2 rfl ?_
      refine r_iload_n dX12_item_19 rfl 3 rfl ?_
      refine r_iconst dX12_item_20 ?_
      obtain ⟨r8, hc7, h⟩ := of_bd1 h
      refine r_callVI (st := []) dX12_item_21 v_X12_146 (run_X12_finds hc7) (by decide) (by decide) rfl rfl (Nat.le_of_ble_eq_true rfl) rfl ?_
      refine r_istore (lv2 := [(5, vI r8), (0, vR 55), (1, vI a1), (2, vI a2), (3, vI a3), (4, vI a4)]) dX12_item_24 (by decide) rfl ?_
      refine r_iload dX12_item_26 0 rfl ?_
      by_cases c9 : 0 ≤ wr r8
      · rw [if_pos c9] at h
        refine r_if_ge (tgt := 34) dX12_item_28 (by decide) (fun _ => ?_) (fun q => absurd c9 q)
        refine r_aload_n dX12_item_34 rfl 1 rfl ?_
        refine r_getR (j := 26) (v := 78) dX12_item_35 f_X12_78 rfl rfl rfl ?_
        refine r_bipush dX12_item_38 (by decide) ?_
        refine r_iload_n dX12_item_40 rfl 2 rfl ?_
        refine r_imul dX12_item_41 ?_
        refine r_iload_n dX12_item_42 rfl 4 rfl ?_
        refine r_iadd dX12_item_43 ?_
        refine r_iload_n dX12_item_44 rfl 3 rfl ?_
        obtain ⟨v13, ev13, h⟩ := of_lt h
        have kJ : Ex G 2 cX12_item RX12 6 74 [] [vI v13, vI ((64 * a1) + a3), vR 78] M := by
          obtain ⟨c14, h⟩ := of_ck h
          obtain ⟨M15, eM15, h⟩ := of_lt h
          refine r_iast dX12_item_74 rfl c14 ?_
          rw [← eM15]
          refine r_iconst dX12_item_75 ?_
          cases h
          exact hQ _ _ dX12_item_76
        clear h
        by_cases c10 : wr a2 = 0
        · skip
          refine r_if_ne (tgt := 61) dX12_item_45 (by decide) (fun q => absurd c10 q) (fun _ => ?_)
          refine r_iload dX12_item_48 5 rfl ?_
          by_cases c12 : wr a4 = 0
          · skip
            refine r_if_eq (tgt := 57) dX12_item_50 (by decide) (fun _ => ?_) (fun q => absurd c12 q)
            refine r_iconst dX12_item_57 ?_
            refine r_goto (tgt := 74) dX12_item_58 (by decide) ?_
            rw [show v13 = 0 from by rw [ev13, if_pos c10, if_pos c12]] at kJ
            refine r_sub (lv2 := []) [] rfl ?_
            exact kJ
          · skip
            refine r_if_eq (tgt := 57) dX12_item_50 (by decide) (fun q => absurd q c12) (fun _ => ?_)
            refine r_iconst dX12_item_53 ?_
            refine r_goto (tgt := 74) dX12_item_54 (by decide) ?_
            rw [show v13 = 1 from by rw [ev13, if_pos c10, if_neg c12]] at kJ
            refine r_sub (lv2 := []) [] rfl ?_
            exact kJ
        · skip
          refine r_if_ne (tgt := 61) dX12_item_45 (by decide) (fun _ => ?_) (fun q => absurd q c10)
          refine r_iload_n dX12_item_61 rfl 3 rfl ?_
          refine r_iconst dX12_item_62 ?_
          by_cases c11 : wr a2 = wr 1
          · skip
            refine r_icmp_ne (tgt := 72) dX12_item_63 (by decide) (fun q => absurd c11 q) (fun _ => ?_)
            refine r_iload dX12_item_66 5 rfl ?_
            refine r_i2b dX12_item_68 ?_
            refine r_goto (tgt := 74) dX12_item_69 (by decide) ?_
            rw [show v13 = (i2b a4) from by rw [ev13, if_neg c10, if_pos c11]] at kJ
            refine r_sub (lv2 := []) [] rfl ?_
            exact kJ
          · skip
            refine r_icmp_ne (tgt := 72) dX12_item_63 (by decide) (fun _ => ?_) (fun q => absurd q c11)
            refine r_iload dX12_item_72 5 rfl ?_
            rw [show v13 = a4 from by rw [ev13, if_neg c10, if_neg c11]] at kJ
            refine r_sub (lv2 := []) [] rfl ?_
            exact kJ
      · rw [if_neg c9] at h
        refine r_if_ge (tgt := 34) dX12_item_28 (by decide) (fun q => absurd q c9) (fun _ => ?_)
        refine r_iload dX12_item_31 0 rfl ?_
        cases h
        exact hQ _ _ dX12_item_33

def m_X12_copy_L101 (M : Mem) (p1 : Int) (p2 : Int) (p3 : Int) (p4 : Int) (p5 : Int) (x6 : Int) : Option ((Int × Mem) ⊕ (Int × Mem)) :=
  if wr p5 ≤ wr x6 then
    some (.inr (x6, M))
  else
    if 0 ≤ wr (((64 * p1) + p2) + x6) ∧ wr (((64 * p1) + p2) + x6) < 256 then
    if 0 ≤ wr x6 ∧ wr x6 < 64 then
    lt (sI M 79 (wr x6) (gI M 78 (wr (((64 * p1) + p2) + x6)))) fun M22 =>
    some (.inl ((x6 + 1), M22))
    else none
    else none
def m_X12_copy_L138 (M : Mem) (p3 : Int) (p4 : Int) (p5 : Int) (x6 : Int) : Option ((Int × Mem) ⊕ (Int × Mem)) :=
  if wr p5 ≤ wr x6 then
    some (.inr (x6, M))
  else
    if 0 ≤ wr x6 ∧ wr x6 < 64 then
    if 0 ≤ wr (((64 * p3) + p4) + x6) ∧ wr (((64 * p3) + p4) + x6) < 256 then
    lt (sI M 78 (wr (((64 * p3) + p4) + x6)) (gI M 79 (wr x6))) fun M28 =>
    some (.inl ((x6 + 1), M28))
    else none
    else none
def m_X12_copy (M : Mem) (a1 : Int) (a2 : Int) (a3 : Int) (a4 : Int) (a5 : Int) : Option (Int × Mem) :=
  bd1 (m_X12_isSheet a1) fun b2 =>
  if wr (bI b2) = 0 then
    some ((-1), M)
  else
    bd1 (m_X12_isSheet a3) fun b5 =>
    if wr (bI b5) = 0 then
      some ((-1), M)
    else
      if 0 ≤ wr a1 ∧ wr a1 < 4 then
      if wr (gI M 76 (wr a1)) < 0 then
        some ((-11), M)
      else
        if 0 ≤ wr a3 ∧ wr a3 < 4 then
        if 0 ≤ wr (gI M 76 (wr a3)) then
          if wr (gI M 76 (wr a1)) = wr (gI M 76 (wr a3)) then
            if wr a5 < 0 then
              some ((-13), M)
            else
              bd1 (m_X12_finds M a1 (gI M 76 (wr a1)) a2 a5) fun r14 =>
              if wr r14 < 0 then
                some ((-13), M)
              else
                bd1 (m_X12_finds M a3 (gI M 76 (wr a3)) a4 a5) fun r17 =>
                if 0 ≤ wr r17 then
                  bd2 (itr (fun s => m_X12_copy_L101 s.2 a1 a2 a3 a4 a5 s.1) FU (0, M)) fun y23 M24 =>
                  bd2 (itr (fun s => m_X12_copy_L138 s.2 a3 a4 a5 s.1) FU (0, M24)) fun y29 M30 =>
                  some (a5, M30)
                else
                  some ((-13), M)
          else
            some ((-12), M)
        else
          some ((-11), M)
        else none
      else none
set_option maxRecDepth 10000 in
theorem lp_X12_copy_L101 {G : Gx} (p1 : Int) (p2 : Int) (p3 : Int) (p4 : Int) (p5 : Int)   (X : (Int × Mem) → Prop) (hX1 : ∀ (x6 : Int) (M : Mem), X (x6, M) → Ex G 2 cX12_copy RX12 7 135 [(0, vR 55), (1, vI p1), (2, vI p2), (3, vI p3), (4, vI p4), (5, vI p5), (6, vI x6)] [] M) : ∀ (nn : Nat) (x6 : Int) (M : Mem) (out : Int × Mem), itr (fun s => m_X12_copy_L101 s.2 p1 p2 p3 p4 p5 s.1) nn (x6, M) = some out → X out → Ex G 2 cX12_copy RX12 7 101 [(0, vR 55), (1, vI p1), (2, vI p2), (3, vI p3), (4, vI p4), (5, vI p5), (6, vI x6)] [] M := by
  intro nn
  induction nn with
  | zero =>
    intro x6 M out h _
    cases h
  | succ nn ih =>
    intro x6 M out h0 hX
    obtain ⟨w, h, k1, k2⟩ := itr_inv h0
    have h : m_X12_copy_L101 M p1 p2 p3 p4 p5 x6 = some w := h
    unfold m_X12_copy_L101 at h
    refine r_iload dX12_copy_101 6 rfl ?_
    refine r_iload dX12_copy_103 5 rfl ?_
    by_cases c19 : wr p5 ≤ wr x6
    · rw [if_pos c19] at h
      refine r_icmp_ge (tgt := 135) dX12_copy_105 (by decide) (fun _ => ?_) (fun q => absurd c19 q)
      cases h
      cases k2 _ rfl
      exact hX1 _ _ hX
    · rw [if_neg c19] at h
      refine r_icmp_ge (tgt := 135) dX12_copy_105 (by decide) (fun q => absurd q c19) (fun _ => ?_)
      refine r_aload_n dX12_copy_108 rfl 0 rfl ?_
      refine r_getR (j := 27) (v := 79) dX12_copy_109 f_X12_81 rfl rfl rfl ?_
      refine r_iload dX12_copy_112 6 rfl ?_
      refine r_aload_n dX12_copy_114 rfl 0 rfl ?_
      refine r_getR (j := 26) (v := 78) dX12_copy_115 f_X12_78 rfl rfl rfl ?_
      refine r_bipush dX12_copy_118 (by decide) ?_
      refine r_iload_n dX12_copy_120 rfl 1 rfl ?_
      refine r_imul dX12_copy_121 ?_
      refine r_iload_n dX12_copy_122 rfl 2 rfl ?_
      refine r_iadd dX12_copy_123 ?_
      refine r_iload dX12_copy_124 6 rfl ?_
      refine r_iadd dX12_copy_126 ?_
      obtain ⟨c20, h⟩ := of_ck h
      refine r_iald dX12_copy_127 rfl c20 ?_
      obtain ⟨c21, h⟩ := of_ck h
      obtain ⟨M22, eM22, h⟩ := of_lt h
      refine r_iast dX12_copy_128 rfl c21 ?_
      rw [← eM22]
      refine r_iinc (lv2 := [(6, vI (x6 + 1)), (0, vR 55), (1, vI p1), (2, vI p2), (3, vI p3), (4, vI p4), (5, vI p5)]) dX12_copy_129 6 rfl (by decide) rfl ?_
      refine r_goto (tgt := 101) dX12_copy_132 (by decide) ?_
      refine r_sub (lv2 := [(0, vR 55), (1, vI p1), (2, vI p2), (3, vI p3), (4, vI p4), (5, vI p5), (6, vI (x6 + 1))]) [1, 2, 3, 4, 5, 6, 0] rfl ?_
      cases h
      exact ih _ _  _ (k1 _ rfl) hX

set_option maxRecDepth 10000 in
theorem lp_X12_copy_L138 {G : Gx} (p3 : Int) (p4 : Int) (p5 : Int)   (X : (Int × Mem) → Prop) (hX1 : ∀ (x6 : Int) (M : Mem), X (x6, M) → Ex G 2 cX12_copy RX12 7 173 [(0, vR 55), (3, vI p3), (4, vI p4), (5, vI p5), (6, vI x6)] [] M) : ∀ (nn : Nat) (x6 : Int) (M : Mem) (out : Int × Mem), itr (fun s => m_X12_copy_L138 s.2 p3 p4 p5 s.1) nn (x6, M) = some out → X out → Ex G 2 cX12_copy RX12 7 138 [(0, vR 55), (3, vI p3), (4, vI p4), (5, vI p5), (6, vI x6)] [] M := by
  intro nn
  induction nn with
  | zero =>
    intro x6 M out h _
    cases h
  | succ nn ih =>
    intro x6 M out h0 hX
    obtain ⟨w, h, k1, k2⟩ := itr_inv h0
    have h : m_X12_copy_L138 M p3 p4 p5 x6 = some w := h
    unfold m_X12_copy_L138 at h
    refine r_iload dX12_copy_138 4 rfl ?_
    refine r_iload dX12_copy_140 3 rfl ?_
    by_cases c25 : wr p5 ≤ wr x6
    · rw [if_pos c25] at h
      refine r_icmp_ge (tgt := 173) dX12_copy_142 (by decide) (fun _ => ?_) (fun q => absurd c25 q)
      cases h
      cases k2 _ rfl
      exact hX1 _ _ hX
    · rw [if_neg c25] at h
      refine r_icmp_ge (tgt := 173) dX12_copy_142 (by decide) (fun q => absurd q c25) (fun _ => ?_)
      refine r_aload_n dX12_copy_145 rfl 0 rfl ?_
      refine r_getR (j := 26) (v := 78) dX12_copy_146 f_X12_78 rfl rfl rfl ?_
      refine r_bipush dX12_copy_149 (by decide) ?_
      refine r_iload_n dX12_copy_151 rfl 1 rfl ?_
      refine r_imul dX12_copy_152 ?_
      refine r_iload dX12_copy_153 2 rfl ?_
      refine r_iadd dX12_copy_155 ?_
      refine r_iload dX12_copy_156 4 rfl ?_
      refine r_iadd dX12_copy_158 ?_
      refine r_aload_n dX12_copy_159 rfl 0 rfl ?_
      refine r_getR (j := 27) (v := 79) dX12_copy_160 f_X12_81 rfl rfl rfl ?_
      refine r_iload dX12_copy_163 4 rfl ?_
      obtain ⟨c26, h⟩ := of_ck h
      refine r_iald dX12_copy_165 rfl c26 ?_
      obtain ⟨c27, h⟩ := of_ck h
      obtain ⟨M28, eM28, h⟩ := of_lt h
      refine r_iast dX12_copy_166 rfl c27 ?_
      rw [← eM28]
      refine r_iinc (lv2 := [(6, vI (x6 + 1)), (0, vR 55), (3, vI p3), (4, vI p4), (5, vI p5)]) dX12_copy_167 4 rfl (by decide) rfl ?_
      refine r_goto (tgt := 138) dX12_copy_170 (by decide) ?_
      refine r_sub (lv2 := [(0, vR 55), (3, vI p3), (4, vI p4), (5, vI p5), (6, vI (x6 + 1))]) [1, 2, 3, 4, 0] rfl ?_
      cases h
      exact ih _ _  _ (k1 _ rfl) hX

set_option maxRecDepth 10000 in
theorem run_X12_copy {M : Mem} {M2 : Mem} {a1 : Int} {a2 : Int} {a3 : Int} {a4 : Int} {a5 : Int} {r : Int}   (h : m_X12_copy M a1 a2 a3 a4 a5 = some (r, M2)) : RunI 2 yX12_copy cX12_copy 7 (some .int) [vR 55, vI a1, vI a2, vI a3, vI a4, vI a5] M r M2 := by
  refine runI_of (lv := [(0, vR 55), (1, vI a1), (2, vI a2), (3, vI a3), (4, vI a4), (5, vI a5)]) (by decide +kernel) (Or.inl rfl) (Nat.le_of_ble_eq_true rfl) rfl ?_
  intro G hQ
  unfold m_X12_copy at h
  refine r_iload_n dX12_copy_0 rfl 1 rfl ?_
  obtain ⟨b2, hc1, h⟩ := of_bd1 h
  refine r_callSI (st := []) dX12_copy_1 v_X12_143 (run_X12_isSheet hc1) (by decide) (by decide) rfl (Nat.le_of_ble_eq_true rfl) rfl ?_
  by_cases c3 : wr (bI b2) = 0
  · rw [if_pos c3] at h
    refine r_if_eq (tgt := 14) dX12_copy_4 (by decide) (fun _ => ?_) (fun q => absurd c3 q)
    refine r_iconst dX12_copy_14 ?_
    cases h
    exact hQ _ _ dX12_copy_15
  · rw [if_neg c3] at h
    refine r_if_eq (tgt := 14) dX12_copy_4 (by decide) (fun q => absurd q c3) (fun _ => ?_)
    refine r_iload_n dX12_copy_7 rfl 3 rfl ?_
    obtain ⟨b5, hc4, h⟩ := of_bd1 h
    refine r_callSI (st := []) dX12_copy_8 v_X12_143 (run_X12_isSheet hc4) (by decide) (by decide) rfl (Nat.le_of_ble_eq_true rfl) rfl ?_
    by_cases c6 : wr (bI b5) = 0
    · rw [if_pos c6] at h
      refine r_if_ne (tgt := 16) dX12_copy_11 (by decide) (fun q => absurd c6 q) (fun _ => ?_)
      refine r_iconst dX12_copy_14 ?_
      cases h
      exact hQ _ _ dX12_copy_15
    · rw [if_neg c6] at h
      refine r_if_ne (tgt := 16) dX12_copy_11 (by decide) (fun _ => ?_) (fun q => absurd q c6)
      refine r_aload_n dX12_copy_16 rfl 0 rfl ?_
      refine r_getR (j := 24) (v := 76) dX12_copy_17 f_X12_72 rfl rfl rfl ?_
      refine r_iload_n dX12_copy_20 rfl 1 rfl ?_
      obtain ⟨c7, h⟩ := of_ck h
      refine r_iald dX12_copy_21 rfl c7 ?_
      by_cases c8 : wr (gI M 76 (wr a1)) < 0
      · rw [if_pos c8] at h
        refine r_if_lt (tgt := 34) dX12_copy_22 (by decide) (fun _ => ?_) (fun q => absurd c8 q)
        refine r_bipush dX12_copy_34 (by decide) ?_
        cases h
        exact hQ _ _ dX12_copy_36
      · rw [if_neg c8] at h
        refine r_if_lt (tgt := 34) dX12_copy_22 (by decide) (fun q => absurd q c8) (fun _ => ?_)
        refine r_aload_n dX12_copy_25 rfl 0 rfl ?_
        refine r_getR (j := 24) (v := 76) dX12_copy_26 f_X12_72 rfl rfl rfl ?_
        refine r_iload_n dX12_copy_29 rfl 3 rfl ?_
        obtain ⟨c9, h⟩ := of_ck h
        refine r_iald dX12_copy_30 rfl c9 ?_
        by_cases c10 : 0 ≤ wr (gI M 76 (wr a3))
        · rw [if_pos c10] at h
          refine r_if_ge (tgt := 37) dX12_copy_31 (by decide) (fun _ => ?_) (fun q => absurd c10 q)
          refine r_aload_n dX12_copy_37 rfl 0 rfl ?_
          refine r_getR (j := 24) (v := 76) dX12_copy_38 f_X12_72 rfl rfl rfl ?_
          refine r_iload_n dX12_copy_41 rfl 1 rfl ?_
          refine r_iald dX12_copy_42 rfl c7 ?_
          refine r_aload_n dX12_copy_43 rfl 0 rfl ?_
          refine r_getR (j := 24) (v := 76) dX12_copy_44 f_X12_72 rfl rfl rfl ?_
          refine r_iload_n dX12_copy_47 rfl 3 rfl ?_
          refine r_iald dX12_copy_48 rfl c9 ?_
          by_cases c11 : wr (gI M 76 (wr a1)) = wr (gI M 76 (wr a3))
          · rw [if_pos c11] at h
            refine r_icmp_eq (tgt := 55) dX12_copy_49 (by decide) (fun _ => ?_) (fun q => absurd c11 q)
            refine r_iload dX12_copy_55 5 rfl ?_
            by_cases c12 : wr a5 < 0
            · rw [if_pos c12] at h
              refine r_if_lt (tgt := 95) dX12_copy_57 (by decide) (fun _ => ?_) (fun q => absurd c12 q)
              refine r_bipush dX12_copy_95 (by decide) ?_
              cases h
              exact hQ _ _ dX12_copy_97
            · rw [if_neg c12] at h
              refine r_if_lt (tgt := 95) dX12_copy_57 (by decide) (fun q => absurd q c12) (fun _ => ?_)
              refine r_aload_n dX12_copy_60 rfl 0 rfl ?_
              refine r_iload_n dX12_copy_61 rfl 1 rfl ?_
              refine r_aload_n dX12_copy_62 rfl 0 rfl ?_
              refine r_getR (j := 24) (v := 76) dX12_copy_63 f_X12_72 rfl rfl rfl ?_
              refine r_iload_n dX12_copy_66 rfl 1 rfl ?_
              refine r_iald dX12_copy_67 rfl c7 ?_
              refine r_iload_n dX12_copy_68 rfl 2 rfl ?_
              refine r_iload dX12_copy_69 5 rfl ?_
              obtain ⟨r14, hc13, h⟩ := of_bd1 h
              refine r_callVI (st := []) dX12_copy_71 v_X12_146 (run_X12_finds hc13) (by decide) (by decide) rfl rfl (Nat.le_of_ble_eq_true rfl) rfl ?_
              by_cases c15 : wr r14 < 0
              · rw [if_pos c15] at h
                refine r_if_lt (tgt := 95) dX12_copy_74 (by decide) (fun _ => ?_) (fun q => absurd c15 q)
                refine r_bipush dX12_copy_95 (by decide) ?_
                cases h
                exact hQ _ _ dX12_copy_97
              · rw [if_neg c15] at h
                refine r_if_lt (tgt := 95) dX12_copy_74 (by decide) (fun q => absurd q c15) (fun _ => ?_)
                refine r_aload_n dX12_copy_77 rfl 0 rfl ?_
                refine r_iload_n dX12_copy_78 rfl 3 rfl ?_
                refine r_aload_n dX12_copy_79 rfl 0 rfl ?_
                refine r_getR (j := 24) (v := 76) dX12_copy_80 f_X12_72 rfl rfl rfl ?_
                refine r_iload_n dX12_copy_83 rfl 3 rfl ?_
                refine r_iald dX12_copy_84 rfl c9 ?_
                refine r_iload dX12_copy_85 4 rfl ?_
                refine r_iload dX12_copy_87 5 rfl ?_
                obtain ⟨r17, hc16, h⟩ := of_bd1 h
                refine r_callVI (st := []) dX12_copy_89 v_X12_146 (run_X12_finds hc16) (by decide) (by decide) rfl rfl (Nat.le_of_ble_eq_true rfl) rfl ?_
                by_cases c18 : 0 ≤ wr r17
                · rw [if_pos c18] at h
                  refine r_if_ge (tgt := 98) dX12_copy_92 (by decide) (fun _ => ?_) (fun q => absurd c18 q)
                  refine r_iconst dX12_copy_98 ?_
                  refine r_istore (lv2 := [(6, vI 0), (0, vR 55), (1, vI a1), (2, vI a2), (3, vI a3), (4, vI a4), (5, vI a5)]) dX12_copy_99 (by decide) rfl ?_
                  obtain ⟨y23, M24, h9, h⟩ := of_bd2 h
                  refine r_sub (lv2 := [(0, vR 55), (1, vI a1), (2, vI a2), (3, vI a3), (4, vI a4), (5, vI a5), (6, vI 0)]) [1, 2, 3, 4, 5, 6, 0] rfl ?_
                  refine lp_X12_copy_L101 a1 a2 a3 a4 a5  (fun w => w = (y23, M24)) ?_ FU 0 M _ h9 rfl
                  intro z0 z1 hw
                  cases hw
                  refine r_iconst dX12_copy_135 ?_
                  refine r_istore (lv2 := [(6, vI 0), (0, vR 55), (1, vI a1), (2, vI a2), (3, vI a3), (4, vI a4), (5, vI a5)]) dX12_copy_136 (by decide) rfl ?_
                  obtain ⟨y29, M30, h9, h⟩ := of_bd2 h
                  refine r_sub (lv2 := [(0, vR 55), (3, vI a3), (4, vI a4), (5, vI a5), (6, vI 0)]) [1, 4, 5, 6, 0] rfl ?_
                  refine lp_X12_copy_L138 a3 a4 a5  (fun w => w = (y29, M30)) ?_ FU 0 M24 _ h9 rfl
                  intro z0 z1 hw
                  cases hw
                  refine r_iload dX12_copy_173 3 rfl ?_
                  cases h
                  exact hQ _ _ dX12_copy_175
                · rw [if_neg c18] at h
                  refine r_if_ge (tgt := 98) dX12_copy_92 (by decide) (fun q => absurd q c18) (fun _ => ?_)
                  refine r_bipush dX12_copy_95 (by decide) ?_
                  cases h
                  exact hQ _ _ dX12_copy_97
          · rw [if_neg c11] at h
            refine r_icmp_eq (tgt := 55) dX12_copy_49 (by decide) (fun q => absurd q c11) (fun _ => ?_)
            refine r_bipush dX12_copy_52 (by decide) ?_
            cases h
            exact hQ _ _ dX12_copy_54
        · rw [if_neg c10] at h
          refine r_if_ge (tgt := 37) dX12_copy_31 (by decide) (fun q => absurd q c10) (fun _ => ?_)
          refine r_bipush dX12_copy_34 (by decide) ?_
          cases h
          exact hQ _ _ dX12_copy_36

