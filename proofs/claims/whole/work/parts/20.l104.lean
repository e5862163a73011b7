def m_X7_fillCosts_L30 (M : Mem)  (x2 : Int) : Option ((Int × Mem) ⊕ (Int × Mem)) :=
  if wr x2 < 0 then
    some (.inr (x2, M))
  else
    bd1 (m_X7_fillCostsAt M x2) fun M8 =>
    some (.inl ((x2 + (-1)), M8))
def m_X7_fillCosts (M : Mem) : Option (Mem) :=
  if wr (gI M 8 5) = wr 2 then
    some M
  else
    bd1 (m_X7_findFits M) fun M3 =>
    bd1 (m_X7_startTable M3 (0 : Int64) (1099511627776)) fun M5 =>
    bd2 (itr (fun s => m_X7_fillCosts_L30 s.2  s.1) FU (((m_X10_cells M5) - 1), M5)) fun y9 M10 =>
    lt (sI M10 8 5 2) fun M11 =>
    some M11
set_option maxRecDepth 10000 in
theorem lp_X7_fillCosts_L30 {G : Gx}    (X : (Int × Mem) → Prop) (hX1 : ∀ (x2 : Int) (M : Mem), X (x2, M) → Ex G 4 cX7_fillCosts RX7 3 46 [(0, vR 8), (1, vR 1), (2, vI x2)] [] M) : ∀ (nn : Nat) (x2 : Int) (M : Mem) (out : Int × Mem), itr (fun s => m_X7_fillCosts_L30 s.2  s.1) nn (x2, M) = some out → X out → Ex G 4 cX7_fillCosts RX7 3 30 [(0, vR 8), (1, vR 1), (2, vI x2)] [] M := by
  intro nn
  induction nn with
  | zero =>
    intro x2 M out h _
    cases h
  | succ nn ih =>
    intro x2 M out h0 hX
    obtain ⟨w, h, k1, k2⟩ := itr_inv h0
    have h : m_X7_fillCosts_L30 M  x2 = some w := h
    unfold m_X7_fillCosts_L30 at h
    refine r_iload_n dX7_fillCosts_30 rfl 2 rfl ?_
    by_cases c6 : wr x2 < 0
    · rw [if_pos c6] at h
      refine r_if_lt (tgt := 46) dX7_fillCosts_31 (by decide) (fun _ => ?_) (fun q => absurd c6 q)
      cases h
      cases k2 _ rfl
      exact hX1 _ _ hX
    · rw [if_neg c6] at h
      refine r_if_lt (tgt := 46) dX7_fillCosts_31 (by decide) (fun q => absurd q c6) (fun _ => ?_)
      refine r_aload_n dX7_fillCosts_34 rfl 0 rfl ?_
      refine r_aload_n dX7_fillCosts_35 rfl 1 rfl ?_
      refine r_iload_n dX7_fillCosts_36 rfl 2 rfl ?_
      obtain ⟨M8, hc7, h⟩ := of_bd1 h
      refine r_callVV (st := []) dX7_fillCosts_37 v_X7_82 (run_X7_fillCostsAt hc7) (by decide) (by decide) rfl rfl (Nat.le_of_ble_eq_true rfl) rfl ?_
      refine r_iinc (lv2 := [(2, vI (x2 + (-1))), (0, vR 8), (1, vR 1)]) dX7_fillCosts_40 2 rfl (by decide) rfl ?_
      refine r_goto (tgt := 30) dX7_fillCosts_43 (by decide) ?_
      refine r_sub (lv2 := [(0, vR 8), (1, vR 1), (2, vI (x2 + (-1)))]) [1, 2, 0] rfl ?_
      cases h
      exact ih _ _  _ (k1 _ rfl) hX

set_option maxRecDepth 10000 in
theorem run_X7_fillCosts {M : Mem} {M2 : Mem}   (h : m_X7_fillCosts M = some (M2)) : RunV 4 yX7_fillCosts cX7_fillCosts 3 none [vR 8, vR 1] M M2 := by
  refine runV_of (lv := [(0, vR 8), (1, vR 1)]) (by decide +kernel) rfl (Nat.le_of_ble_eq_true rfl) rfl ?_
  intro G hQ
  unfold m_X7_fillCosts at h
  refine r_aload_n dX7_fillCosts_0 rfl 0 rfl ?_
  refine r_getI (j := 5) (jz := 5) dX7_fillCosts_1 f_X7_28 rfl rfl rfl ?_
  refine r_iconst dX7_fillCosts_4 ?_
  by_cases c1 : wr (gI M 8 5) = wr 2
  · rw [if_pos c1] at h
    refine r_icmp_ne (tgt := 9) dX7_fillCosts_5 (by decide) (fun q => absurd c1 q) (fun _ => ?_)
    cases h
    exact hQ _ _ dX7_fillCosts_8
  · rw [if_neg c1] at h
    refine r_icmp_ne (tgt := 9) dX7_fillCosts_5 (by decide) (fun _ => ?_) (fun q => absurd q c1)
    refine r_aload_n dX7_fillCosts_9 rfl 0 rfl ?_
    refine r_aload_n dX7_fillCosts_10 rfl 1 rfl ?_
    obtain ⟨M3, hc2, h⟩ := of_bd1 h
    refine r_callVV (st := []) dX7_fillCosts_11 v_X7_69 (run_X7_findFits hc2) (by decide) (by decide) rfl rfl (Nat.le_of_ble_eq_true rfl) rfl ?_
    refine r_aload_n dX7_fillCosts_14 rfl 0 rfl ?_
    refine r_aload_n dX7_fillCosts_15 rfl 1 rfl ?_
    refine r_lconst (v := 0) dX7_fillCosts_16 rfl ?_
    refine r_ldc2 (v := (1099511627776)) dX7_fillCosts_17 kl_X7_80 ?_
    obtain ⟨M5, hc4, h⟩ := of_bd1 h
    refine r_callVV (st := []) dX7_fillCosts_20 v_X7_72 (run_X7_startTable hc4) (by decide) (by decide) rfl rfl (Nat.le_of_ble_eq_true rfl) rfl ?_
    refine r_aload_n dX7_fillCosts_23 rfl 1 rfl ?_
    refine r_callVI (st := []) dX7_fillCosts_24 v_X7_43 (run_X10_cells rfl) (by decide) (by decide) rfl rfl (Nat.le_of_ble_eq_true rfl) rfl ?_
    refine r_iconst dX7_fillCosts_27 ?_
    refine r_isub dX7_fillCosts_28 ?_
    refine r_istore_n (lv2 := [(2, vI ((m_X10_cells M5) - 1)), (0, vR 8), (1, vR 1)]) dX7_fillCosts_29 rfl (by decide) rfl ?_
    obtain ⟨y9, M10, h9, h⟩ := of_bd2 h
    refine r_sub (lv2 := [(0, vR 8), (1, vR 1), (2, vI ((m_X10_cells M5) - 1))]) [1, 2, 0] rfl ?_
    refine lp_X7_fillCosts_L30   (fun w => w = (y9, M10)) ?_ FU ((m_X10_cells M5) - 1) M5 _ h9 rfl
    intro z0 z1 hw
    cases hw
    refine r_aload_n dX7_fillCosts_46 rfl 0 rfl ?_
    refine r_iconst dX7_fillCosts_47 ?_
    obtain ⟨M11, eM11, h⟩ := of_lt h
    refine r_putI (j := 5) (jz := 5) dX7_fillCosts_48 p_X7_28 rfl rfl rfl rfl rfl ?_
    rw [← eM11]
    cases h
    exact hQ _ _ dX7_fillCosts_51

def m_X7_leastCost (M : Mem) : Option (Int64 × Mem) :=
  bd1 (m_X7_fillCosts M) fun M2 =>
  some ((gL M2 9 (wr 0)), M2)
set_option maxRecDepth 10000 in
theorem run_X7_leastCost {M : Mem} {M2 : Mem} {r : Int64}   (h : m_X7_leastCost M = some (r, M2)) : RunL 5 yX7_leastCost cX7_leastCost 2 (some .long) [vR 8, vR 1] M r M2 := by
  refine runL_of (lv := [(0, vR 8), (1, vR 1)]) (by decide +kernel) rfl (Nat.le_of_ble_eq_true rfl) rfl ?_
  intro G hQ
  unfold m_X7_leastCost at h
  refine r_aload_n dX7_leastCost_0 rfl 0 rfl ?_
  refine r_aload_n dX7_leastCost_1 rfl 1 rfl ?_
  obtain ⟨M2, hc1, h⟩ := of_bd1 h
  refine r_callVV (st := []) dX7_leastCost_2 v_X7_40 (run_X7_fillCosts hc1) (by decide) (by decide) rfl rfl (Nat.le_of_ble_eq_true rfl) rfl ?_
  refine r_aload_n dX7_leastCost_5 rfl 0 rfl ?_
  refine r_getR (j := 0) (v := 9) dX7_leastCost_6 f_X7_9 rfl rfl rfl ?_
  refine r_iconst dX7_leastCost_9 ?_
  refine r_lald dX7_leastCost_10 rfl (by decide) ?_
  cases h
  exact hQ _ _ dX7_leastCost_11

def m_X7_waysEast (M : Mem) (a2 : Int) (a3 : Int) : Option (Int64) :=
  bd1 (m_X7_canEast M a2 a3) fun b2 =>
  if wr (bI b2) = 0 then
    some (0 : Int64)
  else
    bd1 (m_X10_column M a2) fun r5 =>
    if 0 ≤ wr ((((a2 + 1) * 256) + a3) + (shl 2 r5)) ∧ wr ((((a2 + 1) * 256) + a3) + (shl 2 r5)) < 16640 then
    some (gL M 9 (wr ((((a2 + 1) * 256) + a3) + (shl 2 r5))))
    else none
set_option maxRecDepth 10000 in
theorem run_X7_waysEast {M : Mem} {a2 : Int} {a3 : Int} {r : Int64}   (h : m_X7_waysEast M a2 a3 = some r) : RunL 2 yX7_waysEast cX7_waysEast 4 (some .long) [vR 8, vR 1, vI a2, vI a3] M r M := by
  refine runL_of (lv := [(0, vR 8), (1, vR 1), (2, vI a2), (3, vI a3)]) (by decide +kernel) rfl (Nat.le_of_ble_eq_true rfl) rfl ?_
  intro G hQ
  unfold m_X7_waysEast at h
  refine r_aload_n dX7_waysEast_0 rfl 0 rfl ?_
  refine r_aload_n dX7_waysEast_1 rfl 1 rfl ?_
  refine r_iload_n dX7_waysEast_2 rfl 2 rfl ?_
  refine r_iload_n dX7_waysEast_3 rfl 3 rfl ?_
  obtain ⟨b2, hc1, h⟩ := of_bd1 h
  refine r_callVI (st := []) dX7_waysEast_4 v_X7_107 (run_X7_canEast hc1) (by decide) (by decide) rfl rfl (Nat.le_of_ble_eq_true rfl) rfl ?_
  by_cases c3 : wr (bI b2) = 0
  · rw [if_pos c3] at h
    refine r_if_ne (tgt := 12) dX7_waysEast_7 (by decide) (fun q => absurd c3 q) (fun _ => ?_)
    refine r_lconst (v := 0) dX7_waysEast_10 rfl ?_
    cases h
    exact hQ _ _ dX7_waysEast_11
  · rw [if_neg c3] at h
    refine r_if_ne (tgt := 12) dX7_waysEast_7 (by decide) (fun _ => ?_) (fun q => absurd q c3)
    refine r_aload_n dX7_waysEast_12 rfl 0 rfl ?_
    refine r_getR (j := 0) (v := 9) dX7_waysEast_13 f_X7_9 rfl rfl rfl ?_
    refine r_iload_n dX7_waysEast_16 rfl 2 rfl ?_
    refine r_iconst dX7_waysEast_17 ?_
    refine r_iadd dX7_waysEast_18 ?_
    refine r_sipush dX7_waysEast_19 (by decide) ?_
    refine r_imul dX7_waysEast_22 ?_
    refine r_iload_n dX7_waysEast_23 rfl 3 rfl ?_
    refine r_iadd dX7_waysEast_24 ?_
    refine r_iconst dX7_waysEast_25 ?_
    refine r_aload_n dX7_waysEast_26 rfl 1 rfl ?_
    refine r_iload_n dX7_waysEast_27 rfl 2 rfl ?_
    obtain ⟨r5, hc4, h⟩ := of_bd1 h
    refine r_callVI (st := [vI 2, vI (((a2 + 1) * 256) + a3), vR 9]) dX7_waysEast_28 v_X7_88 (run_X10_column hc4) (by decide) (by decide) rfl rfl (Nat.le_of_ble_eq_true rfl) rfl ?_
    refine r_ishl dX7_waysEast_31 ?_
    refine r_iadd dX7_waysEast_32 ?_
    obtain ⟨c6, h⟩ := of_ck h
    refine r_lald dX7_waysEast_33 rfl c6 ?_
    cases h
    exact hQ _ _ dX7_waysEast_34

def m_X7_isBare (M : Mem) (a1 : Int) (a2 : Int) : Option (Bool) :=
  if 0 ≤ wr a1 ∧ wr a1 < 64 then
  bd1 (
    if wr (gI M 2 (wr a1)) = 0 then
      some (0)
    else
      bd1 (m_X10_column M a1) fun r4 =>
      if wr (iand a2 (shl 1 r4)) = 0 then
        some (1)
      else
        some (0)) fun (v6 : Int) =>
  if v6 = 0 ∨ v6 = 1 then some (decide (v6 = 1)) else none
  else none
set_option maxRecDepth 10000 in
theorem run_X7_isBare {M : Mem} {a1 : Int} {a2 : Int} {r : Bool}   (h : m_X7_isBare M a1 a2 = some r) : RunI 1 yX7_isBare cX7_isBare 3 (some .boolean) [vR 1, vI a1, vI a2] M (bI r) M := by
  refine runI_of (lv := [(0, vR 1), (1, vI a1), (2, vI a2)]) (by decide +kernel) (Or.inr ⟨rfl, bI_01 r⟩) (Nat.le_of_ble_eq_true rfl) rfl ?_
  intro G hQ
  unfold m_X7_isBare at h
  refine r_aload_n dX7_isBare_0 rfl 0 rfl ?_
  refine r_getR (j := 2) (v := 2) dX7_isBare_1 f_X7_91 rfl rfl rfl ?_
  refine r_iload_n dX7_isBare_4 rfl 1 rfl ?_
  obtain ⟨c1, h⟩ := of_ck h
  refine r_zald dX7_isBare_5 rfl c1 ?_
  obtain ⟨v6, h9, h⟩ := of_bd1 h
  have kJ : Ex G 1 cX7_isBare RX7 3 26 [] [vI v6] M := by
    obtain ⟨cz, h⟩ := of_ck h
    rw [← bI_dec cz]
    cases h
    exact hQ _ _ dX7_isBare_26
  clear h
  have h := h9
  clear h9
  by_cases c2 : wr (gI M 2 (wr a1)) = 0
  · rw [if_pos c2] at h
    refine r_if_eq (tgt := 25) dX7_isBare_6 (by decide) (fun _ => ?_) (fun q => absurd c2 q)
    refine r_iconst dX7_isBare_25 ?_
    refine r_sub (lv2 := []) [] rfl ?_
    cases h
    exact kJ
  · rw [if_neg c2] at h
    refine r_if_eq (tgt := 25) dX7_isBare_6 (by decide) (fun q => absurd q c2) (fun _ => ?_)
    refine r_iload_n dX7_isBare_9 rfl 2 rfl ?_
    refine r_iconst dX7_isBare_10 ?_
    refine r_aload_n dX7_isBare_11 rfl 0 rfl ?_
    refine r_iload_n dX7_isBare_12 rfl 1 rfl ?_
    obtain ⟨r4, hc3, h⟩ := of_bd1 h
    refine r_callVI (st := [vI 1, vI a2]) dX7_isBare_13 v_X7_88 (run_X10_column hc3) (by decide) (by decide) rfl rfl (Nat.le_of_ble_eq_true rfl) rfl ?_
    refine r_ishl dX7_isBare_16 ?_
    refine r_iand dX7_isBare_17 ?_
    by_cases c5 : wr (iand a2 (shl 1 r4)) = 0
    · rw [if_pos c5] at h
      refine r_if_ne (tgt := 25) dX7_isBare_18 (by decide) (fun q => absurd c5 q) (fun _ => ?_)
      refine r_iconst dX7_isBare_21 ?_
      refine r_goto (tgt := 26) dX7_isBare_22 (by decide) ?_
      refine r_sub (lv2 := []) [] rfl ?_
      cases h
      exact kJ
    · rw [if_neg c5] at h
      refine r_if_ne (tgt := 25) dX7_isBare_18 (by decide) (fun _ => ?_) (fun q => absurd q c5)
      refine r_iconst dX7_isBare_25 ?_
      refine r_sub (lv2 := []) [] rfl ?_
      cases h
      exact kJ

def m_X7_maskBehind (M : Mem) (a1 : Int) (a2 : Int) (a3 : Int) : Option (Int) :=
  lt (if wr a3 = 0 then 1 else 2) fun (v2 : Int) =>
  bd1 (m_X10_column M a1) fun r4 =>
  some (ior a2 (shl v2 r4))
set_option maxRecDepth 10000 in
theorem run_X7_maskBehind {M : Mem} {a1 : Int} {a2 : Int} {a3 : Int} {r : Int}   (h : m_X7_maskBehind M a1 a2 a3 = some r) : RunI 1 yX7_maskBehind cX7_maskBehind 4 (some .int) [vR 1, vI a1, vI a2, vI a3] M r M := by
  refine runI_of (lv := [(0, vR 1), (1, vI a1), (2, vI a2), (3, vI a3)]) (by decide +kernel) (Or.inl rfl) (Nat.le_of_ble_eq_true rfl) rfl ?_
  intro G hQ
  unfold m_X7_maskBehind at h
  refine r_iload_n dX7_maskBehind_0 rfl 2 rfl ?_
  refine r_iload_n dX7_maskBehind_1 rfl 3 rfl ?_
  obtain ⟨v2, ev2, h⟩ := of_lt h
  have kJ : Ex G 1 cX7_maskBehind RX7 4 10 [(0, vR 1), (1, vI a1)] [vI v2, vI a2] M := by
    refine r_aload_n dX7_maskBehind_10 rfl 0 rfl ?_
    refine r_iload_n dX7_maskBehind_11 rfl 1 rfl ?_
    obtain ⟨r4, hc3, h⟩ := of_bd1 h
    refine r_callVI (st := [vI v2, vI a2]) dX7_maskBehind_12 v_X7_88 (run_X10_column hc3) (by decide) (by decide) rfl rfl (Nat.le_of_ble_eq_true rfl) rfl ?_
    refine r_ishl dX7_maskBehind_15 ?_
    refine r_ior dX7_maskBehind_16 ?_
    cases h
    exact hQ _ _ dX7_maskBehind_17
  clear h
  by_cases c1 : wr a3 = 0
  · skip
    refine r_if_eq (tgt := 9) dX7_maskBehind_2 (by decide) (fun _ => ?_) (fun q => absurd c1 q)
    refine r_iconst dX7_maskBehind_9 ?_
    rw [show v2 = 1 from by rw [ev2, if_pos c1]] at kJ
    refine r_sub (lv2 := [(0, vR 1), (1, vI a1)]) [0, 1] rfl ?_
    exact kJ
  · skip
    refine r_if_eq (tgt := 9) dX7_maskBehind_2 (by decide) (fun q => absurd q c1) (fun _ => ?_)
    refine r_iconst dX7_maskBehind_5 ?_
    refine r_goto (tgt := 10) dX7_maskBehind_6 (by decide) ?_
    rw [show v2 = 2 from by rw [ev2, if_neg c1]] at kJ
    refine r_sub (lv2 := [(0, vR 1), (1, vI a1)]) [0, 1] rfl ?_
    exact kJ

def m_X7_layByRank_L14 (M : Mem) (p4 : Nat) (x5 : Int64) (x7 : Int) (x8 : Int) : Option ((Int64 × Int × Int × Mem) ⊕ (Int64 × Int × Int × Mem)) :=
  if wr (m_X10_cells M) ≤ wr x8 then
    some (.inr (x5, x7, x8, M))
  else
    bd1 (m_X7_isBare M x8 x7) fun b5 =>
    bd3 (
      if wr (bI b5) = 0 then
        bd1 (m_X10_column M x8) fun r8 =>
        some (x5, (iand x7 (ixor (shl 1 r8) (-1))), M)
      else
        bd1 (m_X7_waysEast M x8 x7) fun r10 =>
        lt (if r10 ≤ x5 then 0 else 1) fun (v12 : Int) =>
        lt (if wr v12 = 0 then (x5 - r10) else x5) fun (v14 : Int64) =>
        lt (if wr v12 = 0 then ((2 * x8) + 1) else (2 * x8)) fun (v16 : Int) =>
        bd1 (m_X3_put M p4 v16) fun M18 =>
        bd1 (m_X7_maskBehind M18 x8 x7 v12) fun r20 =>
        some (v14, r20, M18)) fun (v21 : Int64) (v22 : Int) (M23 : Mem) =>
    some (.inl (v21, v22, (x8 + 1), M23))
def m_X7_layByRank (M : Mem) (a2 : Int64) (a3 : Nat) : Option (Mem) :=
  bd1 (m_X7_fillWays M) fun M2 =>
  bd4 (itr (fun s => m_X7_layByRank_L14 s.2.2.2 a3 s.1 s.2.1 s.2.2.1) FU (a2, 0, 0, M2)) fun y24 y25 y26 M27 =>
  lt (sI M27 a3 0 1) fun M28 =>
  some M28
set_option maxRecDepth 10000 in
theorem lp_X7_layByRank_L14 {G : Gx} (p4 : Nat)  (hp4 : (ly p4).1 = 8) (X : (Int64 × Int × Int × Mem) → Prop) (hX1 : ∀ (x5 : Int64) (x7 : Int) (x8 : Int) (M : Mem), X (x5, x7, x8, M) → Ex G 5 cX7_layByRank RX7 12 132 [(0, vR 8), (1, vR 1), (4, vR p4), (5, vL x5), (7, vI x7), (8, vI x8)] [] M) : ∀ (nn : Nat) (x5 : Int64) (x7 : Int) (x8 : Int) (M : Mem) (out : Int64 × Int × Int × Mem), itr (fun s => m_X7_layByRank_L14 s.2.2.2 p4 s.1 s.2.1 s.2.2.1) nn (x5, x7, x8, M) = some out → X out → Ex G 5 cX7_layByRank RX7 12 14 [(0, vR 8), (1, vR 1), (4, vR p4), (5, vL x5), (7, vI x7), (8, vI x8)] [] M := by
  intro nn
  induction nn with
  | zero =>
    intro x5 x7 x8 M out h _
    cases h
  | succ nn ih =>
    intro x5 x7 x8 M out h0 hX
    obtain ⟨w, h, k1, k2⟩ := itr_inv h0
    have h : m_X7_layByRank_L14 M p4 x5 x7 x8 = some w := h
    unfold m_X7_layByRank_L14 at h
    refine r_iload dX7_layByRank_14 5 rfl ?_
    refine r_aload_n dX7_layByRank_16 rfl 1 rfl ?_
    refine r_callVI (st := [vI x8]) dX7_layByRank_17 v_X7_43 (run_X10_cells rfl) (by decide) (by decide) rfl rfl (Nat.le_of_ble_eq_true rfl) rfl ?_
    by_cases c3 : wr (m_X10_cells M) ≤ wr x8
    · rw [if_pos c3] at h
      refine r_icmp_ge (tgt := 132) dX7_layByRank_20 (by decide) (fun _ => ?_) (fun q => absurd c3 q)
      cases h
      cases k2 _ rfl
      exact hX1 _ _ _ _ hX
    · rw [if_neg c3] at h
      refine r_icmp_ge (tgt := 132) dX7_layByRank_20 (by decide) (fun q => absurd q c3) (fun _ => ?_)
      refine r_aload_n dX7_layByRank_23 rfl 1 rfl ?_
      refine r_iload dX7_layByRank_24 5 rfl ?_
      refine r_iload dX7_layByRank_26 4 rfl ?_
      obtain ⟨b5, hc4, h⟩ := of_bd1 h
      refine r_callSI (st := []) dX7_layByRank_28 v_X7_114 (run_X7_isBare hc4) (by decide) (by decide) rfl (Nat.le_of_ble_eq_true rfl) rfl ?_
      obtain ⟨v21, v22, M23, h9, h⟩ := of_bd3 h
      have kJ : Ex G 5 cX7_layByRank RX7 12 126 [(0, vR 8), (1, vR 1), (4, vR p4), (5, vL v21), (7, vI v22), (8, vI x8)] [] M23 := by
        refine r_iinc (lv2 := [(8, vI (x8 + 1)), (0, vR 8), (1, vR 1), (4, vR p4), (5, vL v21), (7, vI v22)]) dX7_layByRank_126 5 rfl (by decide) rfl ?_
        refine r_goto (tgt := 14) dX7_layByRank_129 (by decide) ?_
        refine r_sub (lv2 := [(0, vR 8), (1, vR 1), (4, vR p4), (5, vL v21), (7, vI v22), (8, vI (x8 + 1))]) [1, 2, 3, 4, 5, 0] rfl ?_
        cases h
        exact ih _ _ _ _  _ (k1 _ rfl) hX
      clear h
      have h := h9
      clear h9
      by_cases c6 : wr (bI b5) = 0
      · rw [if_pos c6] at h
        refine r_if_eq (tgt := 111) dX7_layByRank_31 (by decide) (fun _ => ?_) (fun q => absurd c6 q)
        refine r_iload dX7_layByRank_111 4 rfl ?_
        refine r_iconst dX7_layByRank_113 ?_
        refine r_aload_n dX7_layByRank_114 rfl 1 rfl ?_
        refine r_iload dX7_layByRank_115 5 rfl ?_
        obtain ⟨r8, hc7, h⟩ := of_bd1 h
        refine r_callVI (st := [vI 1, vI x7]) dX7_layByRank_117 v_X7_88 (run_X10_column hc7) (by decide) (by decide) rfl rfl (Nat.le_of_ble_eq_true rfl) rfl ?_
        refine r_ishl dX7_layByRank_120 ?_
        refine r_iconst dX7_layByRank_121 ?_
        refine r_ixor dX7_layByRank_122 ?_
        refine r_iand dX7_layByRank_123 ?_
        refine r_istore (lv2 := [(7, vI (iand x7 (ixor (shl 1 r8) (-1)))), (0, vR 8), (1, vR 1), (4, vR p4), (5, vL x5), (8, vI x8)]) dX7_layByRank_124 (by decide) rfl ?_
        refine r_sub (lv2 := [(0, vR 8), (1, vR 1), (4, vR p4), (5, vL x5), (7, vI (iand x7 (ixor (shl 1 r8) (-1)))), (8, vI x8)]) [1, 2, 3, 4, 0, 5] rfl ?_
        cases h
        exact kJ
      · rw [if_neg c6] at h
        refine r_if_eq (tgt := 111) dX7_layByRank_31 (by decide) (fun q => absurd q c6) (fun _ => ?_)
        refine r_aload_n dX7_layByRank_34 rfl 0 rfl ?_
        refine r_aload_n dX7_layByRank_35 rfl 1 rfl ?_
        refine r_iload dX7_layByRank_36 5 rfl ?_
        refine r_iload dX7_layByRank_38 4 rfl ?_
        obtain ⟨r10, hc9, h⟩ := of_bd1 h
        refine r_callVL (st := []) dX7_layByRank_40 v_X7_117 (run_X7_waysEast hc9) (by decide) (by decide) rfl rfl (Nat.le_of_ble_eq_true rfl) rfl ?_
        refine r_lstore (lv2 := [(9, vL r10), (0, vR 8), (1, vR 1), (4, vR p4), (5, vL x5), (7, vI x7), (8, vI x8)]) dX7_layByRank_43 (by decide) rfl ?_
        refine r_lload dX7_layByRank_45 4 rfl ?_
        refine r_lload dX7_layByRank_47 0 rfl ?_
        obtain ⟨v12, ev12, h⟩ := of_lt h
        have kJ : Ex G 5 cX7_layByRank RX7 12 58 [(0, vR 8), (1, vR 1), (4, vR p4), (5, vL x5), (7, vI x7), (8, vI x8), (9, vL r10)] [vI v12] M := by
          refine r_istore (lv2 := [(11, vI v12), (0, vR 8), (1, vR 1), (4, vR p4), (5, vL x5), (7, vI x7), (8, vI x8), (9, vL r10)]) dX7_layByRank_58 (by decide) rfl ?_
          refine r_iload dX7_layByRank_60 0 rfl ?_
          obtain ⟨v14, ev14, h⟩ := of_lt h
          have kJ : Ex G 5 cX7_layByRank RX7 12 72 [(0, vR 8), (1, vR 1), (4, vR p4), (5, vL v14), (7, vI x7), (8, vI x8), (11, vI v12)] [] M := by
            refine r_aload dX7_layByRank_72 2 rfl ?_
            refine r_aload_n dX7_layByRank_74 rfl 1 rfl ?_
            refine r_iload dX7_layByRank_75 6 rfl ?_
            obtain ⟨v16, ev16, h⟩ := of_lt h
            have kJ : Ex G 5 cX7_layByRank RX7 12 93 [(0, vR 8), (1, vR 1), (4, vR p4), (5, vL v14), (7, vI x7), (8, vI x8), (11, vI v12)] [vI v16, vR 1, vR p4] M := by
              obtain ⟨M18, hc17, h⟩ := of_bd1 h
              refine r_callVV (st := []) dX7_layByRank_93 v_X7_120 (run_X3_put hp4 hc17) (by decide) (by decide) hp4 rfl (Nat.le_of_ble_eq_true rfl) rfl ?_
              refine r_aload_n dX7_layByRank_96 rfl 1 rfl ?_
              refine r_iload dX7_layByRank_97 5 rfl ?_
              refine r_iload dX7_layByRank_99 4 rfl ?_
              refine r_iload dX7_layByRank_101 6 rfl ?_
              obtain ⟨r20, hc19, h⟩ := of_bd1 h
              refine r_callSI (st := []) dX7_layByRank_103 v_X7_125 (run_X7_maskBehind hc19) (by decide) (by decide) rfl (Nat.le_of_ble_eq_true rfl) rfl ?_
              refine r_istore (lv2 := [(7, vI r20), (0, vR 8), (1, vR 1), (4, vR p4), (5, vL v14), (8, vI x8), (11, vI v12)]) dX7_layByRank_106 (by decide) rfl ?_
              refine r_goto (tgt := 126) dX7_layByRank_108 (by decide) ?_
              refine r_sub (lv2 := [(0, vR 8), (1, vR 1), (4, vR p4), (5, vL v14), (7, vI r20), (8, vI x8)]) [1, 2, 3, 4, 0, 5] rfl ?_
              cases h
              exact kJ
            clear h
            by_cases c15 : wr v12 = 0
            · skip
              refine r_if_eq (tgt := 87) dX7_layByRank_77 (by decide) (fun _ => ?_) (fun q => absurd c15 q)
              refine r_iconst dX7_layByRank_87 ?_
              refine r_iload dX7_layByRank_88 5 rfl ?_
              refine r_imul dX7_layByRank_90 ?_
              refine r_iconst dX7_layByRank_91 ?_
              refine r_iadd dX7_layByRank_92 ?_
              rw [show v16 = ((2 * x8) + 1) from by rw [ev16, if_pos c15]] at kJ
              exact kJ
            · skip
              refine r_if_eq (tgt := 87) dX7_layByRank_77 (by decide) (fun q => absurd q c15) (fun _ => ?_)
              refine r_iconst dX7_layByRank_80 ?_
              refine r_iload dX7_layByRank_81 5 rfl ?_
              refine r_imul dX7_layByRank_83 ?_
              refine r_goto (tgt := 93) dX7_layByRank_84 (by decide) ?_
              rw [show v16 = (2 * x8) from by rw [ev16, if_neg c15]] at kJ
              exact kJ
          clear h
          by_cases c13 : wr v12 = 0
          · skip
            refine r_if_ne (tgt := 72) dX7_layByRank_62 (by decide) (fun q => absurd c13 q) (fun _ => ?_)
            refine r_lload dX7_layByRank_65 4 rfl ?_
            refine r_lload dX7_layByRank_67 7 rfl ?_
            refine r_lsub dX7_layByRank_69 ?_
            refine r_lstore (lv2 := [(5, vL (x5 - r10)), (11, vI v12), (0, vR 8), (1, vR 1), (4, vR p4), (7, vI x7), (8, vI x8), (9, vL r10)]) dX7_layByRank_70 (by decide) rfl ?_
            rw [show v14 = (x5 - r10) from by rw [ev14, if_pos c13]] at kJ
            refine r_sub (lv2 := [(0, vR 8), (1, vR 1), (4, vR p4), (5, vL (x5 - r10)), (7, vI x7), (8, vI x8), (11, vI v12)]) [2, 3, 4, 0, 5, 6, 1] rfl ?_
            exact kJ
          · skip
            refine r_if_ne (tgt := 72) dX7_layByRank_62 (by decide) (fun _ => ?_) (fun q => absurd q c13)
            rw [show v14 = x5 from by rw [ev14, if_neg c13]] at kJ
            refine r_sub (lv2 := [(0, vR 8), (1, vR 1), (4, vR p4), (5, vL x5), (7, vI x7), (8, vI x8), (11, vI v12)]) [1, 2, 3, 4, 5, 6, 0] rfl ?_
            exact kJ
        clear h
        by_cases c11 : r10 ≤ x5
        · skip
          refine r_lcmp_ge (tgt := 57) dX7_layByRank_49 dX7_layByRank_50 (by decide) (fun _ => ?_) (fun q => absurd c11 q)
          refine r_iconst dX7_layByRank_57 ?_
          rw [show v12 = 0 from by rw [ev12, if_pos c11]] at kJ
          refine r_sub (lv2 := [(0, vR 8), (1, vR 1), (4, vR p4), (5, vL x5), (7, vI x7), (8, vI x8), (9, vL r10)]) [1, 2, 3, 4, 5, 6, 0] rfl ?_
          exact kJ
        · skip
          refine r_lcmp_ge (tgt := 57) dX7_layByRank_49 dX7_layByRank_50 (by decide) (fun q => absurd q c11) (fun _ => ?_)
          refine r_iconst dX7_layByRank_53 ?_
          refine r_goto (tgt := 58) dX7_layByRank_54 (by decide) ?_
          rw [show v12 = 1 from by rw [ev12, if_neg c11]] at kJ
          refine r_sub (lv2 := [(0, vR 8), (1, vR 1), (4, vR p4), (5, vL x5), (7, vI x7), (8, vI x8), (9, vL r10)]) [1, 2, 3, 4, 5, 6, 0] rfl ?_
          exact kJ

set_option maxRecDepth 10000 in
theorem run_X7_layByRank {M : Mem} {M2 : Mem} {a2 : Int64} {a3 : Nat}  (ha3 : (ly a3).1 = 8) (h : m_X7_layByRank M a2 a3 = some (M2)) : RunV 5 yX7_layByRank cX7_layByRank 12 none [vR 8, vR 1, vL a2, vR a3] M M2 := by
  refine runV_of (lv := [(0, vR 8), (1, vR 1), (2, vL a2), (4, vR a3)]) (by decide +kernel) rfl (Nat.le_of_ble_eq_true rfl) rfl ?_
  intro G hQ
  unfold m_X7_layByRank at h
  refine r_aload_n dX7_layByRank_0 rfl 0 rfl ?_
  refine r_aload_n dX7_layByRank_1 rfl 1 rfl ?_
  obtain ⟨M2, hc1, h⟩ := of_bd1 h
  refine r_callVV (st := []) dX7_layByRank_2 v_X7_36 (run_X7_fillWays hc1) (by decide) (by decide) rfl rfl (Nat.le_of_ble_eq_true rfl) rfl ?_
  refine r_lload_n dX7_layByRank_5 rfl 2 rfl ?_
  refine r_lstore (lv2 := [(5, vL a2), (0, vR 8), (1, vR 1), (2, vL a2), (4, vR a3)]) dX7_layByRank_6 (by decide) rfl ?_
  refine r_iconst dX7_layByRank_8 ?_
  refine r_istore (lv2 := [(7, vI 0), (5, vL a2), (0, vR 8), (1, vR 1), (2, vL a2), (4, vR a3)]) dX7_layByRank_9 (by decide) rfl ?_
  refine r_iconst dX7_layByRank_11 ?_
  refine r_istore (lv2 := [(8, vI 0), (7, vI 0), (5, vL a2), (0, vR 8), (1, vR 1), (2, vL a2), (4, vR a3)]) dX7_layByRank_12 (by decide) rfl ?_
  obtain ⟨y24, y25, y26, M27, h9, h⟩ := of_bd4 h
  refine r_sub (lv2 := [(0, vR 8), (1, vR 1), (4, vR a3), (5, vL a2), (7, vI 0), (8, vI 0)]) [3, 4, 6, 2, 1, 0] rfl ?_
  refine lp_X7_layByRank_L14 a3 ha3 (fun w => w = (y24, y25, y26, M27)) ?_ FU a2 0 0 M2 _ h9 rfl
  intro z0 z1 z2 z3 hw
  cases hw
  refine r_aload dX7_layByRank_132 2 rfl ?_
  refine r_iconst dX7_layByRank_134 ?_
  obtain ⟨M28, eM28, h⟩ := of_lt h
  refine r_putI (j := 0) (jz := 0) dX7_layByRank_135 p_X7_129 ha3 rfl rfl rfl rfl ?_
  rw [← eM28]
  cases h
  exact hQ _ _ dX7_layByRank_138

def m_X7_layCheapest_L10 (M : Mem) (p2 : Nat) (x3 : Int) (x4 : Int) : Option ((Int × Int × Mem) ⊕ (Int × Int × Mem)) :=
  if wr (m_X10_cells M) ≤ wr x4 then
    some (.inr (x3, x4, M))
  else
    bd1 (m_X7_isBare M x4 x3) fun b5 =>
    bd2 (
      if wr (bI b5) = 0 then
        bd1 (m_X10_column M x4) fun r8 =>
        some ((iand x3 (ixor (shl 1 r8) (-1))), M)
      else
        bd1 (m_X7_costEast M x4 x3) fun r10 =>
        bd1 (m_X7_costSouth M x4 x3) fun r12 =>
        lt (if r12 < r10 then 0 else 1) fun (v14 : Int) =>
        lt (if wr v14 = 0 then ((2 * x4) + 1) else (2 * x4)) fun (v16 : Int) =>
        bd1 (m_X3_put M p2 v16) fun M18 =>
        bd1 (m_X7_maskBehind M18 x4 x3 v14) fun r20 =>
        some (r20, M18)) fun (v21 : Int) (M22 : Mem) =>
    some (.inl (v21, (x4 + 1), M22))
def m_X7_layCheapest (M : Mem) (a2 : Nat) : Option (Mem) :=
  bd1 (m_X7_fillCosts M) fun M2 =>
  bd3 (itr (fun s => m_X7_layCheapest_L10 s.2.2 a2 s.1 s.2.1) FU (0, 0, M2)) fun y23 y24 M25 =>
  lt (sI M25 a2 0 1) fun M26 =>
  some M26
set_option maxRecDepth 10000 in
theorem lp_X7_layCheapest_L10 {G : Gx} (p2 : Nat)  (hp2 : (ly p2).1 = 8) (X : (Int × Int × Mem) → Prop) (hX1 : ∀ (x3 : Int) (x4 : Int) (M : Mem), X (x3, x4, M) → Ex G 5 cX7_layCheapest RX7 6 111 [(0, vR 8), (1, vR 1), (2, vR p2), (3, vI x3), (4, vI x4)] [] M) : ∀ (nn : Nat) (x3 : Int) (x4 : Int) (M : Mem) (out : Int × Int × Mem), itr (fun s => m_X7_layCheapest_L10 s.2.2 p2 s.1 s.2.1) nn (x3, x4, M) = some out → X out → Ex G 5 cX7_layCheapest RX7 6 10 [(0, vR 8), (1, vR 1), (2, vR p2), (3, vI x3), (4, vI x4)] [] M := by
  intro nn
  induction nn with
  | zero =>
    intro x3 x4 M out h _
    cases h
  | succ nn ih =>
    intro x3 x4 M out h0 hX
    obtain ⟨w, h, k1, k2⟩ := itr_inv h0
    have h : m_X7_layCheapest_L10 M p2 x3 x4 = some w := h
    unfold m_X7_layCheapest_L10 at h
    refine r_iload dX7_layCheapest_10 4 rfl ?_
    refine r_aload_n dX7_layCheapest_12 rfl 1 rfl ?_
    refine r_callVI (st := [vI x4]) dX7_layCheapest_13 v_X7_43 (run_X10_cells rfl) (by decide) (by decide) rfl rfl (Nat.le_of_ble_eq_true rfl) rfl ?_
    by_cases c3 : wr (m_X10_cells M) ≤ wr x4
    · rw [if_pos c3] at h
      refine r_icmp_ge (tgt := 111) dX7_layCheapest_16 (by decide) (fun _ => ?_) (fun q => absurd c3 q)
      cases h
      cases k2 _ rfl
      exact hX1 _ _ _ hX
    · rw [if_neg c3] at h
      refine r_icmp_ge (tgt := 111) dX7_layCheapest_16 (by decide) (fun q => absurd q c3) (fun _ => ?_)
      refine r_aload_n dX7_layCheapest_19 rfl 1 rfl ?_
      refine r_iload dX7_layCheapest_20 4 rfl ?_
      refine r_iload_n dX7_layCheapest_22 rfl 3 rfl ?_
      obtain ⟨b5, hc4, h⟩ := of_bd1 h
      refine r_callSI (st := []) dX7_layCheapest_23 v_X7_114 (run_X7_isBare hc4) (by decide) (by decide) rfl (Nat.le_of_ble_eq_true rfl) rfl ?_
      obtain ⟨v21, M22, h9, h⟩ := of_bd2 h
      have kJ : Ex G 5 cX7_layCheapest RX7 6 105 [(0, vR 8), (1, vR 1), (2, vR p2), (3, vI v21), (4, vI x4)] [] M22 := by
        refine r_iinc (lv2 := [(4, vI (x4 + 1)), (0, vR 8), (1, vR 1), (2, vR p2), (3, vI v21)]) dX7_layCheapest_105 4 rfl (by decide) rfl ?_
        refine r_goto (tgt := 10) dX7_layCheapest_108 (by decide) ?_
        refine r_sub (lv2 := [(0, vR 8), (1, vR 1), (2, vR p2), (3, vI v21), (4, vI (x4 + 1))]) [1, 2, 3, 4, 0] rfl ?_
        cases h
        exact ih _ _ _  _ (k1 _ rfl) hX
      clear h
      have h := h9
      clear h9
      by_cases c6 : wr (bI b5) = 0
      · rw [if_pos c6] at h
        refine r_if_eq (tgt := 92) dX7_layCheapest_26 (by decide) (fun _ => ?_) (fun q => absurd c6 q)
        refine r_iload_n dX7_layCheapest_92 rfl 3 rfl ?_
        refine r_iconst dX7_layCheapest_93 ?_
        refine r_aload_n dX7_layCheapest_94 rfl 1 rfl ?_
        refine r_iload dX7_layCheapest_95 4 rfl ?_
        obtain ⟨r8, hc7, h⟩ := of_bd1 h
        refine r_callVI (st := [vI 1, vI x3]) dX7_layCheapest_97 v_X7_88 (run_X10_column hc7) (by decide) (by decide) rfl rfl (Nat.le_of_ble_eq_true rfl) rfl ?_
        refine r_ishl dX7_layCheapest_100 ?_
        refine r_iconst dX7_layCheapest_101 ?_
        refine r_ixor dX7_layCheapest_102 ?_
        refine r_iand dX7_layCheapest_103 ?_
        refine r_istore_n (lv2 := [(3, vI (iand x3 (ixor (shl 1 r8) (-1)))), (0, vR 8), (1, vR 1), (2, vR p2), (4, vI x4)]) dX7_layCheapest_104 rfl (by decide) rfl ?_
        refine r_sub (lv2 := [(0, vR 8), (1, vR 1), (2, vR p2), (3, vI (iand x3 (ixor (shl 1 r8) (-1)))), (4, vI x4)]) [1, 2, 3, 0, 4] rfl ?_
        cases h
        exact kJ
      · rw [if_neg c6] at h
        refine r_if_eq (tgt := 92) dX7_layCheapest_26 (by decide) (fun q => absurd q c6) (fun _ => ?_)
        refine r_aload_n dX7_layCheapest_29 rfl 0 rfl ?_
        refine r_aload_n dX7_layCheapest_30 rfl 1 rfl ?_
        refine r_iload dX7_layCheapest_31 4 rfl ?_
        refine r_iload_n dX7_layCheapest_33 rfl 3 rfl ?_
        obtain ⟨r10, hc9, h⟩ := of_bd1 h
        refine r_callVL (st := []) dX7_layCheapest_34 v_X7_94 (run_X7_costEast hc9) (by decide) (by decide) rfl rfl (Nat.le_of_ble_eq_true rfl) rfl ?_
        refine r_aload_n dX7_layCheapest_37 rfl 0 rfl ?_
        refine r_aload_n dX7_layCheapest_38 rfl 1 rfl ?_
        refine r_iload dX7_layCheapest_39 4 rfl ?_
        refine r_iload_n dX7_layCheapest_41 rfl 3 rfl ?_
        obtain ⟨r12, hc11, h⟩ := of_bd1 h
        refine r_callVL (st := [vL r10]) dX7_layCheapest_42 v_X7_98 (run_X7_costSouth hc11) (by decide) (by decide) rfl rfl (Nat.le_of_ble_eq_true rfl) rfl ?_
        obtain ⟨v14, ev14, h⟩ := of_lt h
        have kJ : Ex G 5 cX7_layCheapest RX7 6 54 [(0, vR 8), (1, vR 1), (2, vR p2), (3, vI x3), (4, vI x4)] [vI v14] M := by
          refine r_istore (lv2 := [(5, vI v14), (0, vR 8), (1, vR 1), (2, vR p2), (3, vI x3), (4, vI x4)]) dX7_layCheapest_54 (by decide) rfl ?_
          refine r_aload_n dX7_layCheapest_56 rfl 3 rfl ?_
          refine r_aload_n dX7_layCheapest_57 rfl 2 rfl ?_
          refine r_iload dX7_layCheapest_58 0 rfl ?_
          obtain ⟨v16, ev16, h⟩ := of_lt h
          have kJ : Ex G 5 cX7_layCheapest RX7 6 76 [(0, vR 8), (1, vR 1), (2, vR p2), (3, vI x3), (4, vI x4), (5, vI v14)] [vI v16, vR 1, vR p2] M := by
            obtain ⟨M18, hc17, h⟩ := of_bd1 h
            refine r_callVV (st := []) dX7_layCheapest_76 v_X7_120 (run_X3_put hp2 hc17) (by decide) (by decide) hp2 rfl (Nat.le_of_ble_eq_true rfl) rfl ?_
            refine r_aload_n dX7_layCheapest_79 rfl 1 rfl ?_
            refine r_iload dX7_layCheapest_80 4 rfl ?_
            refine r_iload_n dX7_layCheapest_82 rfl 3 rfl ?_
            refine r_iload dX7_layCheapest_83 5 rfl ?_
            obtain ⟨r20, hc19, h⟩ := of_bd1 h
            refine r_callSI (st := []) dX7_layCheapest_85 v_X7_125 (run_X7_maskBehind hc19) (by decide) (by decide) rfl (Nat.le_of_ble_eq_true rfl) rfl ?_
            refine r_istore_n (lv2 := [(3, vI r20), (0, vR 8), (1, vR 1), (2, vR p2), (4, vI x4), (5, vI v14)]) dX7_layCheapest_88 rfl (by decide) rfl ?_
            refine r_goto (tgt := 105) dX7_layCheapest_89 (by decide) ?_
            refine r_sub (lv2 := [(0, vR 8), (1, vR 1), (2, vR p2), (3, vI r20), (4, vI x4)]) [1, 2, 3, 0, 4] rfl ?_
            cases h
            exact kJ
          clear h
          by_cases c15 : wr v14 = 0
          · skip
            refine r_if_eq (tgt := 70) dX7_layCheapest_60 (by decide) (fun _ => ?_) (fun q => absurd c15 q)
            refine r_iconst dX7_layCheapest_70 ?_
            refine r_iload dX7_layCheapest_71 5 rfl ?_
            refine r_imul dX7_layCheapest_73 ?_
            refine r_iconst dX7_layCheapest_74 ?_
            refine r_iadd dX7_layCheapest_75 ?_
            rw [show v16 = ((2 * x4) + 1) from by rw [ev16, if_pos c15]] at kJ
            refine r_sub (lv2 := [(0, vR 8), (1, vR 1), (2, vR p2), (3, vI x3), (4, vI x4), (5, vI v14)]) [1, 2, 3, 4, 5, 0] rfl ?_
            exact kJ
          · skip
            refine r_if_eq (tgt := 70) dX7_layCheapest_60 (by decide) (fun q => absurd q c15) (fun _ => ?_)
            refine r_iconst dX7_layCheapest_63 ?_
            refine r_iload dX7_layCheapest_64 5 rfl ?_
            refine r_imul dX7_layCheapest_66 ?_
            refine r_goto (tgt := 76) dX7_layCheapest_67 (by decide) ?_
            rw [show v16 = (2 * x4) from by rw [ev16, if_neg c15]] at kJ
            refine r_sub (lv2 := [(0, vR 8), (1, vR 1), (2, vR p2), (3, vI x3), (4, vI x4), (5, vI v14)]) [1, 2, 3, 4, 5, 0] rfl ?_
            exact kJ
        clear h
        by_cases c13 : r12 < r10
        · skip
          refine r_lcmp_gt (tgt := 53) dX7_layCheapest_45 dX7_layCheapest_46 (by decide) (fun _ => ?_) (fun q => absurd c13 q)
          refine r_iconst dX7_layCheapest_53 ?_
          rw [show v14 = 0 from by rw [ev14, if_pos c13]] at kJ
          exact kJ
        · skip
          refine r_lcmp_gt (tgt := 53) dX7_layCheapest_45 dX7_layCheapest_46 (by decide) (fun q => absurd q c13) (fun _ => ?_)
          refine r_iconst dX7_layCheapest_49 ?_
          refine r_goto (tgt := 54) dX7_layCheapest_50 (by decide) ?_
          rw [show v14 = 1 from by rw [ev14, if_neg c13]] at kJ
          exact kJ

set_option maxRecDepth 10000 in
theorem run_X7_layCheapest {M : Mem} {M2 : Mem} {a2 : Nat}  (ha2 : (ly a2).1 = 8) (h : m_X7_layCheapest M a2 = some (M2)) : RunV 5 yX7_layCheapest cX7_layCheapest 6 none [vR 8, vR 1, vR a2] M M2 := by
  refine runV_of (lv := [(0, vR 8), (1, vR 1), (2, vR a2)]) (by decide +kernel) rfl (Nat.le_of_ble_eq_true rfl) rfl ?_
  intro G hQ
  unfold m_X7_layCheapest at h
  refine r_aload_n dX7_layCheapest_0 rfl 0 rfl ?_
  refine r_aload_n dX7_layCheapest_1 rfl 1 rfl ?_
  obtain ⟨M2, hc1, h⟩ := of_bd1 h
  refine r_callVV (st := []) dX7_layCheapest_2 v_X7_40 (run_X7_fillCosts hc1) (by decide) (by decide) rfl rfl (Nat.le_of_ble_eq_true rfl) rfl ?_
  refine r_iconst dX7_layCheapest_5 ?_
  refine r_istore_n (lv2 := [(3, vI 0), (0, vR 8), (1, vR 1), (2, vR a2)]) dX7_layCheapest_6 rfl (by decide) rfl ?_
  refine r_iconst dX7_layCheapest_7 ?_
  refine r_istore (lv2 := [(4, vI 0), (3, vI 0), (0, vR 8), (1, vR 1), (2, vR a2)]) dX7_layCheapest_8 (by decide) rfl ?_
  obtain ⟨y23, y24, M25, h9, h⟩ := of_bd3 h
  refine r_sub (lv2 := [(0, vR 8), (1, vR 1), (2, vR a2), (3, vI 0), (4, vI 0)]) [2, 3, 4, 1, 0] rfl ?_
  refine lp_X7_layCheapest_L10 a2 ha2 (fun w => w = (y23, y24, M25)) ?_ FU 0 0 M2 _ h9 rfl
  intro z0 z1 z2 hw
  cases hw
  refine r_aload_n dX7_layCheapest_111 rfl 2 rfl ?_
  refine r_iconst dX7_layCheapest_112 ?_
  obtain ⟨M26, eM26, h⟩ := of_lt h
  refine r_putI (j := 0) (jz := 0) dX7_layCheapest_113 p_X7_129 ha2 rfl rfl rfl rfl ?_
  rw [← eM26]
  cases h
  exact hQ _ _ dX7_layCheapest_116

def m_X7_rankOf_L13 (M : Mem) (p2 : Nat) (x3 : Int64) (x5 : Int) (x6 : Int) : Option ((Int64 × Int × Int) ⊕ ((Int64 × Int × Int) ⊕ (Int64 × Mem))) :=
  if wr (m_X10_cells M) ≤ wr x6 then
    some (.inr (.inl (x3, x5, x6)))
  else
    bd1 (m_X7_isBare M x6 x5) fun b5 =>
    if wr (bI b5) = 0 then
      bd1 (m_X10_column M x6) fun r8 =>
      some (.inl (x3, (iand x5 (ixor (shl 1 r8) (-1))), (x6 + 1)))
    else
      if 0 ≤ wr x6 ∧ wr x6 < 64 then
      if 0 ≤ wr (gI M (p2 + 1) (wr x6)) ∧ wr (gI M (p2 + 1) (wr x6)) < 128 then
      if wr (gI M 11 (wr (gI M (p2 + 1) (wr x6)))) = 0 then
        some (.inr (.inr ((-2), M)))
      else
        lt (if wr (irm (gI M (p2 + 1) (wr x6)) 2) = 0 then 1 else 0) fun (v13 : Int) =>
        bd1 (
          if wr v13 = 0 then
            bd1 (m_X7_waysEast M x6 x5) fun r16 =>
            some ((x3 + r16))
          else
            some (x3)) fun (v17 : Int64) =>
        bd1 (m_X7_maskBehind M x6 x5 v13) fun r19 =>
        some (.inl (v17, r19, (x6 + 1)))
      else none
      else none
def m_X7_rankOf (M : Mem) (a2 : Nat) : Option (Int64 × Mem) :=
  bd1 (m_X7_fillWays M) fun M2 =>
  be3 (itr (fun s => m_X7_rankOf_L13 M2 a2 s.1 s.2.1 s.2.2) FU ((0 : Int64), 0, 0)) (fun y20 y21 y22 =>
  some (y20, M2))
set_option maxRecDepth 10000 in
theorem lp_X7_rankOf_L13 {G : Gx} (M : Mem) (p2 : Nat)  (hp2 : (ly p2).1 = 8) (X : ((Int64 × Int × Int) ⊕ (Int64 × Mem)) → Prop) (hX1 : ∀ (x3 : Int64) (x5 : Int) (x6 : Int), X (.inl (x3, x5, x6)) → Ex G 5 cX7_rankOf RX7 9 123 [(0, vR 8), (1, vR 1), (2, vR p2), (3, vL x3), (5, vI x5), (6, vI x6)] [] M) (hX2 : ∀ (r : Int64) (M2 : Mem), X (.inr (r, M2)) → RetL G 5 cX7_rankOf RX7 9 r M2) : ∀ (nn : Nat) (x3 : Int64) (x5 : Int) (x6 : Int) (out : (Int64 × Int × Int) ⊕ (Int64 × Mem)), itr (fun s => m_X7_rankOf_L13 M p2 s.1 s.2.1 s.2.2) nn (x3, x5, x6) = some out → X out → Ex G 5 cX7_rankOf RX7 9 13 [(0, vR 8), (1, vR 1), (2, vR p2), (3, vL x3), (5, vI x5), (6, vI x6)] [] M := by
  intro nn
  induction nn with
  | zero =>
    intro x3 x5 x6 out h _
    cases h
  | succ nn ih =>
    intro x3 x5 x6 out h0 hX
    obtain ⟨w, h, k1, k2⟩ := itr_inv h0
    have h : m_X7_rankOf_L13 M p2 x3 x5 x6 = some w := h
    unfold m_X7_rankOf_L13 at h
    refine r_iload dX7_rankOf_13 5 rfl ?_
    refine r_aload_n dX7_rankOf_15 rfl 1 rfl ?_
    refine r_callVI (st := [vI x6]) dX7_rankOf_16 v_X7_43 (run_X10_cells rfl) (by decide) (by decide) rfl rfl (Nat.le_of_ble_eq_true rfl) rfl ?_
    by_cases c3 : wr (m_X10_cells M) ≤ wr x6
    · rw [if_pos c3] at h
      refine r_icmp_ge (tgt := 123) dX7_rankOf_19 (by decide) (fun _ => ?_) (fun q => absurd c3 q)
      cases h
      cases k2 _ rfl
      exact hX1 _ _ _ hX
    · rw [if_neg c3] at h
      refine r_icmp_ge (tgt := 123) dX7_rankOf_19 (by decide) (fun q => absurd q c3) (fun _ => ?_)
      refine r_aload_n dX7_rankOf_22 rfl 1 rfl ?_
      refine r_iload dX7_rankOf_23 5 rfl ?_
      refine r_iload dX7_rankOf_25 4 rfl ?_
      obtain ⟨b5, hc4, h⟩ := of_bd1 h
      refine r_callSI (st := []) dX7_rankOf_27 v_X7_114 (run_X7_isBare hc4) (by decide) (by decide) rfl (Nat.le_of_ble_eq_true rfl) rfl ?_
      by_cases c6 : wr (bI b5) = 0
      · rw [if_pos c6] at h
        refine r_if_eq (tgt := 102) dX7_rankOf_30 (by decide) (fun _ => ?_) (fun q => absurd c6 q)
        refine r_iload dX7_rankOf_102 4 rfl ?_
        refine r_iconst dX7_rankOf_104 ?_
        refine r_aload_n dX7_rankOf_105 rfl 1 rfl ?_
        refine r_iload dX7_rankOf_106 5 rfl ?_
        obtain ⟨r8, hc7, h⟩ := of_bd1 h
        refine r_callVI (st := [vI 1, vI x5]) dX7_rankOf_108 v_X7_88 (run_X10_column hc7) (by decide) (by decide) rfl rfl (Nat.le_of_ble_eq_true rfl) rfl ?_
        refine r_ishl dX7_rankOf_111 ?_
        refine r_iconst dX7_rankOf_112 ?_
        refine r_ixor dX7_rankOf_113 ?_
        refine r_iand dX7_rankOf_114 ?_
        refine r_istore (lv2 := [(5, vI (iand x5 (ixor (shl 1 r8) (-1)))), (0, vR 8), (1, vR 1), (2, vR p2), (3, vL x3), (6, vI x6)]) dX7_rankOf_115 (by decide) rfl ?_
        refine r_iinc (lv2 := [(6, vI (x6 + 1)), (5, vI (iand x5 (ixor (shl 1 r8) (-1)))), (0, vR 8), (1, vR 1), (2, vR p2), (3, vL x3)]) dX7_rankOf_117 5 rfl (by decide) rfl ?_
        refine r_goto (tgt := 13) dX7_rankOf_120 (by decide) ?_
        refine r_sub (lv2 := [(0, vR 8), (1, vR 1), (2, vR p2), (3, vL x3), (5, vI (iand x5 (ixor (shl 1 r8) (-1)))), (6, vI (x6 + 1))]) [2, 3, 4, 5, 1, 0] rfl ?_
        cases h
        exact ih _ _ _  _ (k1 _ rfl) hX
      · rw [if_neg c6] at h
        refine r_if_eq (tgt := 102) dX7_rankOf_30 (by decide) (fun q => absurd q c6) (fun _ => ?_)
        refine r_aload_n dX7_rankOf_33 rfl 2 rfl ?_
        refine r_getR (j := 1) (v := (p2 + 1)) dX7_rankOf_34 f_X7_132 hp2 rfl (pav_on hp2).1 ?_
        refine r_iload dX7_rankOf_37 5 rfl ?_
        obtain ⟨c9, h⟩ := of_ck h
        refine r_iald dX7_rankOf_39 (pav_on (M := M) hp2).2 c9 ?_
        refine r_istore (lv2 := [(7, vI (gI M (p2 + 1) (wr x6))), (0, vR 8), (1, vR 1), (2, vR p2), (3, vL x3), (5, vI x5), (6, vI x6)]) dX7_rankOf_40 (by decide) rfl ?_
        refine r_aload_n dX7_rankOf_42 rfl 1 rfl ?_
        refine r_getR (j := 2) (v := 11) dX7_rankOf_43 f_X7_18 rfl rfl rfl ?_
        refine r_iload dX7_rankOf_46 0 rfl ?_
        obtain ⟨c10, h⟩ := of_ck h
        refine r_zald dX7_rankOf_48 rfl c10 ?_
        by_cases c11 : wr (gI M 11 (wr (gI M (p2 + 1) (wr x6)))) = 0
        · rw [if_pos c11] at h
          refine r_if_ne (tgt := 56) dX7_rankOf_49 (by decide) (fun q => absurd c11 q) (fun _ => ?_)
          refine r_ldc2 (v := (-2)) dX7_rankOf_52 kl_X7_135 ?_
          cases h
          cases k2 _ rfl
          exact hX2 _ _ hX _ _ dX7_rankOf_55
        · rw [if_neg c11] at h
          refine r_if_ne (tgt := 56) dX7_rankOf_49 (by decide) (fun _ => ?_) (fun q => absurd q c11)
          refine r_iload dX7_rankOf_56 0 rfl ?_
          refine r_iconst dX7_rankOf_58 ?_
          refine r_irem dX7_rankOf_59 (by decide) ?_
          obtain ⟨v13, ev13, h⟩ := of_lt h
          have kJ : Ex G 5 cX7_rankOf RX7 9 68 [(0, vR 8), (1, vR 1), (2, vR p2), (3, vL x3), (5, vI x5), (6, vI x6)] [vI v13] M := by
            refine r_istore (lv2 := [(8, vI v13), (0, vR 8), (1, vR 1), (2, vR p2), (3, vL x3), (5, vI x5), (6, vI x6)]) dX7_rankOf_68 (by decide) rfl ?_
            refine r_iload dX7_rankOf_70 0 rfl ?_
            obtain ⟨v17, h9, h⟩ := of_bd1 h
            have kJ : Ex G 5 cX7_rankOf RX7 9 87 [(0, vR 8), (1, vR 1), (2, vR p2), (3, vL v17), (5, vI x5), (6, vI x6), (8, vI v13)] [] M := by
              refine r_aload_n dX7_rankOf_87 rfl 1 rfl ?_
              refine r_iload dX7_rankOf_88 5 rfl ?_
              refine r_iload dX7_rankOf_90 4 rfl ?_
              refine r_iload dX7_rankOf_92 6 rfl ?_
              obtain ⟨r19, hc18, h⟩ := of_bd1 h
              refine r_callSI (st := []) dX7_rankOf_94 v_X7_125 (run_X7_maskBehind hc18) (by decide) (by decide) rfl (Nat.le_of_ble_eq_true rfl) rfl ?_
              refine r_istore (lv2 := [(5, vI r19), (0, vR 8), (1, vR 1), (2, vR p2), (3, vL v17), (6, vI x6), (8, vI v13)]) dX7_rankOf_97 (by decide) rfl ?_
              refine r_goto (tgt := 117) dX7_rankOf_99 (by decide) ?_
              refine r_iinc (lv2 := [(6, vI (x6 + 1)), (5, vI r19), (0, vR 8), (1, vR 1), (2, vR p2), (3, vL v17), (8, vI v13)]) dX7_rankOf_117 5 rfl (by decide) rfl ?_
              refine r_goto (tgt := 13) dX7_rankOf_120 (by decide) ?_
              refine r_sub (lv2 := [(0, vR 8), (1, vR 1), (2, vR p2), (3, vL v17), (5, vI r19), (6, vI (x6 + 1))]) [2, 3, 4, 5, 1, 0] rfl ?_
              cases h
              exact ih _ _ _  _ (k1 _ rfl) hX
            clear h
            have h := h9
            clear h9
            by_cases c14 : wr v13 = 0
            · rw [if_pos c14] at h
              refine r_if_ne (tgt := 87) dX7_rankOf_72 (by decide) (fun q => absurd c14 q) (fun _ => ?_)
              refine r_lload_n dX7_rankOf_75 rfl 4 rfl ?_
              refine r_aload_n dX7_rankOf_76 rfl 1 rfl ?_
              refine r_aload_n dX7_rankOf_77 rfl 2 rfl ?_
              refine r_iload dX7_rankOf_78 6 rfl ?_
              refine r_iload dX7_rankOf_80 5 rfl ?_
              obtain ⟨r16, hc15, h⟩ := of_bd1 h
              refine r_callVL (st := [vL x3]) dX7_rankOf_82 v_X7_117 (run_X7_waysEast hc15) (by decide) (by decide) rfl rfl (Nat.le_of_ble_eq_true rfl) rfl ?_
              refine r_ladd dX7_rankOf_85 ?_
              refine r_lstore_n (lv2 := [(3, vL (x3 + r16)), (8, vI v13), (0, vR 8), (1, vR 1), (2, vR p2), (5, vI x5), (6, vI x6)]) dX7_rankOf_86 rfl (by decide) rfl ?_
              refine r_sub (lv2 := [(0, vR 8), (1, vR 1), (2, vR p2), (3, vL (x3 + r16)), (5, vI x5), (6, vI x6), (8, vI v13)]) [2, 3, 4, 0, 5, 6, 1] rfl ?_
              cases h
              exact kJ
            · rw [if_neg c14] at h
              refine r_if_ne (tgt := 87) dX7_rankOf_72 (by decide) (fun _ => ?_) (fun q => absurd q c14)
              refine r_sub (lv2 := [(0, vR 8), (1, vR 1), (2, vR p2), (3, vL x3), (5, vI x5), (6, vI x6), (8, vI v13)]) [1, 2, 3, 4, 5, 6, 0] rfl ?_
              cases h
              exact kJ
          clear h
          by_cases c12 : wr (irm (gI M (p2 + 1) (wr x6)) 2) = 0
          · skip
            refine r_if_ne (tgt := 67) dX7_rankOf_60 (by decide) (fun q => absurd c12 q) (fun _ => ?_)
            refine r_iconst dX7_rankOf_63 ?_
            refine r_goto (tgt := 68) dX7_rankOf_64 (by decide) ?_
            rw [show v13 = 1 from by rw [ev13, if_pos c12]] at kJ
            refine r_sub (lv2 := [(0, vR 8), (1, vR 1), (2, vR p2), (3, vL x3), (5, vI x5), (6, vI x6)]) [1, 2, 3, 4, 5, 6] rfl ?_
            exact kJ
          · skip
            refine r_if_ne (tgt := 67) dX7_rankOf_60 (by decide) (fun _ => ?_) (fun q => absurd q c12)
            refine r_iconst dX7_rankOf_67 ?_
            rw [show v13 = 0 from by rw [ev13, if_neg c12]] at kJ
            refine r_sub (lv2 := [(0, vR 8), (1, vR 1), (2, vR p2), (3, vL x3), (5, vI x5), (6, vI x6)]) [1, 2, 3, 4, 5, 6] rfl ?_
            exact kJ

set_option maxRecDepth 10000 in
theorem run_X7_rankOf {M : Mem} {M2 : Mem} {a2 : Nat} {r : Int64}  (ha2 : (ly a2).1 = 8) (h : m_X7_rankOf M a2 = some (r, M2)) : RunL 5 yX7_rankOf cX7_rankOf 9 (some .long) [vR 8, vR 1, vR a2] M r M2 := by
  refine runL_of (lv := [(0, vR 8), (1, vR 1), (2, vR a2)]) (by decide +kernel) rfl (Nat.le_of_ble_eq_true rfl) rfl ?_
  intro G hQ
  unfold m_X7_rankOf at h
  refine r_aload_n dX7_rankOf_0 rfl 0 rfl ?_
  refine r_aload_n dX7_rankOf_1 rfl 1 rfl ?_
  obtain ⟨M2, hc1, h⟩ := of_bd1 h
  refine r_callVV (st := []) dX7_rankOf_2 v_X7_36 (run_X7_fillWays hc1) (by decide) (by decide) rfl rfl (Nat.le_of_ble_eq_true rfl) rfl ?_
  refine r_lconst (v := 0) dX7_rankOf_5 rfl ?_
  refine r_lstore_n (lv2 := [(3, vL (0 : Int64)), (0, vR 8), (1, vR 1), (2, vR a2)]) dX7_rankOf_6 rfl (by decide) rfl ?_
  refine r_iconst dX7_rankOf_7 ?_
  refine r_istore (lv2 := [(5, vI 0), (3, vL (0 : Int64)), (0, vR 8), (1, vR 1), (2, vR a2)]) dX7_rankOf_8 (by decide) rfl ?_
  refine r_iconst dX7_rankOf_10 ?_
  refine r_istore (lv2 := [(6, vI 0), (5, vI 0), (3, vL (0 : Int64)), (0, vR 8), (1, vR 1), (2, vR a2)]) dX7_rankOf_11 (by decide) rfl ?_
  obtain ⟨w9, h9, h⟩ := of_be3 h
  refine r_sub (lv2 := [(0, vR 8), (1, vR 1), (2, vR a2), (3, vL (0 : Int64)), (5, vI 0), (6, vI 0)]) [3, 4, 5, 2, 1, 0] rfl ?_
  refine lp_X7_rankOf_L13 M2 a2 ha2 (fun w => w = w9) ?_ ?_ FU (0 : Int64) 0 0 w9 h9 rfl
  · intro y20 y21 y22 hw
    subst hw
    have h := h.1 _ _ _  rfl
    refine r_lload_n dX7_rankOf_123 rfl 3 rfl ?_
    cases h
    exact hQ _ _ dX7_rankOf_124
  · intro r9 M9 hw
    subst hw
    have h := h.2 _ rfl
    cases h
    exact hQ

def m_X7_shareAt_L20 (M : Mem) (p2 : Int) (p3 : Int) (p4 : Int) (x5 : Int) : Option ((Int × Mem) ⊕ (Int × Mem)) :=
  if wr (shl 1 (gI M 1 0)) ≤ wr x5 then
    some (.inr (x5, M))
  else
    if ly (dR M 8 3) = (2, 256) then
    if 0 ≤ wr x5 ∧ wr x5 < 256 then
    bd1 (
      if (gL M (dR M 8 3) (wr x5)) = (0 : Int64) then
        some (M)
      else
        bd1 (m_X7_isBare M p2 x5) fun b8 =>
        if wr (bI b8) = 0 then
          if ly (dR M 8 4) = (2, 256) then
          if 0 ≤ wr (iand x5 (ixor p4 (-1))) ∧ wr (iand x5 (ixor p4 (-1))) < 256 then
          lt (sL M (dR M 8 4) (wr (iand x5 (ixor p4 (-1)))) ((gL M (dR M 8 4) (wr (iand x5 (ixor p4 (-1))))) + (gL M (dR M 8 3) (wr x5)))) fun M29 =>
          some (M29)
          else none
          else none
        else
          bd1 (m_X7_canEast M p2 x5) fun b11 =>
          bd1 (
            if wr (bI b11) = 0 then
              some (M)
            else
              if ly (dR M 8 4) = (2, 256) then
              if 0 ≤ wr (x5 + (2 * p4)) ∧ wr (x5 + (2 * p4)) < 256 then
              lt (sL M (dR M 8 4) (wr (x5 + (2 * p4))) ((gL M (dR M 8 4) (wr (x5 + (2 * p4)))) + (gL M (dR M 8 3) (wr x5)))) fun M15 =>
              if 0 ≤ wr (2 * p2) ∧ wr (2 * p2) < 128 then
              if 0 ≤ wr ((p3 + x5) + (2 * p4)) ∧ wr ((p3 + x5) + (2 * p4)) < 16640 then
              lt (sL M15 10 (wr (2 * p2)) ((gL M15 10 (wr (2 * p2))) + ((gL M (dR M 8 3) (wr x5)) * (gL M15 9 (wr ((p3 + x5) + (2 * p4))))))) fun M18 =>
              some (M18)
              else none
              else none
              else none
              else none) fun (M19 : Mem) =>
          if 0 ≤ wr ((2 * p2) + 1) ∧ wr ((2 * p2) + 1) < 128 then
          if wr (gI M19 11 (wr ((2 * p2) + 1))) = 0 then
            some (M19)
          else
            if ly (dR M19 8 4) = (2, 256) then
            if 0 ≤ wr (x5 + p4) ∧ wr (x5 + p4) < 256 then
            lt (sL M19 (dR M19 8 4) (wr (x5 + p4)) ((gL M19 (dR M19 8 4) (wr (x5 + p4))) + (gL M (dR M 8 3) (wr x5)))) fun M24 =>
            if 0 ≤ wr ((p3 + x5) + p4) ∧ wr ((p3 + x5) + p4) < 16640 then
            lt (sL M24 10 (wr ((2 * p2) + 1)) ((gL M24 10 (wr ((2 * p2) + 1))) + ((gL M (dR M 8 3) (wr x5)) * (gL M24 9 (wr ((p3 + x5) + p4)))))) fun M26 =>
            some (M26)
            else none
            else none
            else none
          else none) fun (M30 : Mem) =>
    some (.inl ((x5 + 1), M30))
    else none
    else none
def m_X7_shareAt (M : Mem) (a2 : Int) : Option (Mem) :=
  bd1 (m_X10_column M a2) fun r2 =>
  bd2 (itr (fun s => m_X7_shareAt_L20 s.2 a2 ((a2 + 1) * 256) (shl 1 r2) s.1) FU (0, M)) fun y31 M32 =>
  some M32
set_option maxRecDepth 10000 in
theorem lp_X7_shareAt_L20 {G : Gx} (p2 : Int) (p3 : Int) (p4 : Int)   (X : (Int × Mem) → Prop) (hX1 : ∀ (x5 : Int) (M : Mem), X (x5, M) → Ex G 2 cX7_shareAt RX7 8 198 [(0, vR 8), (1, vR 1), (2, vI p2), (3, vI p3), (4, vI p4), (5, vI x5)] [] M) : ∀ (nn : Nat) (x5 : Int) (M : Mem) (out : Int × Mem), itr (fun s => m_X7_shareAt_L20 s.2 p2 p3 p4 s.1) nn (x5, M) = some out → X out → Ex G 2 cX7_shareAt RX7 8 20 [(0, vR 8), (1, vR 1), (2, vI p2), (3, vI p3), (4, vI p4), (5, vI x5)] [] M := by
  intro nn
  induction nn with
  | zero =>
    intro x5 M out h _
    cases h
  | succ nn ih =>
    intro x5 M out h0 hX
    obtain ⟨w, h, k1, k2⟩ := itr_inv h0
    have h : m_X7_shareAt_L20 M p2 p3 p4 x5 = some w := h
    unfold m_X7_shareAt_L20 at h
    refine r_iload dX7_shareAt_20 5 rfl ?_
    refine r_iconst dX7_shareAt_22 ?_
    refine r_aload_n dX7_shareAt_23 rfl 1 rfl ?_
    refine r_getI (j := 0) (jz := 0) dX7_shareAt_24 f_X7_85 rfl rfl rfl ?_
    refine r_ishl dX7_shareAt_27 ?_
    by_cases c3 : wr (shl 1 (gI M 1 0)) ≤ wr x5
    · rw [if_pos c3] at h
      refine r_icmp_ge (tgt := 198) dX7_shareAt_28 (by decide) (fun _ => ?_) (fun q => absurd c3 q)
      cases h
      cases k2 _ rfl
      exact hX1 _ _ hX
    · rw [if_neg c3] at h
      refine r_icmp_ge (tgt := 198) dX7_shareAt_28 (by decide) (fun q => absurd q c3) (fun _ => ?_)
      refine r_aload_n dX7_shareAt_31 rfl 0 rfl ?_
      refine r_getR (j := 3) (v := (dR M 8 3)) dX7_shareAt_32 f_X7_22 rfl rfl rfl ?_
      obtain ⟨c4, h⟩ := of_ck h
      refine r_iload dX7_shareAt_35 5 rfl ?_
      obtain ⟨c5, h⟩ := of_ck h
      refine r_lald dX7_shareAt_37 c4 c5 ?_
      refine r_lstore (lv2 := [(6, vL (gL M (dR M 8 3) (wr x5))), (0, vR 8), (1, vR 1), (2, vI p2), (3, vI p3), (4, vI p4), (5, vI x5)]) dX7_shareAt_38 (by decide) rfl ?_
      refine r_lload dX7_shareAt_40 0 rfl ?_
      refine r_lconst (v := 0) dX7_shareAt_42 rfl ?_
      obtain ⟨M30, h9, h⟩ := of_bd1 h
      have kJ : Ex G 2 cX7_shareAt RX7 8 192 [(0, vR 8), (1, vR 1), (2, vI p2), (3, vI p3), (4, vI p4), (5, vI x5)] [] M30 := by
        refine r_iinc (lv2 := [(5, vI (x5 + 1)), (0, vR 8), (1, vR 1), (2, vI p2), (3, vI p3), (4, vI p4)]) dX7_shareAt_192 5 rfl (by decide) rfl ?_
        refine r_goto (tgt := 20) dX7_shareAt_195 (by decide) ?_
        refine r_sub (lv2 := [(0, vR 8), (1, vR 1), (2, vI p2), (3, vI p3), (4, vI p4), (5, vI (x5 + 1))]) [1, 2, 3, 4, 5, 0] rfl ?_
        cases h
        exact ih _ _  _ (k1 _ rfl) hX
      clear h
      have h := h9
      clear h9
      by_cases c6 : (gL M (dR M 8 3) (wr x5)) = (0 : Int64)
      · rw [if_pos c6] at h
        refine r_lcmp_ne (tgt := 50) dX7_shareAt_43 dX7_shareAt_44 (by decide) (fun q => absurd c6 q) (fun _ => ?_)
        refine r_goto (tgt := 192) dX7_shareAt_47 (by decide) ?_
        refine r_sub (lv2 := [(0, vR 8), (1, vR 1), (2, vI p2), (3, vI p3), (4, vI p4), (5, vI x5)]) [1, 2, 3, 4, 5, 6] rfl ?_
        cases h
        exact kJ
      · rw [if_neg c6] at h
        refine r_lcmp_ne (tgt := 50) dX7_shareAt_43 dX7_shareAt_44 (by decide) (fun _ => ?_) (fun q => absurd q c6)
        refine r_aload_n dX7_shareAt_50 rfl 2 rfl ?_
        refine r_iload_n dX7_shareAt_51 rfl 3 rfl ?_
        refine r_iload dX7_shareAt_52 6 rfl ?_
        obtain ⟨b8, hc7, h⟩ := of_bd1 h
        refine r_callSI (st := []) dX7_shareAt_54 v_X7_114 (run_X7_isBare hc7) (by decide) (by decide) rfl (Nat.le_of_ble_eq_true rfl) rfl ?_
        by_cases c9 : wr (bI b8) = 0
        · rw [if_pos c9] at h
          refine r_if_ne (tgt := 80) dX7_shareAt_57 (by decide) (fun q => absurd c9 q) (fun _ => ?_)
          refine r_aload_n dX7_shareAt_60 rfl 1 rfl ?_
          refine r_getR (j := 4) (v := (dR M 8 4)) dX7_shareAt_61 f_X7_25 rfl rfl rfl ?_
          obtain ⟨c27, h⟩ := of_ck h
          refine r_iload dX7_shareAt_64 6 rfl ?_
          refine r_iload dX7_shareAt_66 5 rfl ?_
          refine r_iconst dX7_shareAt_68 ?_
          refine r_ixor dX7_shareAt_69 ?_
          refine r_iand dX7_shareAt_70 ?_
          refine r_dup2 dX7_shareAt_71 rfl rfl ?_
          obtain ⟨c28, h⟩ := of_ck h
          refine r_lald dX7_shareAt_72 c27 c28 ?_
          refine r_lload dX7_shareAt_73 0 rfl ?_
          refine r_ladd dX7_shareAt_75 ?_
          obtain ⟨M29, eM29, h⟩ := of_lt h
          refine r_last dX7_shareAt_76 c27 c28 ?_
          rw [← eM29]
          refine r_goto (tgt := 192) dX7_shareAt_77 (by decide) ?_
          refine r_sub (lv2 := [(0, vR 8), (1, vR 1), (2, vI p2), (3, vI p3), (4, vI p4), (5, vI x5)]) [1, 2, 3, 4, 5, 6] rfl ?_
          cases h
          exact kJ
        · rw [if_neg c9] at h
          refine r_if_ne (tgt := 80) dX7_shareAt_57 (by decide) (fun _ => ?_) (fun q => absurd q c9)
          refine r_aload_n dX7_shareAt_80 rfl 1 rfl ?_
          refine r_aload_n dX7_shareAt_81 rfl 2 rfl ?_
          refine r_iload_n dX7_shareAt_82 rfl 3 rfl ?_
          refine r_iload dX7_shareAt_83 6 rfl ?_
          obtain ⟨b11, hc10, h⟩ := of_bd1 h
          refine r_callVI (st := []) dX7_shareAt_85 v_X7_107 (run_X7_canEast hc10) (by decide) (by decide) rfl rfl (Nat.le_of_ble_eq_true rfl) rfl ?_
          obtain ⟨M19, h9, h⟩ := of_bd1 h
          have kJ : Ex G 2 cX7_shareAt RX7 8 136 [(0, vR 8), (1, vR 1), (2, vI p2), (3, vI p3), (4, vI p4), (5, vI x5), (6, vL (gL M (dR M 8 3) (wr x5)))] [] M19 := by
            refine r_aload_n dX7_shareAt_136 rfl 0 rfl ?_
            refine r_getR (j := 2) (v := 11) dX7_shareAt_137 f_X7_18 rfl rfl rfl ?_
            refine r_iconst dX7_shareAt_140 ?_
            refine r_iload_n dX7_shareAt_141 rfl 2 rfl ?_
            refine r_imul dX7_shareAt_142 ?_
            refine r_iconst dX7_shareAt_143 ?_
            refine r_iadd dX7_shareAt_144 ?_
            obtain ⟨c20, h⟩ := of_ck h
            refine r_zald dX7_shareAt_145 rfl c20 ?_
            by_cases c21 : wr (gI M19 11 (wr ((2 * p2) + 1))) = 0
            · rw [if_pos c21] at h
              refine r_if_eq (tgt := 192) dX7_shareAt_146 (by decide) (fun _ => ?_) (fun q => absurd c21 q)
              refine r_sub (lv2 := [(0, vR 8), (1, vR 1), (2, vI p2), (3, vI p3), (4, vI p4), (5, vI x5)]) [0, 1, 2, 3, 4, 5] rfl ?_
              cases h
              exact kJ
            · rw [if_neg c21] at h
              refine r_if_eq (tgt := 192) dX7_shareAt_146 (by decide) (fun q => absurd q c21) (fun _ => ?_)
              refine r_aload_n dX7_shareAt_149 rfl 0 rfl ?_
              refine r_getR (j := 4) (v := (dR M19 8 4)) dX7_shareAt_150 f_X7_25 rfl rfl rfl ?_
              obtain ⟨c22, h⟩ := of_ck h
              refine r_iload dX7_shareAt_153 5 rfl ?_
              refine r_iload dX7_shareAt_155 4 rfl ?_
              refine r_iadd dX7_shareAt_157 ?_
              refine r_dup2 dX7_shareAt_158 rfl rfl ?_
              obtain ⟨c23, h⟩ := of_ck h
              refine r_lald dX7_shareAt_159 c22 c23 ?_
              refine r_lload dX7_shareAt_160 6 rfl ?_
              refine r_ladd dX7_shareAt_162 ?_
              obtain ⟨M24, eM24, h⟩ := of_lt h
              refine r_last dX7_shareAt_163 c22 c23 ?_
              rw [← eM24]
              refine r_aload_n dX7_shareAt_164 rfl 0 rfl ?_
              refine r_getR (j := 1) (v := 10) dX7_shareAt_165 f_X7_15 rfl rfl rfl ?_
              refine r_iconst dX7_shareAt_168 ?_
              refine r_iload_n dX7_shareAt_169 rfl 2 rfl ?_
              refine r_imul dX7_shareAt_170 ?_
              refine r_iconst dX7_shareAt_171 ?_
              refine r_iadd dX7_shareAt_172 ?_
              refine r_dup2 dX7_shareAt_173 rfl rfl ?_
              refine r_lald dX7_shareAt_174 rfl c20 ?_
              refine r_lload dX7_shareAt_175 6 rfl ?_
              refine r_aload_n dX7_shareAt_177 rfl 0 rfl ?_
              refine r_getR (j := 0) (v := 9) dX7_shareAt_178 f_X7_9 rfl rfl rfl ?_
              refine r_iload_n dX7_shareAt_181 rfl 3 rfl ?_
              refine r_iload dX7_shareAt_182 5 rfl ?_
              refine r_iadd dX7_shareAt_184 ?_
              refine r_iload dX7_shareAt_185 4 rfl ?_
              refine r_iadd dX7_shareAt_187 ?_
              obtain ⟨c25, h⟩ := of_ck h
              refine r_lald dX7_shareAt_188 rfl c25 ?_
              refine r_lmul dX7_shareAt_189 ?_
              refine r_ladd dX7_shareAt_190 ?_
              obtain ⟨M26, eM26, h⟩ := of_lt h
              refine r_last dX7_shareAt_191 rfl c20 ?_
              rw [← eM26]
              refine r_sub (lv2 := [(0, vR 8), (1, vR 1), (2, vI p2), (3, vI p3), (4, vI p4), (5, vI x5)]) [0, 1, 2, 3, 4, 5] rfl ?_
              cases h
              exact kJ
          clear h
          have h := h9
          clear h9
          by_cases c12 : wr (bI b11) = 0
          · rw [if_pos c12] at h
            refine r_if_eq (tgt := 136) dX7_shareAt_88 (by decide) (fun _ => ?_) (fun q => absurd c12 q)
            refine r_sub (lv2 := [(0, vR 8), (1, vR 1), (2, vI p2), (3, vI p3), (4, vI p4), (5, vI x5), (6, vL (gL M (dR M 8 3) (wr x5)))]) [1, 2, 3, 4, 5, 6, 0] rfl ?_
            cases h
            exact kJ
          · rw [if_neg c12] at h
            refine r_if_eq (tgt := 136) dX7_shareAt_88 (by decide) (fun q => absurd q c12) (fun _ => ?_)
            refine r_aload_n dX7_shareAt_91 rfl 1 rfl ?_
            refine r_getR (j := 4) (v := (dR M 8 4)) dX7_shareAt_92 f_X7_25 rfl rfl rfl ?_
            obtain ⟨c13, h⟩ := of_ck h
            refine r_iload dX7_shareAt_95 6 rfl ?_
            refine r_iconst dX7_shareAt_97 ?_
            refine r_iload dX7_shareAt_98 5 rfl ?_
            refine r_imul dX7_shareAt_100 ?_
            refine r_iadd dX7_shareAt_101 ?_
            refine r_dup2 dX7_shareAt_102 rfl rfl ?_
            obtain ⟨c14, h⟩ := of_ck h
            refine r_lald dX7_shareAt_103 c13 c14 ?_
            refine r_lload dX7_shareAt_104 0 rfl ?_
            refine r_ladd dX7_shareAt_106 ?_
            obtain ⟨M15, eM15, h⟩ := of_lt h
            refine r_last dX7_shareAt_107 c13 c14 ?_
            rw [← eM15]
            refine r_aload_n dX7_shareAt_108 rfl 1 rfl ?_
            refine r_getR (j := 1) (v := 10) dX7_shareAt_109 f_X7_15 rfl rfl rfl ?_
            refine r_iconst dX7_shareAt_112 ?_
            refine r_iload_n dX7_shareAt_113 rfl 3 rfl ?_
            refine r_imul dX7_shareAt_114 ?_
            refine r_dup2 dX7_shareAt_115 rfl rfl ?_
            obtain ⟨c16, h⟩ := of_ck h
            refine r_lald dX7_shareAt_116 rfl c16 ?_
            refine r_lload dX7_shareAt_117 0 rfl ?_
            refine r_aload_n dX7_shareAt_119 rfl 1 rfl ?_
            refine r_getR (j := 0) (v := 9) dX7_shareAt_120 f_X7_9 rfl rfl rfl ?_
            refine r_iload_n dX7_shareAt_123 rfl 4 rfl ?_
            refine r_iload dX7_shareAt_124 6 rfl ?_
            refine r_iadd dX7_shareAt_126 ?_
            refine r_iconst dX7_shareAt_127 ?_
            refine r_iload dX7_shareAt_128 5 rfl ?_
            refine r_imul dX7_shareAt_130 ?_
            refine r_iadd dX7_shareAt_131 ?_
            obtain ⟨c17, h⟩ := of_ck h
            refine r_lald dX7_shareAt_132 rfl c17 ?_
            refine r_lmul dX7_shareAt_133 ?_
            refine r_ladd dX7_shareAt_134 ?_
            obtain ⟨M18, eM18, h⟩ := of_lt h
            refine r_last dX7_shareAt_135 rfl c16 ?_
            rw [← eM18]
            refine r_sub (lv2 := [(0, vR 8), (1, vR 1), (2, vI p2), (3, vI p3), (4, vI p4), (5, vI x5), (6, vL (gL M (dR M 8 3) (wr x5)))]) [1, 2, 3, 4, 5, 6, 0] rfl ?_
            cases h
            exact kJ

set_option maxRecDepth 10000 in
theorem run_X7_shareAt {M : Mem} {M2 : Mem} {a2 : Int}   (h : m_X7_shareAt M a2 = some (M2)) : RunV 2 yX7_shareAt cX7_shareAt 8 none [vR 8, vR 1, vI a2] M M2 := by
  refine runV_of (lv := [(0, vR 8), (1, vR 1), (2, vI a2)]) (by decide +kernel) rfl (Nat.le_of_ble_eq_true rfl) rfl ?_
  intro G hQ
  unfold m_X7_shareAt at h
  refine r_iload_n dX7_shareAt_0 rfl 2 rfl ?_
  refine r_iconst dX7_shareAt_1 ?_
  refine r_iadd dX7_shareAt_2 ?_
  refine r_sipush dX7_shareAt_3 (by decide) ?_
  refine r_imul dX7_shareAt_6 ?_
  refine r_istore_n (lv2 := [(3, vI ((a2 + 1) * 256)), (0, vR 8), (1, vR 1), (2, vI a2)]) dX7_shareAt_7 rfl (by decide) rfl ?_
  refine r_iconst dX7_shareAt_8 ?_
  refine r_aload_n dX7_shareAt_9 rfl 2 rfl ?_
  refine r_iload_n dX7_shareAt_10 rfl 3 rfl ?_
  obtain ⟨r2, hc1, h⟩ := of_bd1 h
  refine r_callVI (st := [vI 1]) dX7_shareAt_11 v_X7_88 (run_X10_column hc1) (by decide) (by decide) rfl rfl (Nat.le_of_ble_eq_true rfl) rfl ?_
  refine r_ishl dX7_shareAt_14 ?_
  refine r_istore (lv2 := [(4, vI (shl 1 r2)), (3, vI ((a2 + 1) * 256)), (0, vR 8), (1, vR 1), (2, vI a2)]) dX7_shareAt_15 (by decide) rfl ?_
  refine r_iconst dX7_shareAt_17 ?_
  refine r_istore (lv2 := [(5, vI 0), (4, vI (shl 1 r2)), (3, vI ((a2 + 1) * 256)), (0, vR 8), (1, vR 1), (2, vI a2)]) dX7_shareAt_18 (by decide) rfl ?_
  obtain ⟨y31, M32, h9, h⟩ := of_bd2 h
  refine r_sub (lv2 := [(0, vR 8), (1, vR 1), (2, vI a2), (3, vI ((a2 + 1) * 256)), (4, vI (shl 1 r2)), (5, vI 0)]) [3, 4, 5, 2, 1, 0] rfl ?_
  refine lp_X7_shareAt_L20 a2 ((a2 + 1) * 256) (shl 1 r2)  (fun w => w = (y31, M32)) ?_ FU 0 M _ h9 rfl
  intro z0 z1 hw
  cases hw
  cases h
  exact hQ _ _ dX7_shareAt_198

def m_X7_fillShares_L38 (M : Mem)  (x2 : Int) : Option ((Int × Mem) ⊕ (Int × Mem)) :=
  if wr (m_X10_cells M) ≤ wr x2 then
    some (.inr (x2, M))
  else
    if ly (dR M 8 4) = (2, 256) then
    bd1 (m_J7_fill_d0a16 M (dR M 8 4) (0 : Int64)) fun M14 =>
    bd1 (m_X7_shareAt M14 x2) fun M16 =>
    if ly (dR M16 8 3) = (2, 256) then
    if ly (dR M16 8 4) = (2, 256) then
    lt (sR M16 8 3 (dR M16 8 4)) fun M19 =>
    lt (sR M19 8 4 (dR M16 8 3)) fun M20 =>
    some (.inl ((x2 + 1), M20))
    else none
    else none
    else none
def m_X7_fillShares (M : Mem) : Option (Mem) :=
  if wr (gI M 8 6) = 0 then
    bd1 (m_X7_fillWays M) fun M3 =>
    bd1 (m_J7_fill_d0a16 M3 10 (0 : Int64)) fun M5 =>
    if ly (dR M5 8 3) = (2, 256) then
    bd1 (m_J7_fill_d0a16 M5 (dR M5 8 3) (0 : Int64)) fun M8 =>
    if ly (dR M8 8 3) = (2, 256) then
    lt (sL M8 (dR M8 8 3) (wr 0) (1 : Int64)) fun M10 =>
    bd2 (itr (fun s => m_X7_fillShares_L38 s.2  s.1) FU (0, M10)) fun y21 M22 =>
    lt (sI M22 8 6 1) fun M23 =>
    some M23
    else none
    else none
  else
    some M
set_option maxRecDepth 10000 in
theorem lp_X7_fillShares_L38 {G : Gx}    (X : (Int × Mem) → Prop) (hX1 : ∀ (x2 : Int) (M : Mem), X (x2, M) → Ex G 5 cX7_fillShares RX7 4 84 [(0, vR 8), (1, vR 1), (2, vI x2)] [] M) : ∀ (nn : Nat) (x2 : Int) (M : Mem) (out : Int × Mem), itr (fun s => m_X7_fillShares_L38 s.2  s.1) nn (x2, M) = some out → X out → Ex G 5 cX7_fillShares RX7 4 38 [(0, vR 8), (1, vR 1), (2, vI x2)] [] M := by
  intro nn
  induction nn with
  | zero =>
    intro x2 M out h _
    cases h
  | succ nn ih =>
    intro x2 M out h0 hX
    obtain ⟨w, h, k1, k2⟩ := itr_inv h0
    have h : m_X7_fillShares_L38 M  x2 = some w := h
    unfold m_X7_fillShares_L38 at h
    refine r_iload_n dX7_fillShares_38 rfl 2 rfl ?_
    refine r_aload_n dX7_fillShares_39 rfl 1 rfl ?_
    refine r_callVI (st := [vI x2]) dX7_fillShares_40 v_X7_43 (run_X10_cells rfl) (by decide) (by decide) rfl rfl (Nat.le_of_ble_eq_true rfl) rfl ?_
    by_cases c11 : wr (m_X10_cells M) ≤ wr x2
    · rw [if_pos c11] at h
      refine r_icmp_ge (tgt := 84) dX7_fillShares_43 (by decide) (fun _ => ?_) (fun q => absurd c11 q)
      cases h
      cases k2 _ rfl
      exact hX1 _ _ hX
    · rw [if_neg c11] at h
      refine r_icmp_ge (tgt := 84) dX7_fillShares_43 (by decide) (fun q => absurd q c11) (fun _ => ?_)
      refine r_aload_n dX7_fillShares_46 rfl 0 rfl ?_
      refine r_getR (j := 4) (v := (dR M 8 4)) dX7_fillShares_47 f_X7_25 rfl rfl rfl ?_
      obtain ⟨c12, h⟩ := of_ck h
      refine r_lconst (v := 0) dX7_fillShares_50 rfl ?_
      obtain ⟨M14, hc13, h⟩ := of_bd1 h
      refine r_callSV (st := []) dX7_fillShares_51 v_X7_137 (run_J7_fill_d0a16 (congrArg Prod.fst c12) hc13) (by decide) (by decide) rfl (Nat.le_of_ble_eq_true rfl) rfl ?_
      refine r_aload_n dX7_fillShares_54 rfl 0 rfl ?_
      refine r_aload_n dX7_fillShares_55 rfl 1 rfl ?_
      refine r_iload_n dX7_fillShares_56 rfl 2 rfl ?_
      obtain ⟨M16, hc15, h⟩ := of_bd1 h
      refine r_callVV (st := []) dX7_fillShares_57 v_X7_143 (run_X7_shareAt hc15) (by decide) (by decide) rfl rfl (Nat.le_of_ble_eq_true rfl) rfl ?_
      refine r_aload_n dX7_fillShares_60 rfl 0 rfl ?_
      refine r_getR (j := 3) (v := (dR M16 8 3)) dX7_fillShares_61 f_X7_22 rfl rfl rfl ?_
      obtain ⟨c17, h⟩ := of_ck h
      refine r_astore_n (lv2 := [(3, vR (dR M16 8 3)), (0, vR 8), (1, vR 1), (2, vI x2)]) dX7_fillShares_64 rfl (by decide) rfl ?_
      refine r_aload_n dX7_fillShares_65 rfl 1 rfl ?_
      refine r_aload_n dX7_fillShares_66 rfl 1 rfl ?_
      refine r_getR (j := 4) (v := (dR M16 8 4)) dX7_fillShares_67 f_X7_25 rfl rfl rfl ?_
      obtain ⟨c18, h⟩ := of_ck h
      obtain ⟨M19, eM19, h⟩ := of_lt h
      refine r_putR dX7_fillShares_70 p_X7_22 rfl rfl rfl ?_
      rw [← eM19]
      refine r_aload_n dX7_fillShares_73 rfl 1 rfl ?_
      refine r_aload_n dX7_fillShares_74 rfl 0 rfl ?_
      obtain ⟨M20, eM20, h⟩ := of_lt h
      refine r_putR dX7_fillShares_75 p_X7_25 rfl rfl rfl ?_
      rw [← eM20]
      refine r_iinc (lv2 := [(2, vI (x2 + 1)), (3, vR (dR M16 8 3)), (0, vR 8), (1, vR 1)]) dX7_fillShares_78 3 rfl (by decide) rfl ?_
      refine r_goto (tgt := 38) dX7_fillShares_81 (by decide) ?_
      refine r_sub (lv2 := [(0, vR 8), (1, vR 1), (2, vI (x2 + 1))]) [2, 3, 0] rfl ?_
      cases h
      exact ih _ _  _ (k1 _ rfl) hX

set_option maxRecDepth 10000 in
theorem run_X7_fillShares {M : Mem} {M2 : Mem}   (h : m_X7_fillShares M = some (M2)) : RunV 5 yX7_fillShares cX7_fillShares 4 none [vR 8, vR 1] M M2 := by
  refine runV_of (lv := [(0, vR 8), (1, vR 1)]) (by decide +kernel) rfl (Nat.le_of_ble_eq_true rfl) rfl ?_
  intro G hQ
  unfold m_X7_fillShares at h
  refine r_aload_n dX7_fillShares_0 rfl 0 rfl ?_
  refine r_getI (j := 6) (jz := 6) dX7_fillShares_1 f_X7_32 rfl rfl rfl ?_
  by_cases c1 : wr (gI M 8 6) = 0
  · rw [if_pos c1] at h
    refine r_if_eq (tgt := 8) dX7_fillShares_4 (by decide) (fun _ => ?_) (fun q => absurd c1 q)
    refine r_aload_n dX7_fillShares_8 rfl 0 rfl ?_
    refine r_aload_n dX7_fillShares_9 rfl 1 rfl ?_
    obtain ⟨M3, hc2, h⟩ := of_bd1 h
    refine r_callVV (st := []) dX7_fillShares_10 v_X7_36 (run_X7_fillWays hc2) (by decide) (by decide) rfl rfl (Nat.le_of_ble_eq_true rfl) rfl ?_
    refine r_aload_n dX7_fillShares_13 rfl 0 rfl ?_
    refine r_getR (j := 1) (v := 10) dX7_fillShares_14 f_X7_15 rfl rfl rfl ?_
    refine r_lconst (v := 0) dX7_fillShares_17 rfl ?_
    obtain ⟨M5, hc4, h⟩ := of_bd1 h
    refine r_callSV (st := []) dX7_fillShares_18 v_X7_137 (run_J7_fill_d0a16 (congrArg Prod.fst rfl) hc4) (by decide) (by decide) rfl (Nat.le_of_ble_eq_true rfl) rfl ?_
    refine r_aload_n dX7_fillShares_21 rfl 0 rfl ?_
    refine r_getR (j := 3) (v := (dR M5 8 3)) dX7_fillShares_22 f_X7_22 rfl rfl rfl ?_
    obtain ⟨c6, h⟩ := of_ck h
    refine r_lconst (v := 0) dX7_fillShares_25 rfl ?_
    obtain ⟨M8, hc7, h⟩ := of_bd1 h
    refine r_callSV (st := []) dX7_fillShares_26 v_X7_137 (run_J7_fill_d0a16 (congrArg Prod.fst c6) hc7) (by decide) (by decide) rfl (Nat.le_of_ble_eq_true rfl) rfl ?_
    refine r_aload_n dX7_fillShares_29 rfl 0 rfl ?_
    refine r_getR (j := 3) (v := (dR M8 8 3)) dX7_fillShares_30 f_X7_22 rfl rfl rfl ?_
    obtain ⟨c9, h⟩ := of_ck h
    refine r_iconst dX7_fillShares_33 ?_
    refine r_lconst (v := 1) dX7_fillShares_34 rfl ?_
    obtain ⟨M10, eM10, h⟩ := of_lt h
    refine r_last dX7_fillShares_35 c9 (by decide) ?_
    rw [← eM10]
    refine r_iconst dX7_fillShares_36 ?_
    refine r_istore_n (lv2 := [(2, vI 0), (0, vR 8), (1, vR 1)]) dX7_fillShares_37 rfl (by decide) rfl ?_
    obtain ⟨y21, M22, h9, h⟩ := of_bd2 h
    refine r_sub (lv2 := [(0, vR 8), (1, vR 1), (2, vI 0)]) [1, 2, 0] rfl ?_
    refine lp_X7_fillShares_L38   (fun w => w = (y21, M22)) ?_ FU 0 M10 _ h9 rfl
    intro z0 z1 hw
    cases hw
    refine r_aload_n dX7_fillShares_84 rfl 0 rfl ?_
    refine r_iconst dX7_fillShares_85 ?_
    obtain ⟨M23, eM23, h⟩ := of_lt h
    refine r_putI (j := 6) (jz := 6) dX7_fillShares_86 p_X7_32 rfl rfl rfl rfl rfl ?_
    rw [← eM23]
    cases h
    exact hQ _ _ dX7_fillShares_89
  · rw [if_neg c1] at h
    refine r_if_eq (tgt := 8) dX7_fillShares_4 (by decide) (fun q => absurd q c1) (fun _ => ?_)
    cases h
    exact hQ _ _ dX7_fillShares_7

def m_X7_bricksWithShare_L6 (M : Mem) (p2 : Int64) (x4 : Int) (x5 : Int) : Option ((Int × Int) ⊕ (Int × Int)) :=
  if wr (2 * (m_X10_cells M)) ≤ wr x5 then
    some (.inr (x4, x5))
  else
    bd1 (m_X10_stands M x5) fun b3 =>
    bd1 (
      if wr (bI b3) = 0 then
        some (0)
      else
        if 0 ≤ wr x5 ∧ wr x5 < 128 then
        if (gL M 10 (wr x5)) = p2 then
          some (1)
        else
          some (0)
        else none) fun (v7 : Int) =>
    some (.inl ((x4 + (m_X11_bit v7)), (x5 + 1)))
def m_X7_bricksWithShare (M : Mem) (a2 : Int64) : Option (Int) :=
  bd2 (itr (fun s => m_X7_bricksWithShare_L6 M a2 s.1 s.2) FU (0, 0)) fun y8 y9 =>
  some y8
set_option maxRecDepth 10000 in
theorem lp_X7_bricksWithShare_L6 {G : Gx} (M : Mem) (p2 : Int64)   (X : (Int × Int) → Prop) (hX1 : ∀ (x4 : Int) (x5 : Int), X (x4, x5) → Ex G 3 cX7_bricksWithShare RX7 6 57 [(0, vR 8), (1, vR 1), (2, vL p2), (4, vI x4), (5, vI x5)] [] M) : ∀ (nn : Nat) (x4 : Int) (x5 : Int) (out : Int × Int), itr (fun s => m_X7_bricksWithShare_L6 M p2 s.1 s.2) nn (x4, x5) = some out → X out → Ex G 3 cX7_bricksWithShare RX7 6 6 [(0, vR 8), (1, vR 1), (2, vL p2), (4, vI x4), (5, vI x5)] [] M := by
  intro nn
  induction nn with
  | zero =>
    intro x4 x5 out h _
    cases h
  | succ nn ih =>
    intro x4 x5 out h0 hX
    obtain ⟨w, h, k1, k2⟩ := itr_inv h0
    have h : m_X7_bricksWithShare_L6 M p2 x4 x5 = some w := h
    unfold m_X7_bricksWithShare_L6 at h
    refine r_iload dX7_bricksWithShare_6 4 rfl ?_
    refine r_iconst dX7_bricksWithShare_8 ?_
    refine r_aload_n dX7_bricksWithShare_9 rfl 1 rfl ?_
    refine r_callVI (st := [vI 2, vI x5]) dX7_bricksWithShare_10 v_X7_43 (run_X10_cells rfl) (by decide) (by decide) rfl rfl (Nat.le_of_ble_eq_true rfl) rfl ?_
    refine r_imul dX7_bricksWithShare_13 ?_
    by_cases c1 : wr (2 * (m_X10_cells M)) ≤ wr x5
    · rw [if_pos c1] at h
      refine r_icmp_ge (tgt := 57) dX7_bricksWithShare_14 (by decide) (fun _ => ?_) (fun q => absurd c1 q)
      cases h
      cases k2 _ rfl
      exact hX1 _ _ hX
    · rw [if_neg c1] at h
      refine r_icmp_ge (tgt := 57) dX7_bricksWithShare_14 (by decide) (fun q => absurd q c1) (fun _ => ?_)
      refine r_iload dX7_bricksWithShare_17 3 rfl ?_
      refine r_aload_n dX7_bricksWithShare_19 rfl 1 rfl ?_
      refine r_iload dX7_bricksWithShare_20 4 rfl ?_
      obtain ⟨b3, hc2, h⟩ := of_bd1 h
      refine r_callVI (st := [vI x4]) dX7_bricksWithShare_22 v_X7_49 (run_X10_stands hc2) (by decide) (by decide) rfl rfl (Nat.le_of_ble_eq_true rfl) rfl ?_
      obtain ⟨v7, h9, h⟩ := of_bd1 h
      have kJ : Ex G 3 cX7_bricksWithShare RX7 6 45 [(0, vR 8), (1, vR 1), (2, vL p2), (5, vI x5)] [vI v7, vI x4] M := by
        refine r_callNI (st := [vI x4]) dX7_bricksWithShare_45 v_X7_146 (run_X11_bit rfl) (by decide) (by decide) rfl (Nat.le_of_ble_eq_true rfl) rfl ?_
        refine r_iadd dX7_bricksWithShare_48 ?_
        refine r_istore (lv2 := [(4, vI (x4 + (m_X11_bit v7))), (0, vR 8), (1, vR 1), (2, vL p2), (5, vI x5)]) dX7_bricksWithShare_49 (by decide) rfl ?_
        refine r_iinc (lv2 := [(5, vI (x5 + 1)), (4, vI (x4 + (m_X11_bit v7))), (0, vR 8), (1, vR 1), (2, vL p2)]) dX7_bricksWithShare_51 4 rfl (by decide) rfl ?_
        refine r_goto (tgt := 6) dX7_bricksWithShare_54 (by decide) ?_
        refine r_sub (lv2 := [(0, vR 8), (1, vR 1), (2, vL p2), (4, vI (x4 + (m_X11_bit v7))), (5, vI (x5 + 1))]) [2, 3, 4, 1, 0] rfl ?_
        cases h
        exact ih _ _  _ (k1 _ rfl) hX
      clear h
      have h := h9
      clear h9
      by_cases c4 : wr (bI b3) = 0
      · rw [if_pos c4] at h
        refine r_if_eq (tgt := 44) dX7_bricksWithShare_25 (by decide) (fun _ => ?_) (fun q => absurd c4 q)
        refine r_iconst dX7_bricksWithShare_44 ?_
        refine r_sub (lv2 := [(0, vR 8), (1, vR 1), (2, vL p2), (5, vI x5)]) [0, 1, 2, 4] rfl ?_
        cases h
        exact kJ
      · rw [if_neg c4] at h
        refine r_if_eq (tgt := 44) dX7_bricksWithShare_25 (by decide) (fun q => absurd q c4) (fun _ => ?_)
        refine r_aload_n dX7_bricksWithShare_28 rfl 0 rfl ?_
        refine r_getR (j := 1) (v := 10) dX7_bricksWithShare_29 f_X7_15 rfl rfl rfl ?_
        refine r_iload dX7_bricksWithShare_32 4 rfl ?_
        obtain ⟨c5, h⟩ := of_ck h
        refine r_lald dX7_bricksWithShare_34 rfl c5 ?_
        refine r_lload_n dX7_bricksWithShare_35 rfl 2 rfl ?_
        by_cases c6 : (gL M 10 (wr x5)) = p2
        · rw [if_pos c6] at h
          refine r_lcmp_ne (tgt := 44) dX7_bricksWithShare_36 dX7_bricksWithShare_37 (by decide) (fun q => absurd c6 q) (fun _ => ?_)
          refine r_iconst dX7_bricksWithShare_40 ?_
          refine r_goto (tgt := 45) dX7_bricksWithShare_41 (by decide) ?_
          refine r_sub (lv2 := [(0, vR 8), (1, vR 1), (2, vL p2), (5, vI x5)]) [0, 1, 2, 4] rfl ?_
          cases h
          exact kJ
        · rw [if_neg c6] at h
          refine r_lcmp_ne (tgt := 44) dX7_bricksWithShare_36 dX7_bricksWithShare_37 (by decide) (fun _ => ?_) (fun q => absurd q c6)
          refine r_iconst dX7_bricksWithShare_44 ?_
          refine r_sub (lv2 := [(0, vR 8), (1, vR 1), (2, vL p2), (5, vI x5)]) [0, 1, 2, 4] rfl ?_
          cases h
          exact kJ

set_option maxRecDepth 10000 in
theorem run_X7_bricksWithShare {M : Mem} {a2 : Int64} {r : Int}   (h : m_X7_bricksWithShare M a2 = some r) : RunI 3 yX7_bricksWithShare cX7_bricksWithShare 6 (some .int) [vR 8, vR 1, vL a2] M r M := by
  refine runI_of (lv := [(0, vR 8), (1, vR 1), (2, vL a2)]) (by decide +kernel) (Or.inl rfl) (Nat.le_of_ble_eq_true rfl) rfl ?_
  intro G hQ
  unfold m_X7_bricksWithShare at h
  refine r_iconst dX7_bricksWithShare_0 ?_
  refine r_istore (lv2 := [(4, vI 0), (0, vR 8), (1, vR 1), (2, vL a2)]) dX7_bricksWithShare_1 (by decide) rfl ?_
  refine r_iconst dX7_bricksWithShare_3 ?_
  refine r_istore (lv2 := [(5, vI 0), (4, vI 0), (0, vR 8), (1, vR 1), (2, vL a2)]) dX7_bricksWithShare_4 (by decide) rfl ?_
  obtain ⟨y8, y9, h9, h⟩ := of_bd2 h
  refine r_sub (lv2 := [(0, vR 8), (1, vR 1), (2, vL a2), (4, vI 0), (5, vI 0)]) [2, 3, 4, 1, 0] rfl ?_
  refine lp_X7_bricksWithShare_L6 M a2  (fun w => w = (y8, y9)) ?_ FU 0 0 _ h9 rfl
  intro z0 z1 hw
  cases hw
  refine r_iload dX7_bricksWithShare_57 3 rfl ?_
  cases h
  exact hQ _ _ dX7_bricksWithShare_59

def m_X8_byteAt (a0 : Int64) (a1 : Int) : Int :=
  (l2i ((lushr a0 (8 * a1)) &&& (255)))
set_option maxRecDepth 10000 in
theorem run_X8_byteAt {M : Mem} {a0 : Int64} {a1 : Int} {r : Int}   (h : m_X8_byteAt a0 a1 = r) : RunI 0 yX8_byteAt cX8_byteAt 3 (some .int) [vL a0, vI a1] M r M := by
  refine runI_of (lv := [(0, vL a0), (2, vI a1)]) (by decide +kernel) (Or.inl rfl) (Nat.le_of_ble_eq_true rfl) rfl ?_
  intro G hQ
  unfold m_X8_byteAt at h
  refine r_lload_n dX8_byteAt_0 rfl 0 rfl ?_
  refine r_bipush dX8_byteAt_1 (by decide) ?_
  refine r_iload_n dX8_byteAt_3 rfl 1 rfl ?_
  refine r_imul dX8_byteAt_4 ?_
  refine r_lushr dX8_byteAt_5 ?_
  refine r_ldc2 (v := (255)) dX8_byteAt_6 kl_X8_19 ?_
  refine r_land dX8_byteAt_9 ?_
  refine r_l2i dX8_byteAt_10 ?_
  cases h
  exact hQ _ _ dX8_byteAt_11

def m_X8_canType_L3 (M : Mem) (p1 : Int64) (p3 : Int) (x4 : Int) : Option ((Int) ⊕ ((Int) ⊕ (Bool))) :=
  if wr p3 ≤ wr x4 then
    some (.inr (.inl (x4)))
  else
    if wr (m_X8_byteAt p1 x4) < wr 32 then
      some (.inr (.inr false))
    else
      if wr (m_X8_byteAt p1 x4) ≤ wr 126 then
        some (.inl ((x4 + 1)))
      else
        some (.inr (.inr false))
def m_X8_canType (M : Mem) (a1 : Int64) (a2 : Int) : Option (Bool) :=
  be1 (itr (fun s => m_X8_canType_L3 M a1 a2 s) FU (0)) (fun y4 =>
  some true)
set_option maxRecDepth 10000 in
theorem lp_X8_canType_L3 {G : Gx} (M : Mem) (p1 : Int64) (p3 : Int)   (X : ((Int) ⊕ (Bool)) → Prop) (hX1 : ∀ (x4 : Int), X (.inl (x4)) → Ex G 1 cX8_canType RX8 6 39 [(1, vL p1), (3, vI p3), (4, vI x4)] [] M) (hX2 : ∀ (r : Bool), X (.inr r) → RetI G 1 cX8_canType RX8 6 (bI r) M) : ∀ (nn : Nat) (x4 : Int) (out : (Int) ⊕ (Bool)), itr (fun s => m_X8_canType_L3 M p1 p3 s) nn (x4) = some out → X out → Ex G 1 cX8_canType RX8 6 3 [(1, vL p1), (3, vI p3), (4, vI x4)] [] M := by
  intro nn
  induction nn with
  | zero =>
    intro x4 out h _
    cases h
  | succ nn ih =>
    intro x4 out h0 hX
    obtain ⟨w, h, k1, k2⟩ := itr_inv h0
    have h : m_X8_canType_L3 M p1 p3 x4 = some w := h
    unfold m_X8_canType_L3 at h
    refine r_iload dX8_canType_3 2 rfl ?_
    refine r_iload_n dX8_canType_5 rfl 1 rfl ?_
    by_cases c1 : wr p3 ≤ wr x4
    · rw [if_pos c1] at h
      refine r_icmp_ge (tgt := 39) dX8_canType_6 (by decide) (fun _ => ?_) (fun q => absurd c1 q)
      cases h
      cases k2 _ rfl
      exact hX1 _ hX
    · rw [if_neg c1] at h
      refine r_icmp_ge (tgt := 39) dX8_canType_6 (by decide) (fun q => absurd q c1) (fun _ => ?_)
      refine r_lload_n dX8_canType_9 rfl 0 rfl ?_
      refine r_iload dX8_canType_10 2 rfl ?_
      refine r_callSI (st := []) dX8_canType_12 v_X8_21 (run_X8_byteAt rfl) (by decide) (by decide) rfl (Nat.le_of_ble_eq_true rfl) rfl ?_
      refine r_istore (lv2 := [(5, vI (m_X8_byteAt p1 x4)), (1, vL p1), (3, vI p3), (4, vI x4)]) dX8_canType_15 (by decide) rfl ?_
      refine r_iload dX8_canType_17 0 rfl ?_
      refine r_bipush dX8_canType_19 (by decide) ?_
      by_cases c2 : wr (m_X8_byteAt p1 x4) < wr 32
      · rw [if_pos c2] at h
        refine r_icmp_lt (tgt := 31) dX8_canType_21 (by decide) (fun _ => ?_) (fun q => absurd c2 q)
        refine r_iconst dX8_canType_31 ?_
        cases h
        cases k2 _ rfl
        exact hX2 _ hX _ _ dX8_canType_32
      · rw [if_neg c2] at h
        refine r_icmp_lt (tgt := 31) dX8_canType_21 (by decide) (fun q => absurd q c2) (fun _ => ?_)
        refine r_iload dX8_canType_24 0 rfl ?_
        refine r_bipush dX8_canType_26 (by decide) ?_
        by_cases c3 : wr (m_X8_byteAt p1 x4) ≤ wr 126
        · rw [if_pos c3] at h
          refine r_icmp_le (tgt := 33) dX8_canType_28 (by decide) (fun _ => ?_) (fun q => absurd c3 q)
          refine r_iinc (lv2 := [(4, vI (x4 + 1)), (5, vI (m_X8_byteAt p1 x4)), (1, vL p1), (3, vI p3)]) dX8_canType_33 3 rfl (by decide) rfl ?_
          refine r_goto (tgt := 3) dX8_canType_36 (by decide) ?_
          refine r_sub (lv2 := [(1, vL p1), (3, vI p3), (4, vI (x4 + 1))]) [2, 3, 0] rfl ?_
          cases h
          exact ih _  _ (k1 _ rfl) hX
        · rw [if_neg c3] at h
          refine r_icmp_le (tgt := 33) dX8_canType_28 (by decide) (fun q => absurd q c3) (fun _ => ?_)
          refine r_iconst dX8_canType_31 ?_
          cases h
          cases k2 _ rfl
          exact hX2 _ hX _ _ dX8_canType_32

set_option maxRecDepth 10000 in
theorem run_X8_canType {M : Mem} {a1 : Int64} {a2 : Int} {r : Bool}   (h : m_X8_canType M a1 a2 = some r) : RunI 1 yX8_canType cX8_canType 6 (some .boolean) [vR 5, vL a1, vI a2] M (bI r) M := by
  refine runI_of (lv := [(0, vR 5), (1, vL a1), (3, vI a2)]) (by decide +kernel) (Or.inr ⟨rfl, bI_01 r⟩) (Nat.le_of_ble_eq_true rfl) rfl ?_
  intro G hQ
  unfold m_X8_canType at h
  refine r_iconst dX8_canType_0 ?_
  refine r_istore (lv2 := [(4, vI 0), (0, vR 5), (1, vL a1), (3, vI a2)]) dX8_canType_1 (by decide) rfl ?_
  obtain ⟨w9, h9, h⟩ := of_be1 h
  refine r_sub (lv2 := [(1, vL a1), (3, vI a2), (4, vI 0)]) [2, 3, 0] rfl ?_
  refine lp_X8_canType_L3 M a1 a2  (fun w => w = w9) ?_ ?_ FU 0 w9 h9 rfl
  · intro y4 hw
    subst hw
    have h := h.1 _  rfl
    refine r_iconst dX8_canType_39 ?_
    cases h
    exact hQ _ _ dX8_canType_40
  · intro r9 hw
    subst hw
    have h := h.2 _ rfl
    cases h
    exact hQ

def m_X8_append_L5 (M : Mem) (p1 : Int64) (x4 : Int) : Option ((Int × Mem) ⊕ (Int × Mem)) :=
  if wr x4 < 0 then
    some (.inr (x4, M))
  else
    lt (sI M 5 2 ((gI M 5 2) + 1)) fun M2 =>
    if 0 ≤ wr (gI M 5 2) ∧ wr (gI M 5 2) < 90 then
    lt (sI M2 6 (wr (gI M 5 2)) (m_X8_byteAt p1 x4)) fun M4 =>
    some (.inl ((x4 + (-1)), M4))
    else none
def m_X8_append (M : Mem) (a1 : Int64) (a2 : Int) : Option (Int × Mem) :=
  bd2 (itr (fun s => m_X8_append_L5 s.2 a1 s.1) FU ((a2 - 1), M)) fun y5 M6 =>
  some ((gI M6 5 2), M6)
set_option maxRecDepth 10000 in
theorem lp_X8_append_L5 {G : Gx} (p1 : Int64)   (X : (Int × Mem) → Prop) (hX1 : ∀ (x4 : Int) (M : Mem), X (x4, M) → Ex G 1 cX8_append RX8 5 38 [(0, vR 5), (1, vL p1), (4, vI x4)] [] M) : ∀ (nn : Nat) (x4 : Int) (M : Mem) (out : Int × Mem), itr (fun s => m_X8_append_L5 s.2 p1 s.1) nn (x4, M) = some out → X out → Ex G 1 cX8_append RX8 5 5 [(0, vR 5), (1, vL p1), (4, vI x4)] [] M := by
  intro nn
  induction nn with
  | zero =>
    intro x4 M out h _
    cases h
  | succ nn ih =>
    intro x4 M out h0 hX
    obtain ⟨w, h, k1, k2⟩ := itr_inv h0
    have h : m_X8_append_L5 M p1 x4 = some w := h
    unfold m_X8_append_L5 at h
    refine r_iload dX8_append_5 2 rfl ?_
    by_cases c1 : wr x4 < 0
    · rw [if_pos c1] at h
      refine r_if_lt (tgt := 38) dX8_append_7 (by decide) (fun _ => ?_) (fun q => absurd c1 q)
      cases h
      cases k2 _ rfl
      exact hX1 _ _ hX
    · rw [if_neg c1] at h
      refine r_if_lt (tgt := 38) dX8_append_7 (by decide) (fun q => absurd q c1) (fun _ => ?_)
      refine r_aload_n dX8_append_10 rfl 0 rfl ?_
      refine r_getR (j := 0) (v := 6) dX8_append_11 f_X8_9 rfl rfl rfl ?_
      refine r_aload_n dX8_append_14 rfl 0 rfl ?_
      refine r_dup dX8_append_15 rfl ?_
      refine r_getI (j := 2) (jz := 2) dX8_append_16 f_X8_25 rfl rfl rfl ?_
      refine r_dup_x1 dX8_append_19 rfl rfl ?_
      refine r_iconst dX8_append_20 ?_
      refine r_iadd dX8_append_21 ?_
      obtain ⟨M2, eM2, h⟩ := of_lt h
      refine r_putI (j := 2) (jz := 2) dX8_append_22 p_X8_25 rfl rfl rfl rfl rfl ?_
      rw [← eM2]
      refine r_lload_n dX8_append_25 rfl 1 rfl ?_
      refine r_iload dX8_append_26 2 rfl ?_
      refine r_callSI (st := [vI (gI M 5 2), vR 6]) dX8_append_28 v_X8_21 (run_X8_byteAt rfl) (by decide) (by decide) rfl (Nat.le_of_ble_eq_true rfl) rfl ?_
      obtain ⟨c3, h⟩ := of_ck h
      obtain ⟨M4, eM4, h⟩ := of_lt h
      refine r_iast dX8_append_31 rfl c3 ?_
      rw [← eM4]
      refine r_iinc (lv2 := [(4, vI (x4 + (-1))), (0, vR 5), (1, vL p1)]) dX8_append_32 2 rfl (by decide) rfl ?_
      refine r_goto (tgt := 5) dX8_append_35 (by decide) ?_
      refine r_sub (lv2 := [(0, vR 5), (1, vL p1), (4, vI (x4 + (-1)))]) [1, 2, 0] rfl ?_
      cases h
      exact ih _ _  _ (k1 _ rfl) hX

set_option maxRecDepth 10000 in
theorem run_X8_append {M : Mem} {M2 : Mem} {a1 : Int64} {a2 : Int} {r : Int}   (h : m_X8_append M a1 a2 = some (r, M2)) : RunI 1 yX8_append cX8_append 5 (some .int) [vR 5, vL a1, vI a2] M r M2 := by
  refine runI_of (lv := [(0, vR 5), (1, vL a1), (3, vI a2)]) (by decide +kernel) (Or.inl rfl) (Nat.le_of_ble_eq_true rfl) rfl ?_
  intro G hQ
  unfold m_X8_append at h
  refine r_iload_n dX8_append_0 rfl 2 rfl ?_
  refine r_iconst dX8_append_1 ?_
  refine r_isub dX8_append_2 ?_
  refine r_istore (lv2 := [(4, vI (a2 - 1)), (0, vR 5), (1, vL a1), (3, vI a2)]) dX8_append_3 (by decide) rfl ?_
  obtain ⟨y5, M6, h9, h⟩ := of_bd2 h
  refine r_sub (lv2 := [(0, vR 5), (1, vL a1), (4, vI (a2 - 1))]) [1, 2, 0] rfl ?_
  refine lp_X8_append_L5 a1  (fun w => w = (y5, M6)) ?_ FU (a2 - 1) M _ h9 rfl
  intro z0 z1 hw
  cases hw
  refine r_aload_n dX8_append_38 rfl 0 rfl ?_
  refine r_getI (j := 2) (jz := 2) dX8_append_39 f_X8_25 rfl rfl rfl ?_
  cases h
  exact hQ _ _ dX8_append_42

def m_X8_isOpenAt (M : Mem) (a1 : Int) (a2 : Int) : Option (Bool) :=
  if 0 ≤ wr ((a2 * 8) + a1) ∧ wr ((a2 * 8) + a1) < 64 then
  if (gI M 7 (wr ((a2 * 8) + a1))) = 0 ∨ (gI M 7 (wr ((a2 * 8) + a1))) = 1 then some (decide ((gI M 7 (wr ((a2 * 8) + a1))) = 1)) else none
  else none
set_option maxRecDepth 10000 in
theorem run_X8_isOpenAt {M : Mem} {a1 : Int} {a2 : Int} {r : Bool}   (h : m_X8_isOpenAt M a1 a2 = some r) : RunI 0 yX8_isOpenAt cX8_isOpenAt 3 (some .boolean) [vR 5, vI a1, vI a2] M (bI r) M := by
  refine runI_of (lv := [(0, vR 5), (1, vI a1), (2, vI a2)]) (by decide +kernel) (Or.inr ⟨rfl, bI_01 r⟩) (Nat.le_of_ble_eq_true rfl) rfl ?_
  intro G hQ
  unfold m_X8_isOpenAt at h
  refine r_aload_n dX8_isOpenAt_0 rfl 0 rfl ?_
  refine r_getR (j := 1) (v := 7) dX8_isOpenAt_1 f_X8_15 rfl rfl rfl ?_
  refine r_iload_n dX8_isOpenAt_4 rfl 2 rfl ?_
  refine r_bipush dX8_isOpenAt_5 (by decide) ?_
  refine r_imul dX8_isOpenAt_7 ?_
  refine r_iload_n dX8_isOpenAt_8 rfl 1 rfl ?_
  refine r_iadd dX8_isOpenAt_9 ?_
  obtain ⟨c1, h⟩ := of_ck h
  refine r_zald dX8_isOpenAt_10 rfl c1 ?_
  obtain ⟨cz, h⟩ := of_ck h
  rw [← bI_dec cz]
  cases h
  exact hQ _ _ dX8_isOpenAt_11

def m_X8_isRowEnd (M : Mem) (a1 : Int) (a2 : Int) : Option (Bool) :=
  lt (if wr a1 = 0 then (if wr a2 ≤ 0 then 0 else 1) else (if wr a2 = wr (gI M 5 3) then 1 else 0)) fun (v4 : Int) =>
  if v4 = 0 ∨ v4 = 1 then some (decide (v4 = 1)) else none
set_option maxRecDepth 10000 in
theorem run_X8_isRowEnd {M : Mem} {a1 : Int} {a2 : Int} {r : Bool}   (h : m_X8_isRowEnd M a1 a2 = some r) : RunI 0 yX8_isRowEnd cX8_isRowEnd 3 (some .boolean) [vR 5, vI a1, vI a2] M (bI r) M := by
  refine runI_of (lv := [(0, vR 5), (1, vI a1), (2, vI a2)]) (by decide +kernel) (Or.inr ⟨rfl, bI_01 r⟩) (Nat.le_of_ble_eq_true rfl) rfl ?_
  intro G hQ
  unfold m_X8_isRowEnd at h
  refine r_iload_n dX8_isRowEnd_0 rfl 1 rfl ?_
  obtain ⟨v4, ev4, h⟩ := of_lt h
  have kJ : Ex G 0 cX8_isRowEnd RX8 3 29 [] [vI v4] M := by
    obtain ⟨cz, h⟩ := of_ck h
    rw [← bI_dec cz]
    cases h
    exact hQ _ _ dX8_isRowEnd_29
  clear h
  by_cases c1 : wr a1 = 0
  · skip
    refine r_if_ne (tgt := 16) dX8_isRowEnd_1 (by decide) (fun q => absurd c1 q) (fun _ => ?_)
    refine r_iload_n dX8_isRowEnd_4 rfl 2 rfl ?_
    by_cases c3 : wr a2 ≤ 0
    · skip
      refine r_if_le (tgt := 12) dX8_isRowEnd_5 (by decide) (fun _ => ?_) (fun q => absurd c3 q)
      refine r_iconst dX8_isRowEnd_12 ?_
      refine r_goto (tgt := 29) dX8_isRowEnd_13 (by decide) ?_
      rw [show v4 = 0 from by rw [ev4, if_pos c1, if_pos c3]] at kJ
      refine r_sub (lv2 := []) [] rfl ?_
      exact kJ
    · skip
      refine r_if_le (tgt := 12) dX8_isRowEnd_5 (by decide) (fun q => absurd q c3) (fun _ => ?_)
      refine r_iconst dX8_isRowEnd_8 ?_
      refine r_goto (tgt := 29) dX8_isRowEnd_9 (by decide) ?_
      rw [show v4 = 1 from by rw [ev4, if_pos c1, if_neg c3]] at kJ
      refine r_sub (lv2 := []) [] rfl ?_
      exact kJ
  · skip
    refine r_if_ne (tgt := 16) dX8_isRowEnd_1 (by decide) (fun _ => ?_) (fun q => absurd q c1)
    refine r_iload_n dX8_isRowEnd_16 rfl 2 rfl ?_
    refine r_aload_n dX8_isRowEnd_17 rfl 0 rfl ?_
    refine r_getI (j := 3) (jz := 3) dX8_isRowEnd_18 f_X8_29 rfl rfl rfl ?_
    by_cases c2 : wr a2 = wr (gI M 5 3)
    · skip
      refine r_icmp_ne (tgt := 28) dX8_isRowEnd_21 (by decide) (fun q => absurd c2 q) (fun _ => ?_)
      refine r_iconst dX8_isRowEnd_24 ?_
      refine r_goto (tgt := 29) dX8_isRowEnd_25 (by decide) ?_
      rw [show v4 = 1 from by rw [ev4, if_neg c1, if_pos c2]] at kJ
      refine r_sub (lv2 := []) [] rfl ?_
      exact kJ
    · skip
      refine r_icmp_ne (tgt := 28) dX8_isRowEnd_21 (by decide) (fun _ => ?_) (fun q => absurd q c2)
      refine r_iconst dX8_isRowEnd_28 ?_
      rw [show v4 = 0 from by rw [ev4, if_neg c1, if_neg c2]] at kJ
      refine r_sub (lv2 := []) [] rfl ?_
      exact kJ

def m_X8_parse_L12 (M : Mem)  (x1 : Int) (x2 : Int) (x3 : Int) : Option ((Int × Int × Int × Mem) ⊕ ((Int × Int × Int × Mem) ⊕ (Int × Mem))) :=
  if wr (gI M 5 2) ≤ wr x3 then
    some (.inr (.inl (x1, x2, x3, M)))
  else
    if 0 ≤ wr x3 ∧ wr x3 < 90 then
    if wr (gI M 6 (wr x3)) = wr 32 then
      some (.inl (x1, x2, (x3 + 1), M))
    else
      if wr (gI M 6 (wr x3)) = wr 46 then
        if wr (gI M 5 3) ≤ wr x2 then
          if wr (gI M 6 (wr x3)) = wr 59 then
            bd1 (m_X8_isRowEnd M x1 x2) fun b9 =>
            if wr (bI b9) = 0 then
              some (.inr (.inr (((-20) - x3), M)))
            else
              if wr 7 ≤ wr x1 then
                some (.inr (.inr (((-20) - x3), M)))
              else
                lt (sI M 5 3 x2) fun M12 =>
                some (.inl ((x1 + 1), 0, (x3 + 1), M12))
          else
            some (.inr (.inr (((-20) - x3), M)))
        else
          lt (if wr (gI M 6 (wr x3)) = wr 46 then 1 else 0) fun (v14 : Int) =>
          if 0 ≤ wr ((x1 * 8) + x2) ∧ wr ((x1 * 8) + x2) < 64 then
          if v14 = 0 ∨ v14 = 1 then
          lt (sI M 7 (wr ((x1 * 8) + x2)) v14) fun M17 =>
          some (.inl (x1, (x2 + 1), (x3 + 1), M17))
          else none
          else none
      else
        if wr (gI M 6 (wr x3)) = wr 35 then
          if wr (gI M 5 3) ≤ wr x2 then
            if wr (gI M 6 (wr x3)) = wr 59 then
              bd1 (m_X8_isRowEnd M x1 x2) fun b28 =>
              if wr (bI b28) = 0 then
                some (.inr (.inr (((-20) - x3), M)))
              else
                if wr 7 ≤ wr x1 then
                  some (.inr (.inr (((-20) - x3), M)))
                else
                  lt (sI M 5 3 x2) fun M31 =>
                  some (.inl ((x1 + 1), 0, (x3 + 1), M31))
            else
              some (.inr (.inr (((-20) - x3), M)))
          else
            lt (if wr (gI M 6 (wr x3)) = wr 46 then 1 else 0) fun (v33 : Int) =>
            if 0 ≤ wr ((x1 * 8) + x2) ∧ wr ((x1 * 8) + x2) < 64 then
            if v33 = 0 ∨ v33 = 1 then
            lt (sI M 7 (wr ((x1 * 8) + x2)) v33) fun M36 =>
            some (.inl (x1, (x2 + 1), (x3 + 1), M36))
            else none
            else none
        else
          if wr (gI M 6 (wr x3)) = wr 59 then
            bd1 (m_X8_isRowEnd M x1 x2) fun b21 =>
            if wr (bI b21) = 0 then
              some (.inr (.inr (((-20) - x3), M)))
            else
              if wr 7 ≤ wr x1 then
                some (.inr (.inr (((-20) - x3), M)))
              else
                lt (sI M 5 3 x2) fun M24 =>
                some (.inl ((x1 + 1), 0, (x3 + 1), M24))
          else
            some (.inr (.inr (((-20) - x3), M)))
    else none
def m_X8_parse (M : Mem) : Option (Int × Mem) :=
  lt (sI M 5 3 8) fun M1 =>
  be4 (itr (fun s => m_X8_parse_L12 s.2.2.2  s.1 s.2.1 s.2.2.1) FU (0, 0, 0, M1)) (fun y37 y38 y39 M40 =>
  bd1 (m_X8_isRowEnd M40 y37 y38) fun b42 =>
  if wr (bI b42) = 0 then
    some (((-20) - (gI M40 5 2)), M40)
  else
    lt (sI M40 5 3 y38) fun M44 =>
    lt (sI M44 5 4 (y37 + 1)) fun M45 =>
    some (0, M45))
set_option maxRecDepth 10000 in
theorem lp_X8_parse_L12 {G : Gx}    (X : ((Int × Int × Int × Mem) ⊕ (Int × Mem)) → Prop) (hX1 : ∀ (x1 : Int) (x2 : Int) (x3 : Int) (M : Mem), X (.inl (x1, x2, x3, M)) → Ex G 1 cX8_parse RX8 5 135 [(0, vR 5), (1, vI x1), (2, vI x2), (3, vI x3)] [] M) (hX2 : ∀ (r : Int) (M2 : Mem), X (.inr (r, M2)) → RetI G 1 cX8_parse RX8 5 r M2) : ∀ (nn : Nat) (x1 : Int) (x2 : Int) (x3 : Int) (M : Mem) (out : (Int × Int × Int × Mem) ⊕ (Int × Mem)), itr (fun s => m_X8_parse_L12 s.2.2.2  s.1 s.2.1 s.2.2.1) nn (x1, x2, x3, M) = some out → X out → Ex G 1 cX8_parse RX8 5 12 [(0, vR 5), (1, vI x1), (2, vI x2), (3, vI x3)] [] M := by
  intro nn
  induction nn with
  | zero =>
    intro x1 x2 x3 M out h _
    cases h
  | succ nn ih =>
    intro x1 x2 x3 M out h0 hX
    obtain ⟨w, h, k1, k2⟩ := itr_inv h0
    have h : m_X8_parse_L12 M  x1 x2 x3 = some w := h
    unfold m_X8_parse_L12 at h
    refine r_iload_n dX8_parse_12 rfl 3 rfl ?_
    refine r_aload_n dX8_parse_13 rfl 0 rfl ?_
    refine r_getI (j := 2) (jz := 2) dX8_parse_14 f_X8_25 rfl rfl rfl ?_
    by_cases c2 : wr (gI M 5 2) ≤ wr x3
    · rw [if_pos c2] at h
      refine r_icmp_ge (tgt := 135) dX8_parse_17 (by decide) (fun _ => ?_) (fun q => absurd c2 q)
      cases h
      cases k2 _ rfl
      exact hX1 _ _ _ _ hX
    · rw [if_neg c2] at h
      refine r_icmp_ge (tgt := 135) dX8_parse_17 (by decide) (fun q => absurd q c2) (fun _ => ?_)
      refine r_aload_n dX8_parse_20 rfl 0 rfl ?_
      refine r_getR (j := 0) (v := 6) dX8_parse_21 f_X8_9 rfl rfl rfl ?_
      refine r_iload_n dX8_parse_24 rfl 3 rfl ?_
      obtain ⟨c3, h⟩ := of_ck h
      refine r_iald dX8_parse_25 rfl c3 ?_
      refine r_istore (lv2 := [(4, vI (gI M 6 (wr x3))), (0, vR 5), (1, vI x1), (2, vI x2), (3, vI x3)]) dX8_parse_26 (by decide) rfl ?_
      refine r_iload dX8_parse_28 0 rfl ?_
      refine r_bipush dX8_parse_30 (by decide) ?_
      by_cases c4 : wr (gI M 6 (wr x3)) = wr 32
      · rw [if_pos c4] at h
        refine r_icmp_ne (tgt := 38) dX8_parse_32 (by decide) (fun q => absurd c4 q) (fun _ => ?_)
        refine r_goto (tgt := 129) dX8_parse_35 (by decide) ?_
        refine r_iinc (lv2 := [(3, vI (x3 + 1)), (4, vI (gI M 6 (wr x3))), (0, vR 5), (1, vI x1), (2, vI x2)]) dX8_parse_129 4 rfl (by decide) rfl ?_
        refine r_goto (tgt := 12) dX8_parse_132 (by decide) ?_
        refine r_sub (lv2 := [(0, vR 5), (1, vI x1), (2, vI x2), (3, vI (x3 + 1))]) [2, 3, 4, 0] rfl ?_
        cases h
        exact ih _ _ _ _  _ (k1 _ rfl) hX
      · rw [if_neg c4] at h
        refine r_icmp_ne (tgt := 38) dX8_parse_32 (by decide) (fun _ => ?_) (fun q => absurd q c4)
        refine r_iload dX8_parse_38 0 rfl ?_
        refine r_bipush dX8_parse_40 (by decide) ?_
        by_cases c5 : wr (gI M 6 (wr x3)) = wr 46
        · rw [if_pos c5] at h
          refine r_icmp_eq (tgt := 52) dX8_parse_42 (by decide) (fun _ => ?_) (fun q => absurd c5 q)
          refine r_iload_n dX8_parse_52 rfl 3 rfl ?_
          refine r_aload_n dX8_parse_53 rfl 1 rfl ?_
          refine r_getI (j := 3) (jz := 3) dX8_parse_54 f_X8_29 rfl rfl rfl ?_
          by_cases c6 : wr (gI M 5 3) ≤ wr x2
          · rw [if_pos c6] at h
            refine r_icmp_ge (tgt := 89) dX8_parse_57 (by decide) (fun _ => ?_) (fun q => absurd c6 q)
            refine r_iload dX8_parse_89 0 rfl ?_
            refine r_bipush dX8_parse_91 (by decide) ?_
            by_cases c7 : wr (gI M 6 (wr x3)) = wr 59
            · rw [if_pos c7] at h
              refine r_icmp_ne (tgt := 124) dX8_parse_93 (by decide) (fun q => absurd c7 q) (fun _ => ?_)
              refine r_aload_n dX8_parse_96 rfl 1 rfl ?_
              refine r_iload_n dX8_parse_97 rfl 2 rfl ?_
              refine r_iload_n dX8_parse_98 rfl 3 rfl ?_
              obtain ⟨b9, hc8, h⟩ := of_bd1 h
              refine r_callVI (st := []) dX8_parse_99 v_X8_32 (run_X8_isRowEnd hc8) (by decide) (by decide) rfl rfl (Nat.le_of_ble_eq_true rfl) rfl ?_
              by_cases c10 : wr (bI b9) = 0
              · rw [if_pos c10] at h
                refine r_if_eq (tgt := 124) dX8_parse_102 (by decide) (fun _ => ?_) (fun q => absurd c10 q)
                refine r_bipush dX8_parse_124 (by decide) ?_
                refine r_iload_n dX8_parse_126 rfl 4 rfl ?_
                refine r_isub dX8_parse_127 ?_
                cases h
                cases k2 _ rfl
                exact hX2 _ _ hX _ _ dX8_parse_128
              · rw [if_neg c10] at h
                refine r_if_eq (tgt := 124) dX8_parse_102 (by decide) (fun q => absurd q c10) (fun _ => ?_)
                refine r_iload_n dX8_parse_105 rfl 2 rfl ?_
                refine r_bipush dX8_parse_106 (by decide) ?_
                by_cases c11 : wr 7 ≤ wr x1
                · rw [if_pos c11] at h
                  refine r_icmp_ge (tgt := 124) dX8_parse_108 (by decide) (fun _ => ?_) (fun q => absurd c11 q)
                  refine r_bipush dX8_parse_124 (by decide) ?_
                  refine r_iload_n dX8_parse_126 rfl 4 rfl ?_
                  refine r_isub dX8_parse_127 ?_
                  cases h
                  cases k2 _ rfl
                  exact hX2 _ _ hX _ _ dX8_parse_128
                · rw [if_neg c11] at h
                  refine r_icmp_ge (tgt := 124) dX8_parse_108 (by decide) (fun q => absurd q c11) (fun _ => ?_)
                  refine r_aload_n dX8_parse_111 rfl 1 rfl ?_
                  refine r_iload_n dX8_parse_112 rfl 3 rfl ?_
                  obtain ⟨M12, eM12, h⟩ := of_lt h
                  refine r_putI (j := 3) (jz := 3) dX8_parse_113 p_X8_29 rfl rfl rfl rfl rfl ?_
                  rw [← eM12]
                  refine r_iinc (lv2 := [(1, vI (x1 + 1)), (4, vI (gI M 6 (wr x3))), (0, vR 5), (2, vI x2), (3, vI x3)]) dX8_parse_116 2 rfl (by decide) rfl ?_
                  refine r_iconst dX8_parse_119 ?_
                  refine r_istore_n (lv2 := [(2, vI 0), (1, vI (x1 + 1)), (4, vI (gI M 6 (wr x3))), (0, vR 5), (3, vI x3)]) dX8_parse_120 rfl (by decide) rfl ?_
                  refine r_goto (tgt := 129) dX8_parse_121 (by decide) ?_
                  refine r_iinc (lv2 := [(3, vI (x3 + 1)), (2, vI 0), (1, vI (x1 + 1)), (4, vI (gI M 6 (wr x3))), (0, vR 5)]) dX8_parse_129 4 rfl (by decide) rfl ?_
                  refine r_goto (tgt := 12) dX8_parse_132 (by decide) ?_
                  refine r_sub (lv2 := [(0, vR 5), (1, vI (x1 + 1)), (2, vI 0), (3, vI (x3 + 1))]) [4, 2, 1, 0] rfl ?_
                  cases h
                  exact ih _ _ _ _  _ (k1 _ rfl) hX
            · rw [if_neg c7] at h
              refine r_icmp_ne (tgt := 124) dX8_parse_93 (by decide) (fun _ => ?_) (fun q => absurd q c7)
              refine r_bipush dX8_parse_124 (by decide) ?_
              refine r_iload_n dX8_parse_126 rfl 4 rfl ?_
              refine r_isub dX8_parse_127 ?_
              cases h
              cases k2 _ rfl
              exact hX2 _ _ hX _ _ dX8_parse_128
          · rw [if_neg c6] at h
            refine r_icmp_ge (tgt := 89) dX8_parse_57 (by decide) (fun q => absurd q c6) (fun _ => ?_)
            refine r_aload_n dX8_parse_60 rfl 1 rfl ?_
            refine r_getR (j := 1) (v := 7) dX8_parse_61 f_X8_15 rfl rfl rfl ?_
            refine r_iload_n dX8_parse_64 rfl 2 rfl ?_
            refine r_bipush dX8_parse_65 (by decide) ?_
            refine r_imul dX8_parse_67 ?_
            refine r_iload_n dX8_parse_68 rfl 3 rfl ?_
            refine r_iadd dX8_parse_69 ?_
            refine r_iload dX8_parse_70 0 rfl ?_
            refine r_bipush dX8_parse_72 (by decide) ?_
            obtain ⟨v14, ev14, h⟩ := of_lt h
            have kJ : Ex G 1 cX8_parse RX8 5 82 [(0, vR 5), (1, vI x1), (2, vI x2), (3, vI x3)] [vI v14, vI ((x1 * 8) + x2), vR 7] M := by
              obtain ⟨c15, h⟩ := of_ck h
              obtain ⟨c16, h⟩ := of_ck h
              obtain ⟨M17, eM17, h⟩ := of_lt h
              refine r_zast dX8_parse_82 rfl c15 c16 ?_
              rw [← eM17]
              refine r_iinc (lv2 := [(2, vI (x2 + 1)), (0, vR 5), (1, vI x1), (3, vI x3)]) dX8_parse_83 2 rfl (by decide) rfl ?_
              refine r_goto (tgt := 129) dX8_parse_86 (by decide) ?_
              refine r_iinc (lv2 := [(3, vI (x3 + 1)), (2, vI (x2 + 1)), (0, vR 5), (1, vI x1)]) dX8_parse_129 3 rfl (by decide) rfl ?_
              refine r_goto (tgt := 12) dX8_parse_132 (by decide) ?_
              refine r_sub (lv2 := [(0, vR 5), (1, vI x1), (2, vI (x2 + 1)), (3, vI (x3 + 1))]) [2, 3, 1, 0] rfl ?_
              cases h
              exact ih _ _ _ _  _ (k1 _ rfl) hX
            clear h
            by_cases c13 : wr (gI M 6 (wr x3)) = wr 46
            · skip
              refine r_icmp_ne (tgt := 81) dX8_parse_74 (by decide) (fun q => absurd c13 q) (fun _ => ?_)
              refine r_iconst dX8_parse_77 ?_
              refine r_goto (tgt := 82) dX8_parse_78 (by decide) ?_
              rw [show v14 = 1 from by rw [ev14, if_pos c13]] at kJ
              refine r_sub (lv2 := [(0, vR 5), (1, vI x1), (2, vI x2), (3, vI x3)]) [1, 2, 3, 4] rfl ?_
              exact kJ
            · skip
              refine r_icmp_ne (tgt := 81) dX8_parse_74 (by decide) (fun _ => ?_) (fun q => absurd q c13)
              refine r_iconst dX8_parse_81 ?_
              rw [show v14 = 0 from by rw [ev14, if_neg c13]] at kJ
              refine r_sub (lv2 := [(0, vR 5), (1, vI x1), (2, vI x2), (3, vI x3)]) [1, 2, 3, 4] rfl ?_
              exact kJ
        · rw [if_neg c5] at h
          refine r_icmp_eq (tgt := 52) dX8_parse_42 (by decide) (fun q => absurd q c5) (fun _ => ?_)
          refine r_iload dX8_parse_45 0 rfl ?_
          refine r_bipush dX8_parse_47 (by decide) ?_
          by_cases c18 : wr (gI M 6 (wr x3)) = wr 35
          · rw [if_pos c18] at h
            refine r_icmp_ne (tgt := 89) dX8_parse_49 (by decide) (fun q => absurd c18 q) (fun _ => ?_)
            refine r_iload_n dX8_parse_52 rfl 3 rfl ?_
            refine r_aload_n dX8_parse_53 rfl 1 rfl ?_
            refine r_getI (j := 3) (jz := 3) dX8_parse_54 f_X8_29 rfl rfl rfl ?_
            by_cases c25 : wr (gI M 5 3) ≤ wr x2
            · rw [if_pos c25] at h
              refine r_icmp_ge (tgt := 89) dX8_parse_57 (by decide) (fun _ => ?_) (fun q => absurd c25 q)
              refine r_iload dX8_parse_89 0 rfl ?_
              refine r_bipush dX8_parse_91 (by decide) ?_
              by_cases c26 : wr (gI M 6 (wr x3)) = wr 59
              · rw [if_pos c26] at h
                refine r_icmp_ne (tgt := 124) dX8_parse_93 (by decide) (fun q => absurd c26 q) (fun _ => ?_)
                refine r_aload_n dX8_parse_96 rfl 1 rfl ?_
                refine r_iload_n dX8_parse_97 rfl 2 rfl ?_
                refine r_iload_n dX8_parse_98 rfl 3 rfl ?_
                obtain ⟨b28, hc27, h⟩ := of_bd1 h
                refine r_callVI (st := []) dX8_parse_99 v_X8_32 (run_X8_isRowEnd hc27) (by decide) (by decide) rfl rfl (Nat.le_of_ble_eq_true rfl) rfl ?_
                by_cases c29 : wr (bI b28) = 0
                · rw [if_pos c29] at h
                  refine r_if_eq (tgt := 124) dX8_parse_102 (by decide) (fun _ => ?_) (fun q => absurd c29 q)
                  refine r_bipush dX8_parse_124 (by decide) ?_
                  refine r_iload_n dX8_parse_126 rfl 4 rfl ?_
                  refine r_isub dX8_parse_127 ?_
                  cases h
                  cases k2 _ rfl
                  exact hX2 _ _ hX _ _ dX8_parse_128
                · rw [if_neg c29] at h
                  refine r_if_eq (tgt := 124) dX8_parse_102 (by decide) (fun q => absurd q c29) (fun _ => ?_)
                  refine r_iload_n dX8_parse_105 rfl 2 rfl ?_
                  refine r_bipush dX8_parse_106 (by decide) ?_
                  by_cases c30 : wr 7 ≤ wr x1
                  · rw [if_pos c30] at h
                    refine r_icmp_ge (tgt := 124) dX8_parse_108 (by decide) (fun _ => ?_) (fun q => absurd c30 q)
                    refine r_bipush dX8_parse_124 (by decide) ?_
                    refine r_iload_n dX8_parse_126 rfl 4 rfl ?_
                    refine r_isub dX8_parse_127 ?_
                    cases h
                    cases k2 _ rfl
                    exact hX2 _ _ hX _ _ dX8_parse_128
                  · rw [if_neg c30] at h
                    refine r_icmp_ge (tgt := 124) dX8_parse_108 (by decide) (fun q => absurd q c30) (fun _ => ?_)
                    refine r_aload_n dX8_parse_111 rfl 1 rfl ?_
                    refine r_iload_n dX8_parse_112 rfl 3 rfl ?_
                    obtain ⟨M31, eM31, h⟩ := of_lt h
                    refine r_putI (j := 3) (jz := 3) dX8_parse_113 p_X8_29 rfl rfl rfl rfl rfl ?_
                    rw [← eM31]
                    refine r_iinc (lv2 := [(1, vI (x1 + 1)), (4, vI (gI M 6 (wr x3))), (0, vR 5), (2, vI x2), (3, vI x3)]) dX8_parse_116 2 rfl (by decide) rfl ?_
                    refine r_iconst dX8_parse_119 ?_
                    refine r_istore_n (lv2 := [(2, vI 0), (1, vI (x1 + 1)), (4, vI (gI M 6 (wr x3))), (0, vR 5), (3, vI x3)]) dX8_parse_120 rfl (by decide) rfl ?_
                    refine r_goto (tgt := 129) dX8_parse_121 (by decide) ?_
                    refine r_iinc (lv2 := [(3, vI (x3 + 1)), (2, vI 0), (1, vI (x1 + 1)), (4, vI (gI M 6 (wr x3))), (0, vR 5)]) dX8_parse_129 4 rfl (by decide) rfl ?_
                    refine r_goto (tgt := 12) dX8_parse_132 (by decide) ?_
                    refine r_sub (lv2 := [(0, vR 5), (1, vI (x1 + 1)), (2, vI 0), (3, vI (x3 + 1))]) [4, 2, 1, 0] rfl ?_
                    cases h
                    exact ih _ _ _ _  _ (k1 _ rfl) hX
              · rw [if_neg c26] at h
                refine r_icmp_ne (tgt := 124) dX8_parse_93 (by decide) (fun _ => ?_) (fun q => absurd q c26)
                refine r_bipush dX8_parse_124 (by decide) ?_
                refine r_iload_n dX8_parse_126 rfl 4 rfl ?_
                refine r_isub dX8_parse_127 ?_
                cases h
                cases k2 _ rfl
                exact hX2 _ _ hX _ _ dX8_parse_128
            · rw [if_neg c25] at h
              refine r_icmp_ge (tgt := 89) dX8_parse_57 (by decide) (fun q => absurd q c25) (fun _ => ?_)
              refine r_aload_n dX8_parse_60 rfl 1 rfl ?_
              refine r_getR (j := 1) (v := 7) dX8_parse_61 f_X8_15 rfl rfl rfl ?_
              refine r_iload_n dX8_parse_64 rfl 2 rfl ?_
              refine r_bipush dX8_parse_65 (by decide) ?_
              refine r_imul dX8_parse_67 ?_
              refine r_iload_n dX8_parse_68 rfl 3 rfl ?_
              refine r_iadd dX8_parse_69 ?_
              refine r_iload dX8_parse_70 0 rfl ?_
              refine r_bipush dX8_parse_72 (by decide) ?_
              obtain ⟨v33, ev33, h⟩ := of_lt h
              have kJ : Ex G 1 cX8_parse RX8 5 82 [(0, vR 5), (1, vI x1), (2, vI x2), (3, vI x3)] [vI v33, vI ((x1 * 8) + x2), vR 7] M := by
                obtain ⟨c34, h⟩ := of_ck h
                obtain ⟨c35, h⟩ := of_ck h
                obtain ⟨M36, eM36, h⟩ := of_lt h
                refine r_zast dX8_parse_82 rfl c34 c35 ?_
                rw [← eM36]
                refine r_iinc (lv2 := [(2, vI (x2 + 1)), (0, vR 5), (1, vI x1), (3, vI x3)]) dX8_parse_83 2 rfl (by decide) rfl ?_
                refine r_goto (tgt := 129) dX8_parse_86 (by decide) ?_
                refine r_iinc (lv2 := [(3, vI (x3 + 1)), (2, vI (x2 + 1)), (0, vR 5), (1, vI x1)]) dX8_parse_129 3 rfl (by decide) rfl ?_
                refine r_goto (tgt := 12) dX8_parse_132 (by decide) ?_
                refine r_sub (lv2 := [(0, vR 5), (1, vI x1), (2, vI (x2 + 1)), (3, vI (x3 + 1))]) [2, 3, 1, 0] rfl ?_
                cases h
                exact ih _ _ _ _  _ (k1 _ rfl) hX
              clear h
              by_cases c32 : wr (gI M 6 (wr x3)) = wr 46
              · skip
                refine r_icmp_ne (tgt := 81) dX8_parse_74 (by decide) (fun q => absurd c32 q) (fun _ => ?_)
                refine r_iconst dX8_parse_77 ?_
                refine r_goto (tgt := 82) dX8_parse_78 (by decide) ?_
                rw [show v33 = 1 from by rw [ev33, if_pos c32]] at kJ
                refine r_sub (lv2 := [(0, vR 5), (1, vI x1), (2, vI x2), (3, vI x3)]) [1, 2, 3, 4] rfl ?_
                exact kJ
              · skip
                refine r_icmp_ne (tgt := 81) dX8_parse_74 (by decide) (fun _ => ?_) (fun q => absurd q c32)
                refine r_iconst dX8_parse_81 ?_
                rw [show v33 = 0 from by rw [ev33, if_neg c32]] at kJ
                refine r_sub (lv2 := [(0, vR 5), (1, vI x1), (2, vI x2), (3, vI x3)]) [1, 2, 3, 4] rfl ?_
                exact kJ
          · rw [if_neg c18] at h
            refine r_icmp_ne (tgt := 89) dX8_parse_49 (by decide) (fun _ => ?_) (fun q => absurd q c18)
            refine r_iload dX8_parse_89 0 rfl ?_
            refine r_bipush dX8_parse_91 (by decide) ?_
            by_cases c19 : wr (gI M 6 (wr x3)) = wr 59
            · rw [if_pos c19] at h
              refine r_icmp_ne (tgt := 124) dX8_parse_93 (by decide) (fun q => absurd c19 q) (fun _ => ?_)
              refine r_aload_n dX8_parse_96 rfl 1 rfl ?_
              refine r_iload_n dX8_parse_97 rfl 2 rfl ?_
              refine r_iload_n dX8_parse_98 rfl 3 rfl ?_
              obtain ⟨b21, hc20, h⟩ := of_bd1 h
              refine r_callVI (st := []) dX8_parse_99 v_X8_32 (run_X8_isRowEnd hc20) (by decide) (by decide) rfl rfl (Nat.le_of_ble_eq_true rfl) rfl ?_
              by_cases c22 : wr (bI b21) = 0
              · rw [if_pos c22] at h
                refine r_if_eq (tgt := 124) dX8_parse_102 (by decide) (fun _ => ?_) (fun q => absurd c22 q)
                refine r_bipush dX8_parse_124 (by decide) ?_
                refine r_iload_n dX8_parse_126 rfl 4 rfl ?_
                refine r_isub dX8_parse_127 ?_
                cases h
                cases k2 _ rfl
                exact hX2 _ _ hX _ _ dX8_parse_128
              · rw [if_neg c22] at h
                refine r_if_eq (tgt := 124) dX8_parse_102 (by decide) (fun q => absurd q c22) (fun _ => ?_)
                refine r_iload_n dX8_parse_105 rfl 2 rfl ?_
                refine r_bipush dX8_parse_106 (by decide) ?_
                by_cases c23 : wr 7 ≤ wr x1
                · rw [if_pos c23] at h
                  refine r_icmp_ge (tgt := 124) dX8_parse_108 (by decide) (fun _ => ?_) (fun q => absurd c23 q)
                  refine r_bipush dX8_parse_124 (by decide) ?_
                  refine r_iload_n dX8_parse_126 rfl 4 rfl ?_
                  refine r_isub dX8_parse_127 ?_
                  cases h
                  cases k2 _ rfl
                  exact hX2 _ _ hX _ _ dX8_parse_128
                · rw [if_neg c23] at h
                  refine r_icmp_ge (tgt := 124) dX8_parse_108 (by decide) (fun q => absurd q c23) (fun _ => ?_)
                  refine r_aload_n dX8_parse_111 rfl 1 rfl ?_
                  refine r_iload_n dX8_parse_112 rfl 3 rfl ?_
                  obtain ⟨M24, eM24, h⟩ := of_lt h
                  refine r_putI (j := 3) (jz := 3) dX8_parse_113 p_X8_29 rfl rfl rfl rfl rfl ?_
                  rw [← eM24]
                  refine r_iinc (lv2 := [(1, vI (x1 + 1)), (4, vI (gI M 6 (wr x3))), (0, vR 5), (2, vI x2), (3, vI x3)]) dX8_parse_116 2 rfl (by decide) rfl ?_
                  refine r_iconst dX8_parse_119 ?_
                  refine r_istore_n (lv2 := [(2, vI 0), (1, vI (x1 + 1)), (4, vI (gI M 6 (wr x3))), (0, vR 5), (3, vI x3)]) dX8_parse_120 rfl (by decide) rfl ?_
                  refine r_goto (tgt := 129) dX8_parse_121 (by decide) ?_
                  refine r_iinc (lv2 := [(3, vI (x3 + 1)), (2, vI 0), (1, vI (x1 + 1)), (4, vI (gI M 6 (wr x3))), (0, vR 5)]) dX8_parse_129 4 rfl (by decide) rfl ?_
                  refine r_goto (tgt := 12) dX8_parse_132 (by decide) ?_
                  refine r_sub (lv2 := [(0, vR 5), (1, vI (x1 + 1)), (2, vI 0), (3, vI (x3 + 1))]) [4, 2, 1, 0] rfl ?_
                  cases h
                  exact ih _ _ _ _  _ (k1 _ rfl) hX
            · rw [if_neg c19] at h
              refine r_icmp_ne (tgt := 124) dX8_parse_93 (by decide) (fun _ => ?_) (fun q => absurd q c19)
              refine r_bipush dX8_parse_124 (by decide) ?_
              refine r_iload_n dX8_parse_126 rfl 4 rfl ?_
              refine r_isub dX8_parse_127 ?_
              cases h
              cases k2 _ rfl
              exact hX2 _ _ hX _ _ dX8_parse_128

set_option maxRecDepth 10000 in
theorem run_X8_parse {M : Mem} {M2 : Mem} {r : Int}   (h : m_X8_parse M = some (r, M2)) : RunI 1 yX8_parse cX8_parse 5 (some .int) [vR 5] M r M2 := by
  refine runI_of (lv := [(0, vR 5)]) (by decide +kernel) (Or.inl rfl) (Nat.le_of_ble_eq_true rfl) rfl ?_
  intro G hQ
  unfold m_X8_parse at h
  refine r_iconst dX8_parse_0 ?_
  refine r_istore_n (lv2 := [(1, vI 0), (0, vR 5)]) dX8_parse_1 rfl (by decide) rfl ?_
  refine r_iconst dX8_parse_2 ?_
  refine r_istore_n (lv2 := [(2, vI 0), (1, vI 0), (0, vR 5)]) dX8_parse_3 rfl (by decide) rfl ?_
  refine r_aload_n dX8_parse_4 rfl 2 rfl ?_
  refine r_bipush dX8_parse_5 (by decide) ?_
  obtain ⟨M1, eM1, h⟩ := of_lt h
  refine r_putI (j := 3) (jz := 3) dX8_parse_7 p_X8_29 rfl rfl rfl rfl rfl ?_
  rw [← eM1]
  refine r_iconst dX8_parse_10 ?_
  refine r_istore_n (lv2 := [(3, vI 0), (2, vI 0), (1, vI 0), (0, vR 5)]) dX8_parse_11 rfl (by decide) rfl ?_
  obtain ⟨w9, h9, h⟩ := of_be4 h
  refine r_sub (lv2 := [(0, vR 5), (1, vI 0), (2, vI 0), (3, vI 0)]) [3, 2, 1, 0] rfl ?_
  refine lp_X8_parse_L12   (fun w => w = w9) ?_ ?_ FU 0 0 0 M1 w9 h9 rfl
  · intro y37 y38 y39 M40 hw
    subst hw
    have h := h.1 _ _ _ _  rfl
    refine r_aload_n dX8_parse_135 rfl 0 rfl ?_
    refine r_iload_n dX8_parse_136 rfl 1 rfl ?_
    refine r_iload_n dX8_parse_137 rfl 2 rfl ?_
    obtain ⟨b42, hc41, h⟩ := of_bd1 h
    refine r_callVI (st := []) dX8_parse_138 v_X8_32 (run_X8_isRowEnd hc41) (by decide) (by decide) rfl rfl (Nat.le_of_ble_eq_true rfl) rfl ?_
    by_cases c43 : wr (bI b42) = 0
    · rw [if_pos c43] at h
      refine r_if_ne (tgt := 152) dX8_parse_141 (by decide) (fun q => absurd c43 q) (fun _ => ?_)
      refine r_bipush dX8_parse_144 (by decide) ?_
      refine r_aload_n dX8_parse_146 rfl 0 rfl ?_
      refine r_getI (j := 2) (jz := 2) dX8_parse_147 f_X8_25 rfl rfl rfl ?_
      refine r_isub dX8_parse_150 ?_
      cases h
      exact hQ _ _ dX8_parse_151
    · rw [if_neg c43] at h
      refine r_if_ne (tgt := 152) dX8_parse_141 (by decide) (fun _ => ?_) (fun q => absurd q c43)
      refine r_aload_n dX8_parse_152 rfl 0 rfl ?_
      refine r_iload_n dX8_parse_153 rfl 2 rfl ?_
      obtain ⟨M44, eM44, h⟩ := of_lt h
      refine r_putI (j := 3) (jz := 3) dX8_parse_154 p_X8_29 rfl rfl rfl rfl rfl ?_
      rw [← eM44]
      refine r_aload_n dX8_parse_157 rfl 0 rfl ?_
      refine r_iload_n dX8_parse_158 rfl 1 rfl ?_
      refine r_iconst dX8_parse_159 ?_
      refine r_iadd dX8_parse_160 ?_
      obtain ⟨M45, eM45, h⟩ := of_lt h
      refine r_putI (j := 4) (jz := 4) dX8_parse_161 p_X8_36 rfl rfl rfl rfl rfl ?_
      rw [← eM45]
      refine r_iconst dX8_parse_164 ?_
      cases h
      exact hQ _ _ dX8_parse_165
  · intro r9 M9 hw
    subst hw
    have h := h.2 _ rfl
    cases h
    exact hQ

