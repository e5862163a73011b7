def m_X12_allows_L2 (M : Mem) (p1 : Int) (x2 : Int) : Option ((Int × Mem) ⊕ (Int × Mem)) :=
  if wr 128 ≤ wr x2 then
    some (.inr (x2, M))
  else
    bd1 (m_X12_isBrick M x2) fun b3 =>
    bd1 (
      if wr (bI b3) = 0 then
        some (0)
      else
        if wr p1 = 0 then
          some (1)
        else
          if 0 ≤ wr x2 ∧ wr x2 < 128 then
          if wr (gI M 57 (wr x2)) = wr 2 then
            some (0)
          else
            some (1)
          else none) fun (v8 : Int) =>
    if 0 ≤ wr x2 ∧ wr x2 < 128 then
    if v8 = 0 ∨ v8 = 1 then
    lt (sI M 63 (wr x2) v8) fun M11 =>
    some (.inl ((x2 + 1), M11))
    else none
    else none
def m_X12_allows_L50 (M : Mem) (p1 : Int) (x2 : Int) : Option ((Int × Mem) ⊕ (Int × Mem)) :=
  if wr 128 ≤ wr x2 then
    some (.inr (x2, M))
  else
    if wr p1 = 0 then
      some (.inr (x2, M))
    else
      bd1 (m_X12_isBrick M x2) fun b17 =>
      bd1 (
        if wr (bI b17) = 0 then
          some (M)
        else
          if 0 ≤ wr x2 ∧ wr x2 < 128 then
          if wr (gI M 57 (wr x2)) = wr 1 then
            bd1 (m_X12_musts M x2) fun M22 =>
            some (M22)
          else
            some (M)
          else none) fun (M23 : Mem) =>
      some (.inl ((x2 + 1), M23))
def m_X12_allows (M : Mem) (a1 : Int) : Option (Mem) :=
  bd2 (itr (fun s => m_X12_allows_L2 s.2 a1 s.1) FU (0, M)) fun y12 M13 =>
  bd2 (itr (fun s => m_X12_allows_L50 s.2 a1 s.1) FU (0, M13)) fun y24 M25 =>
  some M25
set_option maxRecDepth 10000 in
theorem lp_X12_allows_L2 {G : Gx} (p1 : Int)   (X : (Int × Mem) → Prop) (hX1 : ∀ (x2 : Int) (M : Mem), X (x2, M) → Ex G 2 cX12_allows RX12 3 48 [(0, vR 55), (1, vI p1), (2, vI x2)] [] M) : ∀ (nn : Nat) (x2 : Int) (M : Mem) (out : Int × Mem), itr (fun s => m_X12_allows_L2 s.2 p1 s.1) nn (x2, M) = some out → X out → Ex G 2 cX12_allows RX12 3 2 [(0, vR 55), (1, vI p1), (2, vI x2)] [] M := by
  intro nn
  induction nn with
  | zero =>
    intro x2 M out h _
    cases h
  | succ nn ih =>
    intro x2 M out h0 hX
    obtain ⟨w, h, k1, k2⟩ := itr_inv h0
    have h : m_X12_allows_L2 M p1 x2 = some w := h
    unfold m_X12_allows_L2 at h
    refine r_iload_n dX12_allows_2 rfl 2 rfl ?_
    refine r_sipush dX12_allows_3 (by decide) ?_
    by_cases c1 : wr 128 ≤ wr x2
    · rw [if_pos c1] at h
      refine r_icmp_ge (tgt := 48) dX12_allows_6 (by decide) (fun _ => ?_) (fun q => absurd c1 q)
      cases h
      cases k2 _ rfl
      exact hX1 _ _ hX
    · rw [if_neg c1] at h
      refine r_icmp_ge (tgt := 48) dX12_allows_6 (by decide) (fun q => absurd q c1) (fun _ => ?_)
      refine r_aload_n dX12_allows_9 rfl 0 rfl ?_
      refine r_getR (j := 11) (v := 63) dX12_allows_10 f_X12_32 rfl rfl rfl ?_
      refine r_iload_n dX12_allows_13 rfl 2 rfl ?_
      refine r_aload_n dX12_allows_14 rfl 0 rfl ?_
      refine r_iload_n dX12_allows_15 rfl 2 rfl ?_
      obtain ⟨b3, hc2, h⟩ := of_bd1 h
      refine r_callVI (st := [vI x2, vR 63]) dX12_allows_16 v_X12_153 (run_X12_isBrick hc2) (by decide) (by decide) rfl rfl (Nat.le_of_ble_eq_true rfl) rfl ?_
      obtain ⟨v8, h9, h⟩ := of_bd1 h
      have kJ : Ex G 2 cX12_allows RX12 3 41 [(0, vR 55), (1, vI p1), (2, vI x2)] [vI v8, vI x2, vR 63] M := by
        obtain ⟨c9, h⟩ := of_ck h
        obtain ⟨c10, h⟩ := of_ck h
        obtain ⟨M11, eM11, h⟩ := of_lt h
        refine r_zast dX12_allows_41 rfl c9 c10 ?_
        rw [← eM11]
        refine r_iinc (lv2 := [(2, vI (x2 + 1)), (0, vR 55), (1, vI p1)]) dX12_allows_42 2 rfl (by decide) rfl ?_
        refine r_goto (tgt := 2) dX12_allows_45 (by decide) ?_
        refine r_sub (lv2 := [(0, vR 55), (1, vI p1), (2, vI (x2 + 1))]) [1, 2, 0] rfl ?_
        cases h
        exact ih _ _  _ (k1 _ rfl) hX
      clear h
      have h := h9
      clear h9
      by_cases c4 : wr (bI b3) = 0
      · rw [if_pos c4] at h
        refine r_if_eq (tgt := 40) dX12_allows_19 (by decide) (fun _ => ?_) (fun q => absurd c4 q)
        refine r_iconst dX12_allows_40 ?_
        cases h
        exact kJ
      · rw [if_neg c4] at h
        refine r_if_eq (tgt := 40) dX12_allows_19 (by decide) (fun q => absurd q c4) (fun _ => ?_)
        refine r_iload_n dX12_allows_22 rfl 1 rfl ?_
        by_cases c5 : wr p1 = 0
        · rw [if_pos c5] at h
          refine r_if_eq (tgt := 36) dX12_allows_23 (by decide) (fun _ => ?_) (fun q => absurd c5 q)
          refine r_iconst dX12_allows_36 ?_
          refine r_goto (tgt := 41) dX12_allows_37 (by decide) ?_
          cases h
          exact kJ
        · rw [if_neg c5] at h
          refine r_if_eq (tgt := 36) dX12_allows_23 (by decide) (fun q => absurd q c5) (fun _ => ?_)
          refine r_aload_n dX12_allows_26 rfl 0 rfl ?_
          refine r_getR (j := 3) (v := 57) dX12_allows_27 f_X12_13 rfl rfl rfl ?_
          refine r_iload_n dX12_allows_30 rfl 2 rfl ?_
          obtain ⟨c6, h⟩ := of_ck h
          refine r_iald dX12_allows_31 rfl c6 ?_
          refine r_iconst dX12_allows_32 ?_
          by_cases c7 : wr (gI M 57 (wr x2)) = wr 2
          · rw [if_pos c7] at h
            refine r_icmp_eq (tgt := 40) dX12_allows_33 (by decide) (fun _ => ?_) (fun q => absurd c7 q)
            refine r_iconst dX12_allows_40 ?_
            cases h
            exact kJ
          · rw [if_neg c7] at h
            refine r_icmp_eq (tgt := 40) dX12_allows_33 (by decide) (fun q => absurd q c7) (fun _ => ?_)
            refine r_iconst dX12_allows_36 ?_
            refine r_goto (tgt := 41) dX12_allows_37 (by decide) ?_
            cases h
            exact kJ

set_option maxRecDepth 10000 in
theorem lp_X12_allows_L50 {G : Gx} (p1 : Int)   (X : (Int × Mem) → Prop) (hX1 : ∀ (x2 : Int) (M : Mem), X (x2, M) → Ex G 2 cX12_allows RX12 3 90 [(0, vR 55), (1, vI p1), (2, vI x2)] [] M) : ∀ (nn : Nat) (x2 : Int) (M : Mem) (out : Int × Mem), itr (fun s => m_X12_allows_L50 s.2 p1 s.1) nn (x2, M) = some out → X out → Ex G 2 cX12_allows RX12 3 50 [(0, vR 55), (1, vI p1), (2, vI x2)] [] M := by
  intro nn
  induction nn with
  | zero =>
    intro x2 M out h _
    cases h
  | succ nn ih =>
    intro x2 M out h0 hX
    obtain ⟨w, h, k1, k2⟩ := itr_inv h0
    have h : m_X12_allows_L50 M p1 x2 = some w := h
    unfold m_X12_allows_L50 at h
    refine r_iload_n dX12_allows_50 rfl 2 rfl ?_
    refine r_sipush dX12_allows_51 (by decide) ?_
    by_cases c14 : wr 128 ≤ wr x2
    · rw [if_pos c14] at h
      refine r_icmp_ge (tgt := 90) dX12_allows_54 (by decide) (fun _ => ?_) (fun q => absurd c14 q)
      cases h
      cases k2 _ rfl
      exact hX1 _ _ hX
    · rw [if_neg c14] at h
      refine r_icmp_ge (tgt := 90) dX12_allows_54 (by decide) (fun q => absurd q c14) (fun _ => ?_)
      refine r_iload_n dX12_allows_57 rfl 1 rfl ?_
      by_cases c15 : wr p1 = 0
      · rw [if_pos c15] at h
        refine r_if_eq (tgt := 90) dX12_allows_58 (by decide) (fun _ => ?_) (fun q => absurd c15 q)
        cases h
        cases k2 _ rfl
        exact hX1 _ _ hX
      · rw [if_neg c15] at h
        refine r_if_eq (tgt := 90) dX12_allows_58 (by decide) (fun q => absurd q c15) (fun _ => ?_)
        refine r_aload_n dX12_allows_61 rfl 0 rfl ?_
        refine r_iload_n dX12_allows_62 rfl 2 rfl ?_
        obtain ⟨b17, hc16, h⟩ := of_bd1 h
        refine r_callVI (st := []) dX12_allows_63 v_X12_153 (run_X12_isBrick hc16) (by decide) (by decide) rfl rfl (Nat.le_of_ble_eq_true rfl) rfl ?_
        obtain ⟨M23, h9, h⟩ := of_bd1 h
        have kJ : Ex G 2 cX12_allows RX12 3 84 [(0, vR 55), (1, vI p1), (2, vI x2)] [] M23 := by
          refine r_iinc (lv2 := [(2, vI (x2 + 1)), (0, vR 55), (1, vI p1)]) dX12_allows_84 2 rfl (by decide) rfl ?_
          refine r_goto (tgt := 50) dX12_allows_87 (by decide) ?_
          refine r_sub (lv2 := [(0, vR 55), (1, vI p1), (2, vI (x2 + 1))]) [1, 2, 0] rfl ?_
          cases h
          exact ih _ _  _ (k1 _ rfl) hX
        clear h
        have h := h9
        clear h9
        by_cases c18 : wr (bI b17) = 0
        · rw [if_pos c18] at h
          refine r_if_eq (tgt := 84) dX12_allows_66 (by decide) (fun _ => ?_) (fun q => absurd c18 q)
          cases h
          exact kJ
        · rw [if_neg c18] at h
          refine r_if_eq (tgt := 84) dX12_allows_66 (by decide) (fun q => absurd q c18) (fun _ => ?_)
          refine r_aload_n dX12_allows_69 rfl 0 rfl ?_
          refine r_getR (j := 3) (v := 57) dX12_allows_70 f_X12_13 rfl rfl rfl ?_
          refine r_iload_n dX12_allows_73 rfl 2 rfl ?_
          obtain ⟨c19, h⟩ := of_ck h
          refine r_iald dX12_allows_74 rfl c19 ?_
          refine r_iconst dX12_allows_75 ?_
          by_cases c20 : wr (gI M 57 (wr x2)) = wr 1
          · rw [if_pos c20] at h
            refine r_icmp_ne (tgt := 84) dX12_allows_76 (by decide) (fun q => absurd c20 q) (fun _ => ?_)
            refine r_aload_n dX12_allows_79 rfl 0 rfl ?_
            refine r_iload_n dX12_allows_80 rfl 2 rfl ?_
            obtain ⟨M22, hc21, h⟩ := of_bd1 h
            refine r_callVV (st := []) dX12_allows_81 v_X12_160 (run_X12_musts hc21) (by decide) (by decide) rfl rfl (Nat.le_of_ble_eq_true rfl) rfl ?_
            cases h
            exact kJ
          · rw [if_neg c20] at h
            refine r_icmp_ne (tgt := 84) dX12_allows_76 (by decide) (fun _ => ?_) (fun q => absurd q c20)
            cases h
            exact kJ

set_option maxRecDepth 10000 in
theorem run_X12_allows {M : Mem} {M2 : Mem} {a1 : Int}   (h : m_X12_allows M a1 = some (M2)) : RunV 2 yX12_allows cX12_allows 3 none [vR 55, vI a1] M M2 := by
  refine runV_of (lv := [(0, vR 55), (1, vI a1)]) (by decide +kernel) rfl (Nat.le_of_ble_eq_true rfl) rfl ?_
  intro G hQ
  unfold m_X12_allows at h
  refine r_iconst dX12_allows_0 ?_
  refine r_istore_n (lv2 := [(2, vI 0), (0, vR 55), (1, vI a1)]) dX12_allows_1 rfl (by decide) rfl ?_
  obtain ⟨y12, M13, h9, h⟩ := of_bd2 h
  refine r_sub (lv2 := [(0, vR 55), (1, vI a1), (2, vI 0)]) [1, 2, 0] rfl ?_
  refine lp_X12_allows_L2 a1  (fun w => w = (y12, M13)) ?_ FU 0 M _ h9 rfl
  intro z0 z1 hw
  cases hw
  refine r_iconst dX12_allows_48 ?_
  refine r_istore_n (lv2 := [(2, vI 0), (0, vR 55), (1, vI a1)]) dX12_allows_49 rfl (by decide) rfl ?_
  obtain ⟨y24, M25, h9, h⟩ := of_bd2 h
  refine r_sub (lv2 := [(0, vR 55), (1, vI a1), (2, vI 0)]) [1, 2, 0] rfl ?_
  refine lp_X12_allows_L50 a1  (fun w => w = (y24, M25)) ?_ FU 0 M13 _ h9 rfl
  intro z0 z1 hw
  cases hw
  cases h
  exact hQ _ _ dX12_allows_90

def m_X12_canEast (M : Mem) (a1 : Int) (a2 : Int) : Option (Bool) :=
  if 0 ≤ wr (2 * a1) ∧ wr (2 * a1) < 128 then
  lt (if wr (gI M 63 (wr (2 * a1))) = 0 then 0 else (if wr (iand a2 2) = 0 then 1 else 0)) fun (v4 : Int) =>
  if v4 = 0 ∨ v4 = 1 then some (decide (v4 = 1)) else none
  else none
set_option maxRecDepth 10000 in
theorem run_X12_canEast {M : Mem} {a1 : Int} {a2 : Int} {r : Bool}   (h : m_X12_canEast M a1 a2 = some r) : RunI 0 yX12_canEast cX12_canEast 3 (some .boolean) [vR 55, vI a1, vI a2] M (bI r) M := by
  refine runI_of (lv := [(0, vR 55), (1, vI a1), (2, vI a2)]) (by decide +kernel) (Or.inr ⟨rfl, bI_01 r⟩) (Nat.le_of_ble_eq_true rfl) rfl ?_
  intro G hQ
  unfold m_X12_canEast at h
  refine r_aload_n dX12_canEast_0 rfl 0 rfl ?_
  refine r_getR (j := 11) (v := 63) dX12_canEast_1 f_X12_32 rfl rfl rfl ?_
  refine r_iconst dX12_canEast_4 ?_
  refine r_iload_n dX12_canEast_5 rfl 1 rfl ?_
  refine r_imul dX12_canEast_6 ?_
  obtain ⟨c1, h⟩ := of_ck h
  refine r_zald dX12_canEast_7 rfl c1 ?_
  obtain ⟨v4, ev4, h⟩ := of_lt h
  have kJ : Ex G 0 cX12_canEast RX12 3 22 [] [vI v4] M := by
    obtain ⟨cz, h⟩ := of_ck h
    rw [← bI_dec cz]
    cases h
    exact hQ _ _ dX12_canEast_22
  clear h
  by_cases c2 : wr (gI M 63 (wr (2 * a1))) = 0
  · skip
    refine r_if_eq (tgt := 21) dX12_canEast_8 (by decide) (fun _ => ?_) (fun q => absurd c2 q)
    refine r_iconst dX12_canEast_21 ?_
    rw [show v4 = 0 from by rw [ev4, if_pos c2]] at kJ
    refine r_sub (lv2 := []) [] rfl ?_
    exact kJ
  · skip
    refine r_if_eq (tgt := 21) dX12_canEast_8 (by decide) (fun q => absurd q c2) (fun _ => ?_)
    refine r_iload_n dX12_canEast_11 rfl 2 rfl ?_
    refine r_iconst dX12_canEast_12 ?_
    refine r_iand dX12_canEast_13 ?_
    by_cases c3 : wr (iand a2 2) = 0
    · skip
      refine r_if_ne (tgt := 21) dX12_canEast_14 (by decide) (fun q => absurd c3 q) (fun _ => ?_)
      refine r_iconst dX12_canEast_17 ?_
      refine r_goto (tgt := 22) dX12_canEast_18 (by decide) ?_
      rw [show v4 = 1 from by rw [ev4, if_neg c2, if_pos c3]] at kJ
      refine r_sub (lv2 := []) [] rfl ?_
      exact kJ
    · skip
      refine r_if_ne (tgt := 21) dX12_canEast_14 (by decide) (fun _ => ?_) (fun q => absurd q c3)
      refine r_iconst dX12_canEast_21 ?_
      rw [show v4 = 0 from by rw [ev4, if_neg c2, if_neg c3]] at kJ
      refine r_sub (lv2 := []) [] rfl ?_
      exact kJ

def m_X12_countOn_L12 (M : Mem) (p1 : Int) (x2 : Int) : Option ((Int × Mem) ⊕ (Int × Mem)) :=
  if wr (shl 1 (gI M 55 0)) ≤ wr x2 then
    some (.inr (x2, M))
  else
    lt (if wr x2 = 0 then (1 : Int64) else (0 : Int64)) fun (v3 : Int64) =>
    if 0 ≤ wr ((256 * p1) + x2) ∧ wr ((256 * p1) + x2) < 16640 then
    lt (sL M 64 (wr ((256 * p1) + x2)) v3) fun M5 =>
    some (.inl ((x2 + 1), M5))
    else none
def m_X12_countOn_L59 (M : Mem) (p2 : Int) (x3 : Int) : Option ((Int × Mem) ⊕ (Int × Mem)) :=
  if wr (shl 1 (gI M 55 0)) ≤ wr x3 then
    some (.inr (x3, M))
  else
    if 0 ≤ wr p2 ∧ wr p2 < 64 then
    bd1 (
      if wr (gI M 56 (wr p2)) = 0 then
        bd1 (
          if wr (iand x3 1) = wr 1 then
            some ((0 : Int64))
          else
            if 0 ≤ wr ((256 * (p2 + 1)) + (sar x3 1)) ∧ wr ((256 * (p2 + 1)) + (sar x3 1)) < 16640 then
            some ((gL M 64 (wr ((256 * (p2 + 1)) + (sar x3 1)))))
            else none) fun (v25 : Int64) =>
        some (v25)
      else
        if wr (iand x3 1) = wr 1 then
          if 0 ≤ wr ((256 * (p2 + 1)) + (sar x3 1)) ∧ wr ((256 * (p2 + 1)) + (sar x3 1)) < 16640 then
          some ((gL M 64 (wr ((256 * (p2 + 1)) + (sar x3 1)))))
          else none
        else
          bd1 (m_X12_canEast M p2 x3) fun b14 =>
          bd1 (
            if wr (bI b14) = 0 then
              some ((0 : Int64))
            else
              if 0 ≤ wr ((256 * (p2 + 1)) + (sar (ior x3 2) 1)) ∧ wr ((256 * (p2 + 1)) + (sar (ior x3 2) 1)) < 16640 then
              some ((gL M 64 (wr ((256 * (p2 + 1)) + (sar (ior x3 2) 1)))))
              else none) fun (v17 : Int64) =>
          if 0 ≤ wr ((2 * p2) + 1) ∧ wr ((2 * p2) + 1) < 128 then
          bd1 (
            if wr (gI M 63 (wr ((2 * p2) + 1))) = 0 then
              some ((0 : Int64))
            else
              if 0 ≤ wr ((256 * (p2 + 1)) + (sar (ior x3 (shl 1 (gI M 55 0))) 1)) ∧ wr ((256 * (p2 + 1)) + (sar (ior x3 (shl 1 (gI M 55 0))) 1)) < 16640 then
              some ((gL M 64 (wr ((256 * (p2 + 1)) + (sar (ior x3 (shl 1 (gI M 55 0))) 1)))))
              else none) fun (v21 : Int64) =>
          some ((v17 + v21))
          else none) fun (v26 : Int64) =>
    if 0 ≤ wr ((256 * p2) + x3) ∧ wr ((256 * p2) + x3) < 16640 then
    lt (sL M 64 (wr ((256 * p2) + x3)) v26) fun M28 =>
    some (.inl ((x3 + 1), M28))
    else none
    else none
def m_X12_countOn_L53 (M : Mem)  (x2 : Int) : Option ((Int × Mem) ⊕ (Int × Mem)) :=
  if wr x2 < 0 then
    some (.inr (x2, M))
  else
    bd2 (itr (fun s => m_X12_countOn_L59 s.2 x2 s.1) FU (0, M)) fun y29 M30 =>
    some (.inl ((x2 + (-1)), M30))
def m_X12_countOn (M : Mem) : Option (Mem) :=
  bd2 (itr (fun s => m_X12_countOn_L12 s.2 ((gI M 55 0) * (gI M 55 1)) s.1) FU (0, M)) fun y6 M7 =>
  bd2 (itr (fun s => m_X12_countOn_L53 s.2  s.1) FU ((((gI M 55 0) * (gI M 55 1)) - 1), M7)) fun y31 M32 =>
  some M32
set_option maxRecDepth 10000 in
theorem lp_X12_countOn_L12 {G : Gx} (p1 : Int)   (X : (Int × Mem) → Prop) (hX1 : ∀ (x2 : Int) (M : Mem), X (x2, M) → Ex G 1 cX12_countOn RX12 10 49 [(0, vR 55), (1, vI p1), (2, vI x2)] [] M) : ∀ (nn : Nat) (x2 : Int) (M : Mem) (out : Int × Mem), itr (fun s => m_X12_countOn_L12 s.2 p1 s.1) nn (x2, M) = some out → X out → Ex G 1 cX12_countOn RX12 10 12 [(0, vR 55), (1, vI p1), (2, vI x2)] [] M := by
  intro nn
  induction nn with
  | zero =>
    intro x2 M out h _
    cases h
  | succ nn ih =>
    intro x2 M out h0 hX
    obtain ⟨w, h, k1, k2⟩ := itr_inv h0
    have h : m_X12_countOn_L12 M p1 x2 = some w := h
    unfold m_X12_countOn_L12 at h
    refine r_iload_n dX12_countOn_12 rfl 2 rfl ?_
    refine r_iconst dX12_countOn_13 ?_
    refine r_aload_n dX12_countOn_14 rfl 0 rfl ?_
    refine r_getI (j := 0) (jz := 0) dX12_countOn_15 f_X12_88 rfl rfl rfl ?_
    refine r_ishl dX12_countOn_18 ?_
    by_cases c1 : wr (shl 1 (gI M 55 0)) ≤ wr x2
    · rw [if_pos c1] at h
      refine r_icmp_ge (tgt := 49) dX12_countOn_19 (by decide) (fun _ => ?_) (fun q => absurd c1 q)
      cases h
      cases k2 _ rfl
      exact hX1 _ _ hX
    · rw [if_neg c1] at h
      refine r_icmp_ge (tgt := 49) dX12_countOn_19 (by decide) (fun q => absurd q c1) (fun _ => ?_)
      refine r_aload_n dX12_countOn_22 rfl 0 rfl ?_
      refine r_getR (j := 12) (v := 64) dX12_countOn_23 f_X12_35 rfl rfl rfl ?_
      refine r_sipush dX12_countOn_26 (by decide) ?_
      refine r_iload_n dX12_countOn_29 rfl 1 rfl ?_
      refine r_imul dX12_countOn_30 ?_
      refine r_iload_n dX12_countOn_31 rfl 2 rfl ?_
      refine r_iadd dX12_countOn_32 ?_
      refine r_iload_n dX12_countOn_33 rfl 2 rfl ?_
      obtain ⟨v3, ev3, h⟩ := of_lt h
      have kJ : Ex G 1 cX12_countOn RX12 10 42 [(0, vR 55), (1, vI p1), (2, vI x2)] [vL v3, vI ((256 * p1) + x2), vR 64] M := by
        obtain ⟨c4, h⟩ := of_ck h
        obtain ⟨M5, eM5, h⟩ := of_lt h
        refine r_last dX12_countOn_42 rfl c4 ?_
        rw [← eM5]
        refine r_iinc (lv2 := [(2, vI (x2 + 1)), (0, vR 55), (1, vI p1)]) dX12_countOn_43 2 rfl (by decide) rfl ?_
        refine r_goto (tgt := 12) dX12_countOn_46 (by decide) ?_
        refine r_sub (lv2 := [(0, vR 55), (1, vI p1), (2, vI (x2 + 1))]) [1, 2, 0] rfl ?_
        cases h
        exact ih _ _  _ (k1 _ rfl) hX
      clear h
      by_cases c2 : wr x2 = 0
      · skip
        refine r_if_ne (tgt := 41) dX12_countOn_34 (by decide) (fun q => absurd c2 q) (fun _ => ?_)
        refine r_lconst (v := 1) dX12_countOn_37 rfl ?_
        refine r_goto (tgt := 42) dX12_countOn_38 (by decide) ?_
        rw [show v3 = (1 : Int64) from by rw [ev3, if_pos c2]] at kJ
        exact kJ
      · skip
        refine r_if_ne (tgt := 41) dX12_countOn_34 (by decide) (fun _ => ?_) (fun q => absurd q c2)
        refine r_lconst (v := 0) dX12_countOn_41 rfl ?_
        rw [show v3 = (0 : Int64) from by rw [ev3, if_neg c2]] at kJ
        exact kJ

set_option maxRecDepth 10000 in
theorem lp_X12_countOn_L59 {G : Gx} (p2 : Int)   (X : (Int × Mem) → Prop) (hX1 : ∀ (x3 : Int) (M : Mem), X (x3, M) → Ex G 1 cX12_countOn RX12 10 240 [(0, vR 55), (2, vI p2), (3, vI x3)] [] M) : ∀ (nn : Nat) (x3 : Int) (M : Mem) (out : Int × Mem), itr (fun s => m_X12_countOn_L59 s.2 p2 s.1) nn (x3, M) = some out → X out → Ex G 1 cX12_countOn RX12 10 59 [(0, vR 55), (2, vI p2), (3, vI x3)] [] M := by
  intro nn
  induction nn with
  | zero =>
    intro x3 M out h _
    cases h
  | succ nn ih =>
    intro x3 M out h0 hX
    obtain ⟨w, h, k1, k2⟩ := itr_inv h0
    have h : m_X12_countOn_L59 M p2 x3 = some w := h
    unfold m_X12_countOn_L59 at h
    refine r_iload_n dX12_countOn_59 rfl 2 rfl ?_
    refine r_iconst dX12_countOn_60 ?_
    refine r_aload_n dX12_countOn_61 rfl 0 rfl ?_
    refine r_getI (j := 0) (jz := 0) dX12_countOn_62 f_X12_88 rfl rfl rfl ?_
    refine r_ishl dX12_countOn_65 ?_
    by_cases c9 : wr (shl 1 (gI M 55 0)) ≤ wr x3
    · rw [if_pos c9] at h
      refine r_icmp_ge (tgt := 240) dX12_countOn_66 (by decide) (fun _ => ?_) (fun q => absurd c9 q)
      cases h
      cases k2 _ rfl
      exact hX1 _ _ hX
    · rw [if_neg c9] at h
      refine r_icmp_ge (tgt := 240) dX12_countOn_66 (by decide) (fun q => absurd q c9) (fun _ => ?_)
      refine r_aload_n dX12_countOn_69 rfl 0 rfl ?_
      refine r_getR (j := 2) (v := 56) dX12_countOn_70 f_X12_7 rfl rfl rfl ?_
      refine r_iload_n dX12_countOn_73 rfl 1 rfl ?_
      obtain ⟨c10, h⟩ := of_ck h
      refine r_zald dX12_countOn_74 rfl c10 ?_
      obtain ⟨v26, h9, h⟩ := of_bd1 h
      have kJ : Ex G 1 cX12_countOn RX12 10 220 [(0, vR 55), (2, vI p2), (3, vI x3), (4, vL v26)] [] M := by
        refine r_aload_n dX12_countOn_220 rfl 0 rfl ?_
        refine r_getR (j := 12) (v := 64) dX12_countOn_221 f_X12_35 rfl rfl rfl ?_
        refine r_sipush dX12_countOn_224 (by decide) ?_
        refine r_iload_n dX12_countOn_227 rfl 1 rfl ?_
        refine r_imul dX12_countOn_228 ?_
        refine r_iload_n dX12_countOn_229 rfl 2 rfl ?_
        refine r_iadd dX12_countOn_230 ?_
        refine r_lload dX12_countOn_231 3 rfl ?_
        obtain ⟨c27, h⟩ := of_ck h
        obtain ⟨M28, eM28, h⟩ := of_lt h
        refine r_last dX12_countOn_233 rfl c27 ?_
        rw [← eM28]
        refine r_iinc (lv2 := [(3, vI (x3 + 1)), (0, vR 55), (2, vI p2), (4, vL v26)]) dX12_countOn_234 2 rfl (by decide) rfl ?_
        refine r_goto (tgt := 59) dX12_countOn_237 (by decide) ?_
        refine r_sub (lv2 := [(0, vR 55), (2, vI p2), (3, vI (x3 + 1))]) [1, 2, 0] rfl ?_
        cases h
        exact ih _ _  _ (k1 _ rfl) hX
      clear h
      have h := h9
      clear h9
      by_cases c11 : wr (gI M 56 (wr p2)) = 0
      · rw [if_pos c11] at h
        refine r_if_ne (tgt := 110) dX12_countOn_75 (by decide) (fun q => absurd c11 q) (fun _ => ?_)
        refine r_iload_n dX12_countOn_78 rfl 2 rfl ?_
        refine r_iconst dX12_countOn_79 ?_
        refine r_iand dX12_countOn_80 ?_
        refine r_iconst dX12_countOn_81 ?_
        obtain ⟨v25, h9, h⟩ := of_bd1 h
        have kJ : Ex G 1 cX12_countOn RX12 10 105 [(0, vR 55), (2, vI p2), (3, vI x3)] [vL v25] M := by
          refine r_lstore (lv2 := [(4, vL v25), (0, vR 55), (2, vI p2), (3, vI x3)]) dX12_countOn_105 (by decide) rfl ?_
          refine r_goto (tgt := 220) dX12_countOn_107 (by decide) ?_
          refine r_sub (lv2 := [(0, vR 55), (2, vI p2), (3, vI x3), (4, vL v25)]) [1, 2, 3, 0] rfl ?_
          cases h
          exact kJ
        clear h
        have h := h9
        clear h9
        by_cases c23 : wr (iand x3 1) = wr 1
        · rw [if_pos c23] at h
          refine r_icmp_ne (tgt := 89) dX12_countOn_82 (by decide) (fun q => absurd c23 q) (fun _ => ?_)
          refine r_lconst (v := 0) dX12_countOn_85 rfl ?_
          refine r_goto (tgt := 105) dX12_countOn_86 (by decide) ?_
          cases h
          exact kJ
        · rw [if_neg c23] at h
          refine r_icmp_ne (tgt := 89) dX12_countOn_82 (by decide) (fun _ => ?_) (fun q => absurd q c23)
          refine r_aload_n dX12_countOn_89 rfl 0 rfl ?_
          refine r_getR (j := 12) (v := 64) dX12_countOn_90 f_X12_35 rfl rfl rfl ?_
          refine r_sipush dX12_countOn_93 (by decide) ?_
          refine r_iload_n dX12_countOn_96 rfl 1 rfl ?_
          refine r_iconst dX12_countOn_97 ?_
          refine r_iadd dX12_countOn_98 ?_
          refine r_imul dX12_countOn_99 ?_
          refine r_iload_n dX12_countOn_100 rfl 2 rfl ?_
          refine r_iconst dX12_countOn_101 ?_
          refine r_ishr dX12_countOn_102 ?_
          refine r_iadd dX12_countOn_103 ?_
          obtain ⟨c24, h⟩ := of_ck h
          refine r_lald dX12_countOn_104 rfl c24 ?_
          cases h
          exact kJ
      · rw [if_neg c11] at h
        refine r_if_ne (tgt := 110) dX12_countOn_75 (by decide) (fun _ => ?_) (fun q => absurd q c11)
        refine r_iload_n dX12_countOn_110 rfl 2 rfl ?_
        refine r_iconst dX12_countOn_111 ?_
        refine r_iand dX12_countOn_112 ?_
        refine r_iconst dX12_countOn_113 ?_
        by_cases c12 : wr (iand x3 1) = wr 1
        · rw [if_pos c12] at h
          refine r_icmp_ne (tgt := 138) dX12_countOn_114 (by decide) (fun q => absurd c12 q) (fun _ => ?_)
          refine r_aload_n dX12_countOn_117 rfl 0 rfl ?_
          refine r_getR (j := 12) (v := 64) dX12_countOn_118 f_X12_35 rfl rfl rfl ?_
          refine r_sipush dX12_countOn_121 (by decide) ?_
          refine r_iload_n dX12_countOn_124 rfl 1 rfl ?_
          refine r_iconst dX12_countOn_125 ?_
          refine r_iadd dX12_countOn_126 ?_
          refine r_imul dX12_countOn_127 ?_
          refine r_iload_n dX12_countOn_128 rfl 2 rfl ?_
          refine r_iconst dX12_countOn_129 ?_
          refine r_ishr dX12_countOn_130 ?_
          refine r_iadd dX12_countOn_131 ?_
          obtain ⟨c22, h⟩ := of_ck h
          refine r_lald dX12_countOn_132 rfl c22 ?_
          refine r_lstore (lv2 := [(4, vL (gL M 64 (wr ((256 * (p2 + 1)) + (sar x3 1))))), (0, vR 55), (2, vI p2), (3, vI x3)]) dX12_countOn_133 (by decide) rfl ?_
          refine r_goto (tgt := 220) dX12_countOn_135 (by decide) ?_
          refine r_sub (lv2 := [(0, vR 55), (2, vI p2), (3, vI x3), (4, vL (gL M 64 (wr ((256 * (p2 + 1)) + (sar x3 1)))))]) [1, 2, 3, 0] rfl ?_
          cases h
          exact kJ
        · rw [if_neg c12] at h
          refine r_icmp_ne (tgt := 138) dX12_countOn_114 (by decide) (fun _ => ?_) (fun q => absurd q c12)
          refine r_aload_n dX12_countOn_138 rfl 0 rfl ?_
          refine r_iload_n dX12_countOn_139 rfl 1 rfl ?_
          refine r_iload_n dX12_countOn_140 rfl 2 rfl ?_
          obtain ⟨b14, hc13, h⟩ := of_bd1 h
          refine r_callVI (st := []) dX12_countOn_141 v_X12_163 (run_X12_canEast hc13) (by decide) (by decide) rfl rfl (Nat.le_of_ble_eq_true rfl) rfl ?_
          obtain ⟨v17, h9, h⟩ := of_bd1 h
          have kJ : Ex G 1 cX12_countOn RX12 10 169 [(0, vR 55), (2, vI p2), (3, vI x3)] [vL v17] M := by
            refine r_lstore (lv2 := [(6, vL v17), (0, vR 55), (2, vI p2), (3, vI x3)]) dX12_countOn_169 (by decide) rfl ?_
            refine r_aload_n dX12_countOn_171 rfl 1 rfl ?_
            refine r_getR (j := 11) (v := 63) dX12_countOn_172 f_X12_32 rfl rfl rfl ?_
            refine r_iconst dX12_countOn_175 ?_
            refine r_iload_n dX12_countOn_176 rfl 2 rfl ?_
            refine r_imul dX12_countOn_177 ?_
            refine r_iconst dX12_countOn_178 ?_
            refine r_iadd dX12_countOn_179 ?_
            obtain ⟨c18, h⟩ := of_ck h
            refine r_zald dX12_countOn_180 rfl c18 ?_
            obtain ⟨v21, h9, h⟩ := of_bd1 h
            have kJ : Ex G 1 cX12_countOn RX12 10 211 [(0, vR 55), (2, vI p2), (3, vI x3), (6, vL v17)] [vL v21] M := by
              refine r_lstore (lv2 := [(8, vL v21), (0, vR 55), (2, vI p2), (3, vI x3), (6, vL v17)]) dX12_countOn_211 (by decide) rfl ?_
              refine r_lload dX12_countOn_213 4 rfl ?_
              refine r_lload dX12_countOn_215 0 rfl ?_
              refine r_ladd dX12_countOn_217 ?_
              refine r_lstore (lv2 := [(4, vL (v17 + v21)), (8, vL v21), (0, vR 55), (2, vI p2), (3, vI x3), (6, vL v17)]) dX12_countOn_218 (by decide) rfl ?_
              refine r_sub (lv2 := [(0, vR 55), (2, vI p2), (3, vI x3), (4, vL (v17 + v21))]) [2, 3, 4, 0] rfl ?_
              cases h
              exact kJ
            clear h
            have h := h9
            clear h9
            by_cases c19 : wr (gI M 63 (wr ((2 * p2) + 1))) = 0
            · rw [if_pos c19] at h
              refine r_if_eq (tgt := 210) dX12_countOn_181 (by decide) (fun _ => ?_) (fun q => absurd c19 q)
              refine r_lconst (v := 0) dX12_countOn_210 rfl ?_
              refine r_sub (lv2 := [(0, vR 55), (2, vI p2), (3, vI x3), (6, vL v17)]) [1, 2, 3, 0] rfl ?_
              cases h
              exact kJ
            · rw [if_neg c19] at h
              refine r_if_eq (tgt := 210) dX12_countOn_181 (by decide) (fun q => absurd q c19) (fun _ => ?_)
              refine r_aload_n dX12_countOn_184 rfl 1 rfl ?_
              refine r_getR (j := 12) (v := 64) dX12_countOn_185 f_X12_35 rfl rfl rfl ?_
              refine r_sipush dX12_countOn_188 (by decide) ?_
              refine r_iload_n dX12_countOn_191 rfl 2 rfl ?_
              refine r_iconst dX12_countOn_192 ?_
              refine r_iadd dX12_countOn_193 ?_
              refine r_imul dX12_countOn_194 ?_
              refine r_iload_n dX12_countOn_195 rfl 3 rfl ?_
              refine r_iconst dX12_countOn_196 ?_
              refine r_aload_n dX12_countOn_197 rfl 1 rfl ?_
              refine r_getI (j := 0) (jz := 0) dX12_countOn_198 f_X12_88 rfl rfl rfl ?_
              refine r_ishl dX12_countOn_201 ?_
              refine r_ior dX12_countOn_202 ?_
              refine r_iconst dX12_countOn_203 ?_
              refine r_ishr dX12_countOn_204 ?_
              refine r_iadd dX12_countOn_205 ?_
              obtain ⟨c20, h⟩ := of_ck h
              refine r_lald dX12_countOn_206 rfl c20 ?_
              refine r_goto (tgt := 211) dX12_countOn_207 (by decide) ?_
              refine r_sub (lv2 := [(0, vR 55), (2, vI p2), (3, vI x3), (6, vL v17)]) [1, 2, 3, 0] rfl ?_
              cases h
              exact kJ
          clear h
          have h := h9
          clear h9
          by_cases c15 : wr (bI b14) = 0
          · rw [if_pos c15] at h
            refine r_if_eq (tgt := 168) dX12_countOn_144 (by decide) (fun _ => ?_) (fun q => absurd c15 q)
            refine r_lconst (v := 0) dX12_countOn_168 rfl ?_
            cases h
            exact kJ
          · rw [if_neg c15] at h
            refine r_if_eq (tgt := 168) dX12_countOn_144 (by decide) (fun q => absurd q c15) (fun _ => ?_)
            refine r_aload_n dX12_countOn_147 rfl 0 rfl ?_
            refine r_getR (j := 12) (v := 64) dX12_countOn_148 f_X12_35 rfl rfl rfl ?_
            refine r_sipush dX12_countOn_151 (by decide) ?_
            refine r_iload_n dX12_countOn_154 rfl 1 rfl ?_
            refine r_iconst dX12_countOn_155 ?_
            refine r_iadd dX12_countOn_156 ?_
            refine r_imul dX12_countOn_157 ?_
            refine r_iload_n dX12_countOn_158 rfl 2 rfl ?_
            refine r_iconst dX12_countOn_159 ?_
            refine r_ior dX12_countOn_160 ?_
            refine r_iconst dX12_countOn_161 ?_
            refine r_ishr dX12_countOn_162 ?_
            refine r_iadd dX12_countOn_163 ?_
            obtain ⟨c16, h⟩ := of_ck h
            refine r_lald dX12_countOn_164 rfl c16 ?_
            refine r_goto (tgt := 169) dX12_countOn_165 (by decide) ?_
            cases h
            exact kJ

set_option maxRecDepth 10000 in
theorem lp_X12_countOn_L53 {G : Gx}    (X : (Int × Mem) → Prop) (hX1 : ∀ (x2 : Int) (M : Mem), X (x2, M) → Ex G 1 cX12_countOn RX12 10 246 [(0, vR 55), (2, vI x2)] [] M) : ∀ (nn : Nat) (x2 : Int) (M : Mem) (out : Int × Mem), itr (fun s => m_X12_countOn_L53 s.2  s.1) nn (x2, M) = some out → X out → Ex G 1 cX12_countOn RX12 10 53 [(0, vR 55), (2, vI x2)] [] M := by
  intro nn
  induction nn with
  | zero =>
    intro x2 M out h _
    cases h
  | succ nn ih =>
    intro x2 M out h0 hX
    obtain ⟨w, h, k1, k2⟩ := itr_inv h0
    have h : m_X12_countOn_L53 M  x2 = some w := h
    unfold m_X12_countOn_L53 at h
    refine r_iload_n dX12_countOn_53 rfl 1 rfl ?_
    by_cases c8 : wr x2 < 0
    · rw [if_pos c8] at h
      refine r_if_lt (tgt := 246) dX12_countOn_54 (by decide) (fun _ => ?_) (fun q => absurd c8 q)
      cases h
      cases k2 _ rfl
      exact hX1 _ _ hX
    · rw [if_neg c8] at h
      refine r_if_lt (tgt := 246) dX12_countOn_54 (by decide) (fun q => absurd q c8) (fun _ => ?_)
      refine r_iconst dX12_countOn_57 ?_
      refine r_istore_n (lv2 := [(3, vI 0), (0, vR 55), (2, vI x2)]) dX12_countOn_58 rfl (by decide) rfl ?_
      obtain ⟨y29, M30, h9, h⟩ := of_bd2 h
      refine r_sub (lv2 := [(0, vR 55), (2, vI x2), (3, vI 0)]) [1, 2, 0] rfl ?_
      refine lp_X12_countOn_L59 x2  (fun w => w = (y29, M30)) ?_ FU 0 M _ h9 rfl
      intro z0 z1 hw
      cases hw
      refine r_iinc (lv2 := [(2, vI (x2 + (-1))), (0, vR 55), (3, vI y29)]) dX12_countOn_240 1 rfl (by decide) rfl ?_
      refine r_goto (tgt := 53) dX12_countOn_243 (by decide) ?_
      refine r_sub (lv2 := [(0, vR 55), (2, vI (x2 + (-1)))]) [1, 0] rfl ?_
      cases h
      exact ih _ _  _ (k1 _ rfl) hX

set_option maxRecDepth 10000 in
theorem run_X12_countOn {M : Mem} {M2 : Mem}   (h : m_X12_countOn M = some (M2)) : RunV 1 yX12_countOn cX12_countOn 10 none [vR 55] M M2 := by
  refine runV_of (lv := [(0, vR 55)]) (by decide +kernel) rfl (Nat.le_of_ble_eq_true rfl) rfl ?_
  intro G hQ
  unfold m_X12_countOn at h
  refine r_aload_n dX12_countOn_0 rfl 0 rfl ?_
  refine r_getI (j := 0) (jz := 0) dX12_countOn_1 f_X12_88 rfl rfl rfl ?_
  refine r_aload_n dX12_countOn_4 rfl 0 rfl ?_
  refine r_getI (j := 1) (jz := 1) dX12_countOn_5 f_X12_92 rfl rfl rfl ?_
  refine r_imul dX12_countOn_8 ?_
  refine r_istore_n (lv2 := [(1, vI ((gI M 55 0) * (gI M 55 1))), (0, vR 55)]) dX12_countOn_9 rfl (by decide) rfl ?_
  refine r_iconst dX12_countOn_10 ?_
  refine r_istore_n (lv2 := [(2, vI 0), (1, vI ((gI M 55 0) * (gI M 55 1))), (0, vR 55)]) dX12_countOn_11 rfl (by decide) rfl ?_
  obtain ⟨y6, M7, h9, h⟩ := of_bd2 h
  refine r_sub (lv2 := [(0, vR 55), (1, vI ((gI M 55 0) * (gI M 55 1))), (2, vI 0)]) [2, 1, 0] rfl ?_
  refine lp_X12_countOn_L12 ((gI M 55 0) * (gI M 55 1))  (fun w => w = (y6, M7)) ?_ FU 0 M _ h9 rfl
  intro z0 z1 hw
  cases hw
  refine r_iload_n dX12_countOn_49 rfl 1 rfl ?_
  refine r_iconst dX12_countOn_50 ?_
  refine r_isub dX12_countOn_51 ?_
  refine r_istore_n (lv2 := [(2, vI (((gI M 55 0) * (gI M 55 1)) - 1)), (0, vR 55), (1, vI ((gI M 55 0) * (gI M 55 1)))]) dX12_countOn_52 rfl (by decide) rfl ?_
  obtain ⟨y31, M32, h9, h⟩ := of_bd2 h
  refine r_sub (lv2 := [(0, vR 55), (2, vI (((gI M 55 0) * (gI M 55 1)) - 1))]) [1, 0] rfl ?_
  refine lp_X12_countOn_L53   (fun w => w = (y31, M32)) ?_ FU (((gI M 55 0) * (gI M 55 1)) - 1) M7 _ h9 rfl
  intro z0 z1 hw
  cases hw
  cases h
  exact hQ _ _ dX12_countOn_246

def m_X12_countAll (M : Mem) : Option (Int64 × Mem) :=
  bd1 (m_X12_countOn M) fun M2 =>
  some ((gL M2 64 (wr 0)), M2)
set_option maxRecDepth 10000 in
theorem run_X12_countAll {M : Mem} {M2 : Mem} {r : Int64}   (h : m_X12_countAll M = some (r, M2)) : RunL 2 yX12_countAll cX12_countAll 1 (some .long) [vR 55] M r M2 := by
  refine runL_of (lv := [(0, vR 55)]) (by decide +kernel) rfl (Nat.le_of_ble_eq_true rfl) rfl ?_
  intro G hQ
  unfold m_X12_countAll at h
  refine r_aload_n dX12_countAll_0 rfl 0 rfl ?_
  obtain ⟨M2, hc1, h⟩ := of_bd1 h
  refine r_callVV (st := []) dX12_countAll_1 v_X12_166 (run_X12_countOn hc1) (by decide) (by decide) rfl rfl (Nat.le_of_ble_eq_true rfl) rfl ?_
  refine r_aload_n dX12_countAll_4 rfl 0 rfl ?_
  refine r_getR (j := 12) (v := 64) dX12_countAll_5 f_X12_35 rfl rfl rfl ?_
  refine r_iconst dX12_countAll_8 ?_
  refine r_lald dX12_countAll_9 rfl (by decide) ?_
  cases h
  exact hQ _ _ dX12_countAll_10

def m_X12_pavings (M : Mem) : Option (Int64 × Mem) :=
  bd1 (m_X12_allows M 1) fun M2 =>
  bd2 (m_X12_countAll M2) fun r4 M5 =>
  some (r4, M5)
set_option maxRecDepth 10000 in
theorem run_X12_pavings {M : Mem} {M2 : Mem} {r : Int64}   (h : m_X12_pavings M = some (r, M2)) : RunL 3 yX12_pavings cX12_pavings 1 (some .long) [vR 55] M r M2 := by
  refine runL_of (lv := [(0, vR 55)]) (by decide +kernel) rfl (Nat.le_of_ble_eq_true rfl) rfl ?_
  intro G hQ
  unfold m_X12_pavings at h
  refine r_aload_n dX12_pavings_0 rfl 0 rfl ?_
  refine r_iconst dX12_pavings_1 ?_
  obtain ⟨M2, hc1, h⟩ := of_bd1 h
  refine r_callVV (st := []) dX12_pavings_2 v_X12_169 (run_X12_allows hc1) (by decide) (by decide) rfl rfl (Nat.le_of_ble_eq_true rfl) rfl ?_
  refine r_aload_n dX12_pavings_5 rfl 0 rfl ?_
  obtain ⟨r4, M5, hc3, h⟩ := of_bd2 h
  refine r_callVL (st := []) dX12_pavings_6 v_X12_173 (run_X12_countAll hc3) (by decide) (by decide) rfl rfl (Nat.le_of_ble_eq_true rfl) rfl ?_
  cases h
  exact hQ _ _ dX12_pavings_9

def m_X12_shareOf (M : Mem) (a1 : Int) : Option (Int64 × Mem) :=
  bd1 (m_X12_allows M 1) fun M2 =>
  if 0 ≤ wr a1 ∧ wr a1 < 128 then
  if wr (gI M2 63 (wr a1)) = 0 then
    some ((0 : Int64), M2)
  else
    bd1 (m_X12_musts M2 a1) fun M6 =>
    bd2 (m_X12_countAll M6) fun r8 M9 =>
    some (r8, M9)
  else none
set_option maxRecDepth 10000 in
theorem run_X12_shareOf {M : Mem} {M2 : Mem} {a1 : Int} {r : Int64}   (h : m_X12_shareOf M a1 = some (r, M2)) : RunL 3 yX12_shareOf cX12_shareOf 2 (some .long) [vR 55, vI a1] M r M2 := by
  refine runL_of (lv := [(0, vR 55), (1, vI a1)]) (by decide +kernel) rfl (Nat.le_of_ble_eq_true rfl) rfl ?_
  intro G hQ
  unfold m_X12_shareOf at h
  refine r_aload_n dX12_shareOf_0 rfl 0 rfl ?_
  refine r_iconst dX12_shareOf_1 ?_
  obtain ⟨M2, hc1, h⟩ := of_bd1 h
  refine r_callVV (st := []) dX12_shareOf_2 v_X12_169 (run_X12_allows hc1) (by decide) (by decide) rfl rfl (Nat.le_of_ble_eq_true rfl) rfl ?_
  refine r_aload_n dX12_shareOf_5 rfl 0 rfl ?_
  refine r_getR (j := 11) (v := 63) dX12_shareOf_6 f_X12_32 rfl rfl rfl ?_
  refine r_iload_n dX12_shareOf_9 rfl 1 rfl ?_
  obtain ⟨c3, h⟩ := of_ck h
  refine r_zald dX12_shareOf_10 rfl c3 ?_
  by_cases c4 : wr (gI M2 63 (wr a1)) = 0
  · rw [if_pos c4] at h
    refine r_if_ne (tgt := 16) dX12_shareOf_11 (by decide) (fun q => absurd c4 q) (fun _ => ?_)
    refine r_lconst (v := 0) dX12_shareOf_14 rfl ?_
    cases h
    exact hQ _ _ dX12_shareOf_15
  · rw [if_neg c4] at h
    refine r_if_ne (tgt := 16) dX12_shareOf_11 (by decide) (fun _ => ?_) (fun q => absurd q c4)
    refine r_aload_n dX12_shareOf_16 rfl 0 rfl ?_
    refine r_iload_n dX12_shareOf_17 rfl 1 rfl ?_
    obtain ⟨M6, hc5, h⟩ := of_bd1 h
    refine r_callVV (st := []) dX12_shareOf_18 v_X12_160 (run_X12_musts hc5) (by decide) (by decide) rfl rfl (Nat.le_of_ble_eq_true rfl) rfl ?_
    refine r_aload_n dX12_shareOf_21 rfl 0 rfl ?_
    obtain ⟨r8, M9, hc7, h⟩ := of_bd2 h
    refine r_callVL (st := []) dX12_shareOf_22 v_X12_173 (run_X12_countAll hc7) (by decide) (by decide) rfl rfl (Nat.le_of_ble_eq_true rfl) rfl ?_
    cases h
    exact hQ _ _ dX12_shareOf_25

def m_X12_share (M : Mem) (a1 : Int) : Option (Int64 × Mem) :=
  bd1 (m_X12_isBrick M a1) fun b2 =>
  bd2 (
    if wr (bI b2) = 0 then
      some ((-1), M)
    else
      bd2 (m_X12_shareOf M a1) fun r5 M6 =>
      some (r5, M6)) fun (v7 : Int64) (M8 : Mem) =>
  some (v7, M8)
set_option maxRecDepth 10000 in
theorem run_X12_share {M : Mem} {M2 : Mem} {a1 : Int} {r : Int64}   (h : m_X12_share M a1 = some (r, M2)) : RunL 4 yX12_share cX12_share 2 (some .long) [vR 55, vI a1] M r M2 := by
  refine runL_of (lv := [(0, vR 55), (1, vI a1)]) (by decide +kernel) rfl (Nat.le_of_ble_eq_true rfl) rfl ?_
  intro G hQ
  unfold m_X12_share at h
  refine r_aload_n dX12_share_0 rfl 0 rfl ?_
  refine r_iload_n dX12_share_1 rfl 1 rfl ?_
  obtain ⟨b2, hc1, h⟩ := of_bd1 h
  refine r_callVI (st := []) dX12_share_2 v_X12_153 (run_X12_isBrick hc1) (by decide) (by decide) rfl rfl (Nat.le_of_ble_eq_true rfl) rfl ?_
  obtain ⟨v7, M8, h9, h⟩ := of_bd2 h
  have kJ : Ex G 4 cX12_share RX12 2 19 [] [vL v7] M8 := by
    cases h
    exact hQ _ _ dX12_share_19
  clear h
  have h := h9
  clear h9
  by_cases c3 : wr (bI b2) = 0
  · rw [if_pos c3] at h
    refine r_if_eq (tgt := 16) dX12_share_5 (by decide) (fun _ => ?_) (fun q => absurd c3 q)
    refine r_ldc2 (v := (-1)) dX12_share_16 kl_X12_181 ?_
    refine r_sub (lv2 := []) [] rfl ?_
    cases h
    exact kJ
  · rw [if_neg c3] at h
    refine r_if_eq (tgt := 16) dX12_share_5 (by decide) (fun q => absurd q c3) (fun _ => ?_)
    refine r_aload_n dX12_share_8 rfl 0 rfl ?_
    refine r_iload_n dX12_share_9 rfl 1 rfl ?_
    obtain ⟨r5, M6, hc4, h⟩ := of_bd2 h
    refine r_callVL (st := []) dX12_share_10 v_X12_177 (run_X12_shareOf hc4) (by decide) (by decide) rfl rfl (Nat.le_of_ble_eq_true rfl) rfl ?_
    refine r_goto (tgt := 19) dX12_share_13 (by decide) ?_
    refine r_sub (lv2 := []) [] rfl ?_
    cases h
    exact kJ

def m_X12_sure_L32 (M : Mem) (p1 : Int) (p2 : Int64) (x4 : Int) (x5 : Int) : Option ((Int × Int × Mem) ⊕ (Int × Int × Mem)) :=
  if wr ((2 * (gI M 55 0)) * (gI M 55 1)) ≤ wr x5 then
    some (.inr (x4, x5, M))
  else
    bd1 (m_X12_isBrick M x5) fun b10 =>
    bd2 (
      if wr (bI b10) = 0 then
        some (0, M)
      else
        bd2 (m_X12_shareOf M x5) fun r13 M14 =>
        lt (if wr p1 = 0 then p2 else (0 : Int64)) fun (v16 : Int64) =>
        if r13 = v16 then
          some (1, M14)
        else
          some (0, M14)) fun (v18 : Int) (M19 : Mem) =>
    some (.inl ((x4 + v18), (x5 + 1), M19))
def m_X12_sure (M : Mem) (a1 : Int) : Option (Int × Mem) :=
  bd1 (m_X12_in (i2l a1) (0 : Int64) (1 : Int64)) fun b2 =>
  if wr (bI b2) = 0 then
    some ((-1), M)
  else
    bd2 (m_X12_pavings M) fun r5 M6 =>
    if r5 = (0 : Int64) then
      some ((-4), M6)
    else
      bd3 (itr (fun s => m_X12_sure_L32 s.2.2 a1 r5 s.1 s.2.1) FU (0, 0, M6)) fun y20 y21 M22 =>
      some (y20, M22)
set_option maxRecDepth 10000 in
theorem lp_X12_sure_L32 {G : Gx} (p1 : Int) (p2 : Int64)   (X : (Int × Int × Mem) → Prop) (hX1 : ∀ (x4 : Int) (x5 : Int) (M : Mem), X (x4, x5, M) → Ex G 4 cX12_sure RX12 6 92 [(0, vR 55), (1, vI p1), (2, vL p2), (4, vI x4), (5, vI x5)] [] M) : ∀ (nn : Nat) (x4 : Int) (x5 : Int) (M : Mem) (out : Int × Int × Mem), itr (fun s => m_X12_sure_L32 s.2.2 p1 p2 s.1 s.2.1) nn (x4, x5, M) = some out → X out → Ex G 4 cX12_sure RX12 6 32 [(0, vR 55), (1, vI p1), (2, vL p2), (4, vI x4), (5, vI x5)] [] M := by
  intro nn
  induction nn with
  | zero =>
    intro x4 x5 M out h _
    cases h
  | succ nn ih =>
    intro x4 x5 M out h0 hX
    obtain ⟨w, h, k1, k2⟩ := itr_inv h0
    have h : m_X12_sure_L32 M p1 p2 x4 x5 = some w := h
    unfold m_X12_sure_L32 at h
    refine r_iload dX12_sure_32 4 rfl ?_
    refine r_iconst dX12_sure_34 ?_
    refine r_aload_n dX12_sure_35 rfl 0 rfl ?_
    refine r_getI (j := 0) (jz := 0) dX12_sure_36 f_X12_88 rfl rfl rfl ?_
    refine r_imul dX12_sure_39 ?_
    refine r_aload_n dX12_sure_40 rfl 0 rfl ?_
    refine r_getI (j := 1) (jz := 1) dX12_sure_41 f_X12_92 rfl rfl rfl ?_
    refine r_imul dX12_sure_44 ?_
    by_cases c8 : wr ((2 * (gI M 55 0)) * (gI M 55 1)) ≤ wr x5
    · rw [if_pos c8] at h
      refine r_icmp_ge (tgt := 92) dX12_sure_45 (by decide) (fun _ => ?_) (fun q => absurd c8 q)
      cases h
      cases k2 _ rfl
      exact hX1 _ _ _ hX
    · rw [if_neg c8] at h
      refine r_icmp_ge (tgt := 92) dX12_sure_45 (by decide) (fun q => absurd q c8) (fun _ => ?_)
      refine r_iload dX12_sure_48 3 rfl ?_
      refine r_aload_n dX12_sure_50 rfl 0 rfl ?_
      refine r_iload dX12_sure_51 4 rfl ?_
      obtain ⟨b10, hc9, h⟩ := of_bd1 h
      refine r_callVI (st := [vI x4]) dX12_sure_53 v_X12_153 (run_X12_isBrick hc9) (by decide) (by decide) rfl rfl (Nat.le_of_ble_eq_true rfl) rfl ?_
      obtain ⟨v18, M19, h9, h⟩ := of_bd2 h
      have kJ : Ex G 4 cX12_sure RX12 6 83 [(0, vR 55), (1, vI p1), (2, vL p2), (5, vI x5)] [vI v18, vI x4] M19 := by
        refine r_iadd dX12_sure_83 ?_
        refine r_istore (lv2 := [(4, vI (x4 + v18)), (0, vR 55), (1, vI p1), (2, vL p2), (5, vI x5)]) dX12_sure_84 (by decide) rfl ?_
        refine r_iinc (lv2 := [(5, vI (x5 + 1)), (4, vI (x4 + v18)), (0, vR 55), (1, vI p1), (2, vL p2)]) dX12_sure_86 4 rfl (by decide) rfl ?_
        refine r_goto (tgt := 32) dX12_sure_89 (by decide) ?_
        refine r_sub (lv2 := [(0, vR 55), (1, vI p1), (2, vL p2), (4, vI (x4 + v18)), (5, vI (x5 + 1))]) [2, 3, 4, 1, 0] rfl ?_
        cases h
        exact ih _ _ _  _ (k1 _ rfl) hX
      clear h
      have h := h9
      clear h9
      by_cases c11 : wr (bI b10) = 0
      · rw [if_pos c11] at h
        refine r_if_eq (tgt := 82) dX12_sure_56 (by decide) (fun _ => ?_) (fun q => absurd c11 q)
        refine r_iconst dX12_sure_82 ?_
        refine r_sub (lv2 := [(0, vR 55), (1, vI p1), (2, vL p2), (5, vI x5)]) [0, 1, 2, 4] rfl ?_
        cases h
        exact kJ
      · rw [if_neg c11] at h
        refine r_if_eq (tgt := 82) dX12_sure_56 (by decide) (fun q => absurd q c11) (fun _ => ?_)
        refine r_aload_n dX12_sure_59 rfl 0 rfl ?_
        refine r_iload dX12_sure_60 4 rfl ?_
        obtain ⟨r13, M14, hc12, h⟩ := of_bd2 h
        refine r_callVL (st := [vI x4]) dX12_sure_62 v_X12_177 (run_X12_shareOf hc12) (by decide) (by decide) rfl rfl (Nat.le_of_ble_eq_true rfl) rfl ?_
        refine r_iload_n dX12_sure_65 rfl 1 rfl ?_
        obtain ⟨v16, ev16, h⟩ := of_lt h
        have kJ : Ex G 4 cX12_sure RX12 6 74 [(0, vR 55), (1, vI p1), (2, vL p2), (5, vI x5)] [vL v16, vL r13, vI x4] M14 := by
          by_cases c17 : r13 = v16
          · rw [if_pos c17] at h
            refine r_lcmp_ne (tgt := 82) dX12_sure_74 dX12_sure_75 (by decide) (fun q => absurd c17 q) (fun _ => ?_)
            refine r_iconst dX12_sure_78 ?_
            refine r_goto (tgt := 83) dX12_sure_79 (by decide) ?_
            cases h
            exact kJ
          · rw [if_neg c17] at h
            refine r_lcmp_ne (tgt := 82) dX12_sure_74 dX12_sure_75 (by decide) (fun _ => ?_) (fun q => absurd q c17)
            refine r_iconst dX12_sure_82 ?_
            cases h
            exact kJ
        clear h
        by_cases c15 : wr p1 = 0
        · skip
          refine r_if_ne (tgt := 73) dX12_sure_66 (by decide) (fun q => absurd c15 q) (fun _ => ?_)
          refine r_lload_n dX12_sure_69 rfl 2 rfl ?_
          refine r_goto (tgt := 74) dX12_sure_70 (by decide) ?_
          rw [show v16 = p2 from by rw [ev16, if_pos c15]] at kJ
          refine r_sub (lv2 := [(0, vR 55), (1, vI p1), (2, vL p2), (5, vI x5)]) [0, 1, 2, 4] rfl ?_
          exact kJ
        · skip
          refine r_if_ne (tgt := 73) dX12_sure_66 (by decide) (fun _ => ?_) (fun q => absurd q c15)
          refine r_lconst (v := 0) dX12_sure_73 rfl ?_
          rw [show v16 = (0 : Int64) from by rw [ev16, if_neg c15]] at kJ
          refine r_sub (lv2 := [(0, vR 55), (1, vI p1), (2, vL p2), (5, vI x5)]) [0, 1, 2, 4] rfl ?_
          exact kJ

set_option maxRecDepth 10000 in
theorem run_X12_sure {M : Mem} {M2 : Mem} {a1 : Int} {r : Int}   (h : m_X12_sure M a1 = some (r, M2)) : RunI 4 yX12_sure cX12_sure 6 (some .int) [vR 55, vI a1] M r M2 := by
  refine runI_of (lv := [(0, vR 55), (1, vI a1)]) (by decide +kernel) (Or.inl rfl) (Nat.le_of_ble_eq_true rfl) rfl ?_
  intro G hQ
  unfold m_X12_sure at h
  refine r_iload_n dX12_sure_0 rfl 1 rfl ?_
  refine r_i2l dX12_sure_1 ?_
  refine r_lconst (v := 0) dX12_sure_2 rfl ?_
  refine r_lconst (v := 1) dX12_sure_3 rfl ?_
  obtain ⟨b2, hc1, h⟩ := of_bd1 h
  refine r_callSI (st := []) dX12_sure_4 v_X12_100 (run_X12_in hc1) (by decide) (by decide) rfl (Nat.le_of_ble_eq_true rfl) rfl ?_
  by_cases c3 : wr (bI b2) = 0
  · rw [if_pos c3] at h
    refine r_if_ne (tgt := 12) dX12_sure_7 (by decide) (fun q => absurd c3 q) (fun _ => ?_)
    refine r_iconst dX12_sure_10 ?_
    cases h
    exact hQ _ _ dX12_sure_11
  · rw [if_neg c3] at h
    refine r_if_ne (tgt := 12) dX12_sure_7 (by decide) (fun _ => ?_) (fun q => absurd q c3)
    refine r_aload_n dX12_sure_12 rfl 0 rfl ?_
    obtain ⟨r5, M6, hc4, h⟩ := of_bd2 h
    refine r_callVL (st := []) dX12_sure_13 v_X12_183 (run_X12_pavings hc4) (by decide) (by decide) rfl rfl (Nat.le_of_ble_eq_true rfl) rfl ?_
    refine r_lstore_n (lv2 := [(2, vL r5), (0, vR 55), (1, vI a1)]) dX12_sure_16 rfl (by decide) rfl ?_
    refine r_lload_n dX12_sure_17 rfl 0 rfl ?_
    refine r_lconst (v := 0) dX12_sure_18 rfl ?_
    by_cases c7 : r5 = (0 : Int64)
    · rw [if_pos c7] at h
      refine r_lcmp_ne (tgt := 26) dX12_sure_19 dX12_sure_20 (by decide) (fun q => absurd c7 q) (fun _ => ?_)
      refine r_bipush dX12_sure_23 (by decide) ?_
      cases h
      exact hQ _ _ dX12_sure_25
    · rw [if_neg c7] at h
      refine r_lcmp_ne (tgt := 26) dX12_sure_19 dX12_sure_20 (by decide) (fun _ => ?_) (fun q => absurd q c7)
      refine r_iconst dX12_sure_26 ?_
      refine r_istore (lv2 := [(4, vI 0), (2, vL r5), (0, vR 55), (1, vI a1)]) dX12_sure_27 (by decide) rfl ?_
      refine r_iconst dX12_sure_29 ?_
      refine r_istore (lv2 := [(5, vI 0), (4, vI 0), (2, vL r5), (0, vR 55), (1, vI a1)]) dX12_sure_30 (by decide) rfl ?_
      obtain ⟨y20, y21, M22, h9, h⟩ := of_bd3 h
      refine r_sub (lv2 := [(0, vR 55), (1, vI a1), (2, vL r5), (4, vI 0), (5, vI 0)]) [3, 4, 2, 1, 0] rfl ?_
      refine lp_X12_sure_L32 a1 r5  (fun w => w = (y20, y21, M22)) ?_ FU 0 0 M6 _ h9 rfl
      intro z0 z1 z2 hw
      cases hw
      refine r_iload dX12_sure_92 3 rfl ?_
      cases h
      exact hQ _ _ dX12_sure_94

def m_X12_isSlot (a0 : Int) : Option (Bool) :=
  bd1 (m_X12_in (i2l a0) (0 : Int64) (3)) fun b2 =>
  some b2
set_option maxRecDepth 10000 in
theorem run_X12_isSlot {M : Mem} {a0 : Int} {r : Bool}   (h : m_X12_isSlot a0 = some r) : RunI 1 yX12_isSlot cX12_isSlot 1 (some .boolean) [vI a0] M (bI r) M := by
  refine runI_of (lv := [(0, vI a0)]) (by decide +kernel) (Or.inr ⟨rfl, bI_01 r⟩) (Nat.le_of_ble_eq_true rfl) rfl ?_
  intro G hQ
  unfold m_X12_isSlot at h
  refine r_iload_n dX12_isSlot_0 rfl 0 rfl ?_
  refine r_i2l dX12_isSlot_1 ?_
  refine r_lconst (v := 0) dX12_isSlot_2 rfl ?_
  refine r_ldc2 (v := (3)) dX12_isSlot_3 kl_X12_186 ?_
  obtain ⟨b2, hc1, h⟩ := of_bd1 h
  refine r_callSI (st := []) dX12_isSlot_6 v_X12_100 (run_X12_in hc1) (by decide) (by decide) rfl (Nat.le_of_ble_eq_true rfl) rfl ?_
  cases h
  exact hQ _ _ dX12_isSlot_9

def m_X12_lays (M : Mem) (a1 : Int) (a2 : Int) : Option (Mem) :=
  if 0 ≤ wr ((64 * a1) + (idv a2 2)) ∧ wr ((64 * a1) + (idv a2 2)) < 256 then
  lt (sI M 60 (wr ((64 * a1) + (idv a2 2))) a2) fun M2 =>
  bd1 (m_X12_otherOf M2 a2) fun r4 =>
  if 0 ≤ wr ((64 * a1) + r4) ∧ wr ((64 * a1) + r4) < 256 then
  lt (sI M2 60 (wr ((64 * a1) + r4)) a2) fun M6 =>
  some M6
  else none
  else none
set_option maxRecDepth 10000 in
theorem run_X12_lays {M : Mem} {M2 : Mem} {a1 : Int} {a2 : Int}   (h : m_X12_lays M a1 a2 = some (M2)) : RunV 1 yX12_lays cX12_lays 3 none [vR 55, vI a1, vI a2] M M2 := by
  refine runV_of (lv := [(0, vR 55), (1, vI a1), (2, vI a2)]) (by decide +kernel) rfl (Nat.le_of_ble_eq_true rfl) rfl ?_
  intro G hQ
  unfold m_X12_lays at h
  refine r_aload_n dX12_lays_0 rfl 0 rfl ?_
  refine r_getR (j := 6) (v := 60) dX12_lays_1 f_X12_23 rfl rfl rfl ?_
  refine r_bipush dX12_lays_4 (by decide) ?_
  refine r_iload_n dX12_lays_6 rfl 1 rfl ?_
  refine r_imul dX12_lays_7 ?_
  refine r_iload_n dX12_lays_8 rfl 2 rfl ?_
  refine r_iconst dX12_lays_9 ?_
  refine r_idiv dX12_lays_10 (by decide) ?_
  refine r_iadd dX12_lays_11 ?_
  refine r_iload_n dX12_lays_12 rfl 2 rfl ?_
  obtain ⟨c1, h⟩ := of_ck h
  obtain ⟨M2, eM2, h⟩ := of_lt h
  refine r_iast dX12_lays_13 rfl c1 ?_
  rw [← eM2]
  refine r_aload_n dX12_lays_14 rfl 0 rfl ?_
  refine r_getR (j := 6) (v := 60) dX12_lays_15 f_X12_23 rfl rfl rfl ?_
  refine r_bipush dX12_lays_18 (by decide) ?_
  refine r_iload_n dX12_lays_20 rfl 1 rfl ?_
  refine r_imul dX12_lays_21 ?_
  refine r_aload_n dX12_lays_22 rfl 0 rfl ?_
  refine r_iload_n dX12_lays_23 rfl 2 rfl ?_
  obtain ⟨r4, hc3, h⟩ := of_bd1 h
  refine r_callVI (st := [vI (64 * a1), vR 60]) dX12_lays_24 v_X12_108 (run_X12_otherOf hc3) (by decide) (by decide) rfl rfl (Nat.le_of_ble_eq_true rfl) rfl ?_
  refine r_iadd dX12_lays_27 ?_
  refine r_iload_n dX12_lays_28 rfl 2 rfl ?_
  obtain ⟨c5, h⟩ := of_ck h
  obtain ⟨M6, eM6, h⟩ := of_lt h
  refine r_iast dX12_lays_29 rfl c5 ?_
  rw [← eM6]
  cases h
  exact hQ _ _ dX12_lays_30

def m_X12_place_L42 (M : Mem) (p1 : Int) (x6 : Int64) (x8 : Int) (x9 : Int) (x10 : Int) : Option ((Int64 × Int × Int × Int × Mem) ⊕ (Int64 × Int × Int × Int × Mem)) :=
  if wr ((gI M 55 0) * (gI M 55 1)) ≤ wr x10 then
    some (.inr (x6, x8, x9, x10, M))
  else
    if 0 ≤ wr x10 ∧ wr x10 < 64 then
    bd4 (
      if wr (gI M 56 (wr x10)) = 0 then
        some (x6, x8, x9, M)
      else
        if wr (iand x8 1) = 0 then
          bd1 (m_X12_canEast M x10 x8) fun b14 =>
          bd1 (
            if wr (bI b14) = 0 then
              some ((0 : Int64))
            else
              if 0 ≤ wr ((256 * (x10 + 1)) + (sar (ior x8 2) 1)) ∧ wr ((256 * (x10 + 1)) + (sar (ior x8 2) 1)) < 16640 then
              some ((gL M 64 (wr ((256 * (x10 + 1)) + (sar (ior x8 2) 1)))))
              else none) fun (v17 : Int64) =>
          lt (if v17 ≤ x6 then 0 else 1) fun (v19 : Int) =>
          lt (if wr v19 = 0 then v17 else (0 : Int64)) fun (v21 : Int64) =>
          lt (if wr v19 = 0 then (shl 1 (gI M 55 0)) else 2) fun (v23 : Int) =>
          lt (if wr v19 = 0 then ((2 * x10) + 1) else (2 * x10)) fun (v25 : Int) =>
          bd1 (m_X12_lays M p1 v25) fun M27 =>
          some ((x6 - v21), (ior x8 v23), (x9 + 1), M27)
        else
          some (x6, x8, x9, M)) fun (v28 : Int64) (v29 : Int) (v30 : Int) (M31 : Mem) =>
    some (.inl (v28, (sar v29 1), v30, (x10 + 1), M31))
    else none
def m_X12_place (M : Mem) (a1 : Int) (a2 : Int64) : Option (Int × Mem) :=
  bd1 (m_X12_isSlot a1) fun b2 =>
  if wr (bI b2) = 0 then
    some ((-1), M)
  else
    bd2 (m_X12_pavings M) fun r5 M6 =>
    if a2 < (0 : Int64) then
      some ((-1), M6)
    else
      if a2 < r5 then
        bd5 (itr (fun s => m_X12_place_L42 s.2.2.2.2 a1 s.1 s.2.1 s.2.2.1 s.2.2.2.1) FU (a2, 0, 0, 0, M6)) fun y32 y33 y34 y35 M36 =>
        if 0 ≤ wr a1 ∧ wr a1 < 4 then
        lt (sI M36 59 (wr a1) 1) fun M38 =>
        some (y34, M38)
        else none
      else
        some ((-1), M6)
set_option maxRecDepth 10000 in
theorem lp_X12_place_L42 {G : Gx} (p1 : Int)   (X : (Int64 × Int × Int × Int × Mem) → Prop) (hX1 : ∀ (x6 : Int64) (x8 : Int) (x9 : Int) (x10 : Int) (M : Mem), X (x6, x8, x9, x10, M) → Ex G 4 cX12_place RX12 14 199 [(0, vR 55), (1, vI p1), (6, vL x6), (8, vI x8), (9, vI x9), (10, vI x10)] [] M) : ∀ (nn : Nat) (x6 : Int64) (x8 : Int) (x9 : Int) (x10 : Int) (M : Mem) (out : Int64 × Int × Int × Int × Mem), itr (fun s => m_X12_place_L42 s.2.2.2.2 p1 s.1 s.2.1 s.2.2.1 s.2.2.2.1) nn (x6, x8, x9, x10, M) = some out → X out → Ex G 4 cX12_place RX12 14 42 [(0, vR 55), (1, vI p1), (6, vL x6), (8, vI x8), (9, vI x9), (10, vI x10)] [] M := by
  intro nn
  induction nn with
  | zero =>
    intro x6 x8 x9 x10 M out h _
    cases h
  | succ nn ih =>
    intro x6 x8 x9 x10 M out h0 hX
    obtain ⟨w, h, k1, k2⟩ := itr_inv h0
    have h : m_X12_place_L42 M p1 x6 x8 x9 x10 = some w := h
    unfold m_X12_place_L42 at h
    refine r_iload dX12_place_42 5 rfl ?_
    refine r_aload_n dX12_place_44 rfl 0 rfl ?_
    refine r_getI (j := 0) (jz := 0) dX12_place_45 f_X12_88 rfl rfl rfl ?_
    refine r_aload_n dX12_place_48 rfl 0 rfl ?_
    refine r_getI (j := 1) (jz := 1) dX12_place_49 f_X12_92 rfl rfl rfl ?_
    refine r_imul dX12_place_52 ?_
    by_cases c9 : wr ((gI M 55 0) * (gI M 55 1)) ≤ wr x10
    · rw [if_pos c9] at h
      refine r_icmp_ge (tgt := 199) dX12_place_53 (by decide) (fun _ => ?_) (fun q => absurd c9 q)
      cases h
      cases k2 _ rfl
      exact hX1 _ _ _ _ _ hX
    · rw [if_neg c9] at h
      refine r_icmp_ge (tgt := 199) dX12_place_53 (by decide) (fun q => absurd q c9) (fun _ => ?_)
      refine r_aload_n dX12_place_56 rfl 0 rfl ?_
      refine r_getR (j := 2) (v := 56) dX12_place_57 f_X12_7 rfl rfl rfl ?_
      refine r_iload dX12_place_60 5 rfl ?_
      obtain ⟨c10, h⟩ := of_ck h
      refine r_zald dX12_place_62 rfl c10 ?_
      obtain ⟨v28, v29, v30, M31, h9, h⟩ := of_bd4 h
      have kJ : Ex G 4 cX12_place RX12 14 187 [(0, vR 55), (1, vI p1), (6, vL v28), (8, vI v29), (9, vI v30), (10, vI x10)] [] M31 := by
        refine r_iload dX12_place_187 3 rfl ?_
        refine r_iconst dX12_place_189 ?_
        refine r_ishr dX12_place_190 ?_
        refine r_istore (lv2 := [(8, vI (sar v29 1)), (0, vR 55), (1, vI p1), (6, vL v28), (9, vI v30), (10, vI x10)]) dX12_place_191 (by decide) rfl ?_
        refine r_iinc (lv2 := [(10, vI (x10 + 1)), (8, vI (sar v29 1)), (0, vR 55), (1, vI p1), (6, vL v28), (9, vI v30)]) dX12_place_193 5 rfl (by decide) rfl ?_
        refine r_goto (tgt := 42) dX12_place_196 (by decide) ?_
        refine r_sub (lv2 := [(0, vR 55), (1, vI p1), (6, vL v28), (8, vI (sar v29 1)), (9, vI v30), (10, vI (x10 + 1))]) [2, 3, 4, 1, 5, 0] rfl ?_
        cases h
        exact ih _ _ _ _ _  _ (k1 _ rfl) hX
      clear h
      have h := h9
      clear h9
      by_cases c11 : wr (gI M 56 (wr x10)) = 0
      · rw [if_pos c11] at h
        refine r_if_eq (tgt := 187) dX12_place_63 (by decide) (fun _ => ?_) (fun q => absurd c11 q)
        cases h
        exact kJ
      · rw [if_neg c11] at h
        refine r_if_eq (tgt := 187) dX12_place_63 (by decide) (fun q => absurd q c11) (fun _ => ?_)
        refine r_iload dX12_place_66 3 rfl ?_
        refine r_iconst dX12_place_68 ?_
        refine r_iand dX12_place_69 ?_
        by_cases c12 : wr (iand x8 1) = 0
        · rw [if_pos c12] at h
          refine r_if_ne (tgt := 187) dX12_place_70 (by decide) (fun q => absurd c12 q) (fun _ => ?_)
          refine r_aload_n dX12_place_73 rfl 0 rfl ?_
          refine r_iload dX12_place_74 5 rfl ?_
          refine r_iload dX12_place_76 3 rfl ?_
          obtain ⟨b14, hc13, h⟩ := of_bd1 h
          refine r_callVI (st := []) dX12_place_78 v_X12_163 (run_X12_canEast hc13) (by decide) (by decide) rfl rfl (Nat.le_of_ble_eq_true rfl) rfl ?_
          obtain ⟨v17, h9, h⟩ := of_bd1 h
          have kJ : Ex G 4 cX12_place RX12 14 108 [(0, vR 55), (1, vI p1), (6, vL x6), (8, vI x8), (9, vI x9), (10, vI x10)] [vL v17] M := by
            refine r_lstore (lv2 := [(11, vL v17), (0, vR 55), (1, vI p1), (6, vL x6), (8, vI x8), (9, vI x9), (10, vI x10)]) dX12_place_108 (by decide) rfl ?_
            refine r_lload dX12_place_110 3 rfl ?_
            refine r_lload dX12_place_112 0 rfl ?_
            obtain ⟨v19, ev19, h⟩ := of_lt h
            have kJ : Ex G 4 cX12_place RX12 14 123 [(0, vR 55), (1, vI p1), (6, vL x6), (8, vI x8), (9, vI x9), (10, vI x10), (11, vL v17)] [vI v19] M := by
              refine r_istore (lv2 := [(13, vI v19), (0, vR 55), (1, vI p1), (6, vL x6), (8, vI x8), (9, vI x9), (10, vI x10), (11, vL v17)]) dX12_place_123 (by decide) rfl ?_
              refine r_lload dX12_place_125 3 rfl ?_
              refine r_iload dX12_place_127 0 rfl ?_
              obtain ⟨v21, ev21, h⟩ := of_lt h
              have kJ : Ex G 4 cX12_place RX12 14 138 [(0, vR 55), (1, vI p1), (8, vI x8), (9, vI x9), (10, vI x10), (13, vI v19)] [vL v21, vL x6] M := by
                refine r_lsub dX12_place_138 ?_
                refine r_lstore (lv2 := [(6, vL (x6 - v21)), (0, vR 55), (1, vI p1), (8, vI x8), (9, vI x9), (10, vI x10), (13, vI v19)]) dX12_place_139 (by decide) rfl ?_
                refine r_iload dX12_place_141 3 rfl ?_
                refine r_iload dX12_place_143 6 rfl ?_
                obtain ⟨v23, ev23, h⟩ := of_lt h
                have kJ : Ex G 4 cX12_place RX12 14 158 [(0, vR 55), (1, vI p1), (6, vL (x6 - v21)), (9, vI x9), (10, vI x10), (13, vI v19)] [vI v23, vI x8] M := by
                  refine r_ior dX12_place_158 ?_
                  refine r_istore (lv2 := [(8, vI (ior x8 v23)), (0, vR 55), (1, vI p1), (6, vL (x6 - v21)), (9, vI x9), (10, vI x10), (13, vI v19)]) dX12_place_159 (by decide) rfl ?_
                  refine r_aload_n dX12_place_161 rfl 1 rfl ?_
                  refine r_iload_n dX12_place_162 rfl 2 rfl ?_
                  refine r_iload dX12_place_163 6 rfl ?_
                  obtain ⟨v25, ev25, h⟩ := of_lt h
                  have kJ : Ex G 4 cX12_place RX12 14 181 [(0, vR 55), (1, vI p1), (6, vL (x6 - v21)), (8, vI (ior x8 v23)), (9, vI x9), (10, vI x10)] [vI v25, vI p1, vR 55] M := by
                    obtain ⟨M27, hc26, h⟩ := of_bd1 h
                    refine r_callVV (st := []) dX12_place_181 v_X12_191 (run_X12_lays hc26) (by decide) (by decide) rfl rfl (Nat.le_of_ble_eq_true rfl) rfl ?_
                    refine r_iinc (lv2 := [(9, vI (x9 + 1)), (0, vR 55), (1, vI p1), (6, vL (x6 - v21)), (8, vI (ior x8 v23)), (10, vI x10)]) dX12_place_184 4 rfl (by decide) rfl ?_
                    refine r_sub (lv2 := [(0, vR 55), (1, vI p1), (6, vL (x6 - v21)), (8, vI (ior x8 v23)), (9, vI (x9 + 1)), (10, vI x10)]) [1, 2, 3, 4, 0, 5] rfl ?_
                    cases h
                    exact kJ
                  clear h
                  by_cases c24 : wr v19 = 0
                  · skip
                    refine r_if_eq (tgt := 175) dX12_place_165 (by decide) (fun _ => ?_) (fun q => absurd c24 q)
                    refine r_iconst dX12_place_175 ?_
                    refine r_iload dX12_place_176 5 rfl ?_
                    refine r_imul dX12_place_178 ?_
                    refine r_iconst dX12_place_179 ?_
                    refine r_iadd dX12_place_180 ?_
                    rw [show v25 = ((2 * x10) + 1) from by rw [ev25, if_pos c24]] at kJ
                    refine r_sub (lv2 := [(0, vR 55), (1, vI p1), (6, vL (x6 - v21)), (8, vI (ior x8 v23)), (9, vI x9), (10, vI x10)]) [1, 2, 3, 0, 4, 5] rfl ?_
                    exact kJ
                  · skip
                    refine r_if_eq (tgt := 175) dX12_place_165 (by decide) (fun q => absurd q c24) (fun _ => ?_)
                    refine r_iconst dX12_place_168 ?_
                    refine r_iload dX12_place_169 5 rfl ?_
                    refine r_imul dX12_place_171 ?_
                    refine r_goto (tgt := 181) dX12_place_172 (by decide) ?_
                    rw [show v25 = (2 * x10) from by rw [ev25, if_neg c24]] at kJ
                    refine r_sub (lv2 := [(0, vR 55), (1, vI p1), (6, vL (x6 - v21)), (8, vI (ior x8 v23)), (9, vI x9), (10, vI x10)]) [1, 2, 3, 0, 4, 5] rfl ?_
                    exact kJ
                clear h
                by_cases c22 : wr v19 = 0
                · skip
                  refine r_if_eq (tgt := 152) dX12_place_145 (by decide) (fun _ => ?_) (fun q => absurd c22 q)
                  refine r_iconst dX12_place_152 ?_
                  refine r_aload_n dX12_place_153 rfl 1 rfl ?_
                  refine r_getI (j := 0) (jz := 0) dX12_place_154 f_X12_88 rfl rfl rfl ?_
                  refine r_ishl dX12_place_157 ?_
                  rw [show v23 = (shl 1 (gI M 55 0)) from by rw [ev23, if_pos c22]] at kJ
                  refine r_sub (lv2 := [(0, vR 55), (1, vI p1), (6, vL (x6 - v21)), (9, vI x9), (10, vI x10), (13, vI v19)]) [1, 2, 0, 4, 5, 6] rfl ?_
                  exact kJ
                · skip
                  refine r_if_eq (tgt := 152) dX12_place_145 (by decide) (fun q => absurd q c22) (fun _ => ?_)
                  refine r_iconst dX12_place_148 ?_
                  refine r_goto (tgt := 158) dX12_place_149 (by decide) ?_
                  rw [show v23 = 2 from by rw [ev23, if_neg c22]] at kJ
                  refine r_sub (lv2 := [(0, vR 55), (1, vI p1), (6, vL (x6 - v21)), (9, vI x9), (10, vI x10), (13, vI v19)]) [1, 2, 0, 4, 5, 6] rfl ?_
                  exact kJ
              clear h
              by_cases c20 : wr v19 = 0
              · skip
                refine r_if_eq (tgt := 136) dX12_place_129 (by decide) (fun _ => ?_) (fun q => absurd c20 q)
                refine r_lload dX12_place_136 7 rfl ?_
                rw [show v21 = v17 from by rw [ev21, if_pos c20]] at kJ
                refine r_sub (lv2 := [(0, vR 55), (1, vI p1), (8, vI x8), (9, vI x9), (10, vI x10), (13, vI v19)]) [1, 2, 4, 5, 6, 0] rfl ?_
                exact kJ
              · skip
                refine r_if_eq (tgt := 136) dX12_place_129 (by decide) (fun q => absurd q c20) (fun _ => ?_)
                refine r_lconst (v := 0) dX12_place_132 rfl ?_
                refine r_goto (tgt := 138) dX12_place_133 (by decide) ?_
                rw [show v21 = (0 : Int64) from by rw [ev21, if_neg c20]] at kJ
                refine r_sub (lv2 := [(0, vR 55), (1, vI p1), (8, vI x8), (9, vI x9), (10, vI x10), (13, vI v19)]) [1, 2, 4, 5, 6, 0] rfl ?_
                exact kJ
            clear h
            by_cases c18 : v17 ≤ x6
            · skip
              refine r_lcmp_ge (tgt := 122) dX12_place_114 dX12_place_115 (by decide) (fun _ => ?_) (fun q => absurd c18 q)
              refine r_iconst dX12_place_122 ?_
              rw [show v19 = 0 from by rw [ev19, if_pos c18]] at kJ
              refine r_sub (lv2 := [(0, vR 55), (1, vI p1), (6, vL x6), (8, vI x8), (9, vI x9), (10, vI x10), (11, vL v17)]) [1, 2, 3, 4, 5, 6, 0] rfl ?_
              exact kJ
            · skip
              refine r_lcmp_ge (tgt := 122) dX12_place_114 dX12_place_115 (by decide) (fun q => absurd q c18) (fun _ => ?_)
              refine r_iconst dX12_place_118 ?_
              refine r_goto (tgt := 123) dX12_place_119 (by decide) ?_
              rw [show v19 = 1 from by rw [ev19, if_neg c18]] at kJ
              refine r_sub (lv2 := [(0, vR 55), (1, vI p1), (6, vL x6), (8, vI x8), (9, vI x9), (10, vI x10), (11, vL v17)]) [1, 2, 3, 4, 5, 6, 0] rfl ?_
              exact kJ
          clear h
          have h := h9
          clear h9
          by_cases c15 : wr (bI b14) = 0
          · rw [if_pos c15] at h
            refine r_if_eq (tgt := 107) dX12_place_81 (by decide) (fun _ => ?_) (fun q => absurd c15 q)
            refine r_lconst (v := 0) dX12_place_107 rfl ?_
            cases h
            exact kJ
          · rw [if_neg c15] at h
            refine r_if_eq (tgt := 107) dX12_place_81 (by decide) (fun q => absurd q c15) (fun _ => ?_)
            refine r_aload_n dX12_place_84 rfl 0 rfl ?_
            refine r_getR (j := 12) (v := 64) dX12_place_85 f_X12_35 rfl rfl rfl ?_
            refine r_sipush dX12_place_88 (by decide) ?_
            refine r_iload dX12_place_91 5 rfl ?_
            refine r_iconst dX12_place_93 ?_
            refine r_iadd dX12_place_94 ?_
            refine r_imul dX12_place_95 ?_
            refine r_iload dX12_place_96 3 rfl ?_
            refine r_iconst dX12_place_98 ?_
            refine r_ior dX12_place_99 ?_
            refine r_iconst dX12_place_100 ?_
            refine r_ishr dX12_place_101 ?_
            refine r_iadd dX12_place_102 ?_
            obtain ⟨c16, h⟩ := of_ck h
            refine r_lald dX12_place_103 rfl c16 ?_
            refine r_goto (tgt := 108) dX12_place_104 (by decide) ?_
            cases h
            exact kJ
        · rw [if_neg c12] at h
          refine r_if_ne (tgt := 187) dX12_place_70 (by decide) (fun _ => ?_) (fun q => absurd q c12)
          cases h
          exact kJ

set_option maxRecDepth 10000 in
theorem run_X12_place {M : Mem} {M2 : Mem} {a1 : Int} {a2 : Int64} {r : Int}   (h : m_X12_place M a1 a2 = some (r, M2)) : RunI 4 yX12_place cX12_place 14 (some .int) [vR 55, vI a1, vL a2] M r M2 := by
  refine runI_of (lv := [(0, vR 55), (1, vI a1), (2, vL a2)]) (by decide +kernel) (Or.inl rfl) (Nat.le_of_ble_eq_true rfl) rfl ?_
  intro G hQ
  unfold m_X12_place at h
  refine r_iload_n dX12_place_0 rfl 1 rfl ?_
  obtain ⟨b2, hc1, h⟩ := of_bd1 h
  refine r_callSI (st := []) dX12_place_1 v_X12_188 (run_X12_isSlot hc1) (by decide) (by decide) rfl (Nat.le_of_ble_eq_true rfl) rfl ?_
  by_cases c3 : wr (bI b2) = 0
  · rw [if_pos c3] at h
    refine r_if_ne (tgt := 9) dX12_place_4 (by decide) (fun q => absurd c3 q) (fun _ => ?_)
    refine r_iconst dX12_place_7 ?_
    cases h
    exact hQ _ _ dX12_place_8
  · rw [if_neg c3] at h
    refine r_if_ne (tgt := 9) dX12_place_4 (by decide) (fun _ => ?_) (fun q => absurd q c3)
    refine r_aload_n dX12_place_9 rfl 0 rfl ?_
    obtain ⟨r5, M6, hc4, h⟩ := of_bd2 h
    refine r_callVL (st := []) dX12_place_10 v_X12_183 (run_X12_pavings hc4) (by decide) (by decide) rfl rfl (Nat.le_of_ble_eq_true rfl) rfl ?_
    refine r_lstore (lv2 := [(4, vL r5), (0, vR 55), (1, vI a1), (2, vL a2)]) dX12_place_13 (by decide) rfl ?_
    refine r_lload_n dX12_place_15 rfl 3 rfl ?_
    refine r_lconst (v := 0) dX12_place_16 rfl ?_
    by_cases c7 : a2 < (0 : Int64)
    · rw [if_pos c7] at h
      refine r_lcmp_lt (tgt := 28) dX12_place_17 dX12_place_18 (by decide) (fun _ => ?_) (fun q => absurd c7 q)
      refine r_iconst dX12_place_28 ?_
      cases h
      exact hQ _ _ dX12_place_29
    · rw [if_neg c7] at h
      refine r_lcmp_lt (tgt := 28) dX12_place_17 dX12_place_18 (by decide) (fun q => absurd q c7) (fun _ => ?_)
      refine r_lload_n dX12_place_21 rfl 3 rfl ?_
      refine r_lload dX12_place_22 0 rfl ?_
      by_cases c8 : a2 < r5
      · rw [if_pos c8] at h
        refine r_lcmp_lt (tgt := 30) dX12_place_24 dX12_place_25 (by decide) (fun _ => ?_) (fun q => absurd c8 q)
        refine r_lload_n dX12_place_30 rfl 3 rfl ?_
        refine r_lstore (lv2 := [(6, vL a2), (4, vL r5), (0, vR 55), (1, vI a1), (2, vL a2)]) dX12_place_31 (by decide) rfl ?_
        refine r_iconst dX12_place_33 ?_
        refine r_istore (lv2 := [(8, vI 0), (6, vL a2), (4, vL r5), (0, vR 55), (1, vI a1), (2, vL a2)]) dX12_place_34 (by decide) rfl ?_
        refine r_iconst dX12_place_36 ?_
        refine r_istore (lv2 := [(9, vI 0), (8, vI 0), (6, vL a2), (4, vL r5), (0, vR 55), (1, vI a1), (2, vL a2)]) dX12_place_37 (by decide) rfl ?_
        refine r_iconst dX12_place_39 ?_
        refine r_istore (lv2 := [(10, vI 0), (9, vI 0), (8, vI 0), (6, vL a2), (4, vL r5), (0, vR 55), (1, vI a1), (2, vL a2)]) dX12_place_40 (by decide) rfl ?_
        obtain ⟨y32, y33, y34, y35, M36, h9, h⟩ := of_bd5 h
        refine r_sub (lv2 := [(0, vR 55), (1, vI a1), (6, vL a2), (8, vI 0), (9, vI 0), (10, vI 0)]) [5, 6, 3, 2, 1, 0] rfl ?_
        refine lp_X12_place_L42 a1  (fun w => w = (y32, y33, y34, y35, M36)) ?_ FU a2 0 0 0 M6 _ h9 rfl
        intro z0 z1 z2 z3 z4 hw
        cases hw
        refine r_aload_n dX12_place_199 rfl 0 rfl ?_
        refine r_getR (j := 5) (v := 59) dX12_place_200 f_X12_20 rfl rfl rfl ?_
        refine r_iload_n dX12_place_203 rfl 1 rfl ?_
        refine r_iconst dX12_place_204 ?_
        obtain ⟨c37, h⟩ := of_ck h
        obtain ⟨M38, eM38, h⟩ := of_lt h
        refine r_zast dX12_place_205 rfl c37 (by decide) ?_
        rw [← eM38]
        refine r_iload dX12_place_206 4 rfl ?_
        cases h
        exact hQ _ _ dX12_place_208
      · rw [if_neg c8] at h
        refine r_lcmp_lt (tgt := 30) dX12_place_24 dX12_place_25 (by decide) (fun q => absurd q c8) (fun _ => ?_)
        refine r_iconst dX12_place_28 ?_
        cases h
        exact hQ _ _ dX12_place_29

def m_X12_rank_L38 (M : Mem) (p1 : Int) (p2 : Int64) (x4 : Int64) (x6 : Int) (x7 : Int) : Option ((Int64 × Int × Int) ⊕ ((Int64 × Int × Int) ⊕ (Int64 × Mem))) :=
  if wr ((gI M 55 0) * (gI M 55 1)) ≤ wr x7 then
    some (.inr (.inl (x4, x6, x7)))
  else
    if 0 ≤ wr x7 ∧ wr x7 < 64 then
    if wr (gI M 56 (wr x7)) = 0 then
      some (.inl (x4, (sar x6 1), (x7 + 1)))
    else
      if wr (iand x6 1) = 0 then
        if 0 ≤ wr ((64 * p1) + x7) ∧ wr ((64 * p1) + x7) < 256 then
        if 0 ≤ wr (gI M 60 (wr ((64 * p1) + x7))) ∧ wr (gI M 60 (wr ((64 * p1) + x7))) < 128 then
        if wr (gI M 63 (wr (gI M 60 (wr ((64 * p1) + x7))))) = 0 then
          some (.inr (.inr ((-2), M)))
        else
          lt (if wr (irm (gI M 60 (wr ((64 * p1) + x7))) 2) = 0 then 1 else 0) fun (v17 : Int) =>
          bd1 (
            if wr v17 = 0 then
              bd1 (m_X12_canEast M x7 x6) fun b20 =>
              if wr (bI b20) = 0 then
                some ((0 : Int64))
              else
                if 0 ≤ wr ((256 * (x7 + 1)) + (sar (ior x6 2) 1)) ∧ wr ((256 * (x7 + 1)) + (sar (ior x6 2) 1)) < 16640 then
                some ((gL M 64 (wr ((256 * (x7 + 1)) + (sar (ior x6 2) 1)))))
                else none
            else
              some ((0 : Int64))) fun (v23 : Int64) =>
          lt (if wr v17 = 0 then (shl 1 (gI M 55 0)) else 2) fun (v25 : Int) =>
          some (.inl ((x4 + v23), (sar (ior x6 v25) 1), (x7 + 1)))
        else none
        else none
      else
        some (.inl (x4, (sar x6 1), (x7 + 1)))
    else none
def m_X12_rank (M : Mem) (a1 : Int) : Option (Int64 × Mem) :=
  bd1 (m_X12_isSlot a1) fun b2 =>
  if wr (bI b2) = 0 then
    some ((-1), M)
  else
    if 0 ≤ wr a1 ∧ wr a1 < 4 then
    if wr (gI M 59 (wr a1)) = 0 then
      some ((-4), M)
    else
      bd2 (m_X12_pavings M) fun r7 M8 =>
      be3 (itr (fun s => m_X12_rank_L38 M8 a1 r7 s.1 s.2.1 s.2.2) FU ((0 : Int64), 0, 0)) (fun y26 y27 y28 =>
      lt (if r7 ≤ (0 : Int64) then (-2) else y26) fun (v30 : Int64) =>
      some (v30, M8))
    else none
set_option maxRecDepth 10000 in
theorem lp_X12_rank_L38 {G : Gx} (M : Mem) (p1 : Int) (p2 : Int64)   (X : ((Int64 × Int × Int) ⊕ (Int64 × Mem)) → Prop) (hX1 : ∀ (x4 : Int64) (x6 : Int) (x7 : Int), X (.inl (x4, x6, x7)) → Ex G 4 cX12_rank RX12 10 188 [(0, vR 55), (1, vI p1), (2, vL p2), (4, vL x4), (6, vI x6), (7, vI x7)] [] M) (hX2 : ∀ (r : Int64) (M2 : Mem), X (.inr (r, M2)) → RetL G 4 cX12_rank RX12 10 r M2) : ∀ (nn : Nat) (x4 : Int64) (x6 : Int) (x7 : Int) (out : (Int64 × Int × Int) ⊕ (Int64 × Mem)), itr (fun s => m_X12_rank_L38 M p1 p2 s.1 s.2.1 s.2.2) nn (x4, x6, x7) = some out → X out → Ex G 4 cX12_rank RX12 10 38 [(0, vR 55), (1, vI p1), (2, vL p2), (4, vL x4), (6, vI x6), (7, vI x7)] [] M := by
  intro nn
  induction nn with
  | zero =>
    intro x4 x6 x7 out h _
    cases h
  | succ nn ih =>
    intro x4 x6 x7 out h0 hX
    obtain ⟨w, h, k1, k2⟩ := itr_inv h0
    have h : m_X12_rank_L38 M p1 p2 x4 x6 x7 = some w := h
    unfold m_X12_rank_L38 at h
    refine r_iload dX12_rank_38 5 rfl ?_
    refine r_aload_n dX12_rank_40 rfl 0 rfl ?_
    refine r_getI (j := 0) (jz := 0) dX12_rank_41 f_X12_88 rfl rfl rfl ?_
    refine r_aload_n dX12_rank_44 rfl 0 rfl ?_
    refine r_getI (j := 1) (jz := 1) dX12_rank_45 f_X12_92 rfl rfl rfl ?_
    refine r_imul dX12_rank_48 ?_
    by_cases c9 : wr ((gI M 55 0) * (gI M 55 1)) ≤ wr x7
    · rw [if_pos c9] at h
      refine r_icmp_ge (tgt := 188) dX12_rank_49 (by decide) (fun _ => ?_) (fun q => absurd c9 q)
      cases h
      cases k2 _ rfl
      exact hX1 _ _ _ hX
    · rw [if_neg c9] at h
      refine r_icmp_ge (tgt := 188) dX12_rank_49 (by decide) (fun q => absurd q c9) (fun _ => ?_)
      refine r_aload_n dX12_rank_52 rfl 0 rfl ?_
      refine r_getR (j := 2) (v := 56) dX12_rank_53 f_X12_7 rfl rfl rfl ?_
      refine r_iload dX12_rank_56 5 rfl ?_
      obtain ⟨c10, h⟩ := of_ck h
      refine r_zald dX12_rank_58 rfl c10 ?_
      by_cases c11 : wr (gI M 56 (wr x7)) = 0
      · rw [if_pos c11] at h
        refine r_if_eq (tgt := 176) dX12_rank_59 (by decide) (fun _ => ?_) (fun q => absurd c11 q)
        refine r_iload dX12_rank_176 4 rfl ?_
        refine r_iconst dX12_rank_178 ?_
        refine r_ishr dX12_rank_179 ?_
        refine r_istore (lv2 := [(6, vI (sar x6 1)), (0, vR 55), (1, vI p1), (2, vL p2), (4, vL x4), (7, vI x7)]) dX12_rank_180 (by decide) rfl ?_
        refine r_iinc (lv2 := [(7, vI (x7 + 1)), (6, vI (sar x6 1)), (0, vR 55), (1, vI p1), (2, vL p2), (4, vL x4)]) dX12_rank_182 5 rfl (by decide) rfl ?_
        refine r_goto (tgt := 38) dX12_rank_185 (by decide) ?_
        refine r_sub (lv2 := [(0, vR 55), (1, vI p1), (2, vL p2), (4, vL x4), (6, vI (sar x6 1)), (7, vI (x7 + 1))]) [2, 3, 4, 5, 1, 0] rfl ?_
        cases h
        exact ih _ _ _  _ (k1 _ rfl) hX
      · rw [if_neg c11] at h
        refine r_if_eq (tgt := 176) dX12_rank_59 (by decide) (fun q => absurd q c11) (fun _ => ?_)
        refine r_iload dX12_rank_62 4 rfl ?_
        refine r_iconst dX12_rank_64 ?_
        refine r_iand dX12_rank_65 ?_
        by_cases c12 : wr (iand x6 1) = 0
        · rw [if_pos c12] at h
          refine r_if_ne (tgt := 176) dX12_rank_66 (by decide) (fun q => absurd c12 q) (fun _ => ?_)
          refine r_aload_n dX12_rank_69 rfl 0 rfl ?_
          refine r_getR (j := 6) (v := 60) dX12_rank_70 f_X12_23 rfl rfl rfl ?_
          refine r_bipush dX12_rank_73 (by decide) ?_
          refine r_iload_n dX12_rank_75 rfl 1 rfl ?_
          refine r_imul dX12_rank_76 ?_
          refine r_iload dX12_rank_77 5 rfl ?_
          refine r_iadd dX12_rank_79 ?_
          obtain ⟨c13, h⟩ := of_ck h
          refine r_iald dX12_rank_80 rfl c13 ?_
          refine r_istore (lv2 := [(8, vI (gI M 60 (wr ((64 * p1) + x7)))), (0, vR 55), (1, vI p1), (2, vL p2), (4, vL x4), (6, vI x6), (7, vI x7)]) dX12_rank_81 (by decide) rfl ?_
          refine r_aload_n dX12_rank_83 rfl 1 rfl ?_
          refine r_getR (j := 11) (v := 63) dX12_rank_84 f_X12_32 rfl rfl rfl ?_
          refine r_iload dX12_rank_87 0 rfl ?_
          obtain ⟨c14, h⟩ := of_ck h
          refine r_zald dX12_rank_89 rfl c14 ?_
          by_cases c15 : wr (gI M 63 (wr (gI M 60 (wr ((64 * p1) + x7))))) = 0
          · rw [if_pos c15] at h
            refine r_if_ne (tgt := 97) dX12_rank_90 (by decide) (fun q => absurd c15 q) (fun _ => ?_)
            refine r_ldc2 (v := (-2)) dX12_rank_93 kl_X12_196 ?_
            cases h
            cases k2 _ rfl
            exact hX2 _ _ hX _ _ dX12_rank_96
          · rw [if_neg c15] at h
            refine r_if_ne (tgt := 97) dX12_rank_90 (by decide) (fun _ => ?_) (fun q => absurd q c15)
            refine r_iload dX12_rank_97 0 rfl ?_
            refine r_iconst dX12_rank_99 ?_
            refine r_irem dX12_rank_100 (by decide) ?_
            obtain ⟨v17, ev17, h⟩ := of_lt h
            have kJ : Ex G 4 cX12_rank RX12 10 109 [(0, vR 55), (1, vI p1), (2, vL p2), (4, vL x4), (6, vI x6), (7, vI x7)] [vI v17] M := by
              refine r_istore (lv2 := [(9, vI v17), (0, vR 55), (1, vI p1), (2, vL p2), (4, vL x4), (6, vI x6), (7, vI x7)]) dX12_rank_109 (by decide) rfl ?_
              refine r_lload dX12_rank_111 4 rfl ?_
              refine r_iload dX12_rank_113 0 rfl ?_
              obtain ⟨v23, h9, h⟩ := of_bd1 h
              have kJ : Ex G 4 cX12_rank RX12 10 153 [(0, vR 55), (1, vI p1), (2, vL p2), (6, vI x6), (7, vI x7), (9, vI v17)] [vL v23, vL x4] M := by
                refine r_ladd dX12_rank_153 ?_
                refine r_lstore (lv2 := [(4, vL (x4 + v23)), (0, vR 55), (1, vI p1), (2, vL p2), (6, vI x6), (7, vI x7), (9, vI v17)]) dX12_rank_154 (by decide) rfl ?_
                refine r_iload dX12_rank_156 4 rfl ?_
                refine r_iload dX12_rank_158 6 rfl ?_
                obtain ⟨v25, ev25, h⟩ := of_lt h
                have kJ : Ex G 4 cX12_rank RX12 10 173 [(0, vR 55), (1, vI p1), (2, vL p2), (4, vL (x4 + v23)), (7, vI x7)] [vI v25, vI x6] M := by
                  refine r_ior dX12_rank_173 ?_
                  refine r_istore (lv2 := [(6, vI (ior x6 v25)), (0, vR 55), (1, vI p1), (2, vL p2), (4, vL (x4 + v23)), (7, vI x7)]) dX12_rank_174 (by decide) rfl ?_
                  refine r_iload dX12_rank_176 0 rfl ?_
                  refine r_iconst dX12_rank_178 ?_
                  refine r_ishr dX12_rank_179 ?_
                  refine r_istore (lv2 := [(6, vI (sar (ior x6 v25) 1)), (0, vR 55), (1, vI p1), (2, vL p2), (4, vL (x4 + v23)), (7, vI x7)]) dX12_rank_180 (by decide) rfl ?_
                  refine r_iinc (lv2 := [(7, vI (x7 + 1)), (6, vI (sar (ior x6 v25) 1)), (0, vR 55), (1, vI p1), (2, vL p2), (4, vL (x4 + v23))]) dX12_rank_182 5 rfl (by decide) rfl ?_
                  refine r_goto (tgt := 38) dX12_rank_185 (by decide) ?_
                  refine r_sub (lv2 := [(0, vR 55), (1, vI p1), (2, vL p2), (4, vL (x4 + v23)), (6, vI (sar (ior x6 v25) 1)), (7, vI (x7 + 1))]) [2, 3, 4, 5, 1, 0] rfl ?_
                  cases h
                  exact ih _ _ _  _ (k1 _ rfl) hX
                clear h
                by_cases c24 : wr v17 = 0
                · skip
                  refine r_if_eq (tgt := 167) dX12_rank_160 (by decide) (fun _ => ?_) (fun q => absurd c24 q)
                  refine r_iconst dX12_rank_167 ?_
                  refine r_aload_n dX12_rank_168 rfl 1 rfl ?_
                  refine r_getI (j := 0) (jz := 0) dX12_rank_169 f_X12_88 rfl rfl rfl ?_
                  refine r_ishl dX12_rank_172 ?_
                  rw [show v25 = (shl 1 (gI M 55 0)) from by rw [ev25, if_pos c24]] at kJ
                  refine r_sub (lv2 := [(0, vR 55), (1, vI p1), (2, vL p2), (4, vL (x4 + v23)), (7, vI x7)]) [1, 2, 3, 0, 5] rfl ?_
                  exact kJ
                · skip
                  refine r_if_eq (tgt := 167) dX12_rank_160 (by decide) (fun q => absurd q c24) (fun _ => ?_)
                  refine r_iconst dX12_rank_163 ?_
                  refine r_goto (tgt := 173) dX12_rank_164 (by decide) ?_
                  rw [show v25 = 2 from by rw [ev25, if_neg c24]] at kJ
                  refine r_sub (lv2 := [(0, vR 55), (1, vI p1), (2, vL p2), (4, vL (x4 + v23)), (7, vI x7)]) [1, 2, 3, 0, 5] rfl ?_
                  exact kJ
              clear h
              have h := h9
              clear h9
              by_cases c18 : wr v17 = 0
              · rw [if_pos c18] at h
                refine r_if_ne (tgt := 152) dX12_rank_115 (by decide) (fun q => absurd c18 q) (fun _ => ?_)
                refine r_aload_n dX12_rank_118 rfl 1 rfl ?_
                refine r_iload dX12_rank_119 6 rfl ?_
                refine r_iload dX12_rank_121 5 rfl ?_
                obtain ⟨b20, hc19, h⟩ := of_bd1 h
                refine r_callVI (st := [vL x4]) dX12_rank_123 v_X12_163 (run_X12_canEast hc19) (by decide) (by decide) rfl rfl (Nat.le_of_ble_eq_true rfl) rfl ?_
                by_cases c21 : wr (bI b20) = 0
                · rw [if_pos c21] at h
                  refine r_if_eq (tgt := 152) dX12_rank_126 (by decide) (fun _ => ?_) (fun q => absurd c21 q)
                  refine r_lconst (v := 0) dX12_rank_152 rfl ?_
                  refine r_sub (lv2 := [(0, vR 55), (1, vI p1), (2, vL p2), (6, vI x6), (7, vI x7), (9, vI v17)]) [1, 2, 3, 5, 6, 0] rfl ?_
                  cases h
                  exact kJ
                · rw [if_neg c21] at h
                  refine r_if_eq (tgt := 152) dX12_rank_126 (by decide) (fun q => absurd q c21) (fun _ => ?_)
                  refine r_aload_n dX12_rank_129 rfl 1 rfl ?_
                  refine r_getR (j := 12) (v := 64) dX12_rank_130 f_X12_35 rfl rfl rfl ?_
                  refine r_sipush dX12_rank_133 (by decide) ?_
                  refine r_iload dX12_rank_136 6 rfl ?_
                  refine r_iconst dX12_rank_138 ?_
                  refine r_iadd dX12_rank_139 ?_
                  refine r_imul dX12_rank_140 ?_
                  refine r_iload dX12_rank_141 5 rfl ?_
                  refine r_iconst dX12_rank_143 ?_
                  refine r_ior dX12_rank_144 ?_
                  refine r_iconst dX12_rank_145 ?_
                  refine r_ishr dX12_rank_146 ?_
                  refine r_iadd dX12_rank_147 ?_
                  obtain ⟨c22, h⟩ := of_ck h
                  refine r_lald dX12_rank_148 rfl c22 ?_
                  refine r_goto (tgt := 153) dX12_rank_149 (by decide) ?_
                  refine r_sub (lv2 := [(0, vR 55), (1, vI p1), (2, vL p2), (6, vI x6), (7, vI x7), (9, vI v17)]) [1, 2, 3, 5, 6, 0] rfl ?_
                  cases h
                  exact kJ
              · rw [if_neg c18] at h
                refine r_if_ne (tgt := 152) dX12_rank_115 (by decide) (fun _ => ?_) (fun q => absurd q c18)
                refine r_lconst (v := 0) dX12_rank_152 rfl ?_
                refine r_sub (lv2 := [(0, vR 55), (1, vI p1), (2, vL p2), (6, vI x6), (7, vI x7), (9, vI v17)]) [1, 2, 3, 5, 6, 0] rfl ?_
                cases h
                exact kJ
            clear h
            by_cases c16 : wr (irm (gI M 60 (wr ((64 * p1) + x7))) 2) = 0
            · skip
              refine r_if_ne (tgt := 108) dX12_rank_101 (by decide) (fun q => absurd c16 q) (fun _ => ?_)
              refine r_iconst dX12_rank_104 ?_
              refine r_goto (tgt := 109) dX12_rank_105 (by decide) ?_
              rw [show v17 = 1 from by rw [ev17, if_pos c16]] at kJ
              refine r_sub (lv2 := [(0, vR 55), (1, vI p1), (2, vL p2), (4, vL x4), (6, vI x6), (7, vI x7)]) [1, 2, 3, 4, 5, 6] rfl ?_
              exact kJ
            · skip
              refine r_if_ne (tgt := 108) dX12_rank_101 (by decide) (fun _ => ?_) (fun q => absurd q c16)
              refine r_iconst dX12_rank_108 ?_
              rw [show v17 = 0 from by rw [ev17, if_neg c16]] at kJ
              refine r_sub (lv2 := [(0, vR 55), (1, vI p1), (2, vL p2), (4, vL x4), (6, vI x6), (7, vI x7)]) [1, 2, 3, 4, 5, 6] rfl ?_
              exact kJ
        · rw [if_neg c12] at h
          refine r_if_ne (tgt := 176) dX12_rank_66 (by decide) (fun _ => ?_) (fun q => absurd q c12)
          refine r_iload dX12_rank_176 4 rfl ?_
          refine r_iconst dX12_rank_178 ?_
          refine r_ishr dX12_rank_179 ?_
          refine r_istore (lv2 := [(6, vI (sar x6 1)), (0, vR 55), (1, vI p1), (2, vL p2), (4, vL x4), (7, vI x7)]) dX12_rank_180 (by decide) rfl ?_
          refine r_iinc (lv2 := [(7, vI (x7 + 1)), (6, vI (sar x6 1)), (0, vR 55), (1, vI p1), (2, vL p2), (4, vL x4)]) dX12_rank_182 5 rfl (by decide) rfl ?_
          refine r_goto (tgt := 38) dX12_rank_185 (by decide) ?_
          refine r_sub (lv2 := [(0, vR 55), (1, vI p1), (2, vL p2), (4, vL x4), (6, vI (sar x6 1)), (7, vI (x7 + 1))]) [2, 3, 4, 5, 1, 0] rfl ?_
          cases h
          exact ih _ _ _  _ (k1 _ rfl) hX

set_option maxRecDepth 10000 in
theorem run_X12_rank {M : Mem} {M2 : Mem} {a1 : Int} {r : Int64}   (h : m_X12_rank M a1 = some (r, M2)) : RunL 4 yX12_rank cX12_rank 10 (some .long) [vR 55, vI a1] M r M2 := by
  refine runL_of (lv := [(0, vR 55), (1, vI a1)]) (by decide +kernel) rfl (Nat.le_of_ble_eq_true rfl) rfl ?_
  intro G hQ
  unfold m_X12_rank at h
  refine r_iload_n dX12_rank_0 rfl 1 rfl ?_
  obtain ⟨b2, hc1, h⟩ := of_bd1 h
  refine r_callSI (st := []) dX12_rank_1 v_X12_188 (run_X12_isSlot hc1) (by decide) (by decide) rfl (Nat.le_of_ble_eq_true rfl) rfl ?_
  by_cases c3 : wr (bI b2) = 0
  · rw [if_pos c3] at h
    refine r_if_ne (tgt := 11) dX12_rank_4 (by decide) (fun q => absurd c3 q) (fun _ => ?_)
    refine r_ldc2 (v := (-1)) dX12_rank_7 kl_X12_181 ?_
    cases h
    exact hQ _ _ dX12_rank_10
  · rw [if_neg c3] at h
    refine r_if_ne (tgt := 11) dX12_rank_4 (by decide) (fun _ => ?_) (fun q => absurd q c3)
    refine r_aload_n dX12_rank_11 rfl 0 rfl ?_
    refine r_getR (j := 5) (v := 59) dX12_rank_12 f_X12_20 rfl rfl rfl ?_
    refine r_iload_n dX12_rank_15 rfl 1 rfl ?_
    obtain ⟨c4, h⟩ := of_ck h
    refine r_zald dX12_rank_16 rfl c4 ?_
    by_cases c5 : wr (gI M 59 (wr a1)) = 0
    · rw [if_pos c5] at h
      refine r_if_ne (tgt := 24) dX12_rank_17 (by decide) (fun q => absurd c5 q) (fun _ => ?_)
      refine r_ldc2 (v := (-4)) dX12_rank_20 kl_X12_194 ?_
      cases h
      exact hQ _ _ dX12_rank_23
    · rw [if_neg c5] at h
      refine r_if_ne (tgt := 24) dX12_rank_17 (by decide) (fun _ => ?_) (fun q => absurd q c5)
      refine r_aload_n dX12_rank_24 rfl 0 rfl ?_
      obtain ⟨r7, M8, hc6, h⟩ := of_bd2 h
      refine r_callVL (st := []) dX12_rank_25 v_X12_183 (run_X12_pavings hc6) (by decide) (by decide) rfl rfl (Nat.le_of_ble_eq_true rfl) rfl ?_
      refine r_lstore_n (lv2 := [(2, vL r7), (0, vR 55), (1, vI a1)]) dX12_rank_28 rfl (by decide) rfl ?_
      refine r_lconst (v := 0) dX12_rank_29 rfl ?_
      refine r_lstore (lv2 := [(4, vL (0 : Int64)), (2, vL r7), (0, vR 55), (1, vI a1)]) dX12_rank_30 (by decide) rfl ?_
      refine r_iconst dX12_rank_32 ?_
      refine r_istore (lv2 := [(6, vI 0), (4, vL (0 : Int64)), (2, vL r7), (0, vR 55), (1, vI a1)]) dX12_rank_33 (by decide) rfl ?_
      refine r_iconst dX12_rank_35 ?_
      refine r_istore (lv2 := [(7, vI 0), (6, vI 0), (4, vL (0 : Int64)), (2, vL r7), (0, vR 55), (1, vI a1)]) dX12_rank_36 (by decide) rfl ?_
      obtain ⟨w9, h9, h⟩ := of_be3 h
      refine r_sub (lv2 := [(0, vR 55), (1, vI a1), (2, vL r7), (4, vL (0 : Int64)), (6, vI 0), (7, vI 0)]) [4, 5, 3, 2, 1, 0] rfl ?_
      refine lp_X12_rank_L38 M8 a1 r7  (fun w => w = w9) ?_ ?_ FU (0 : Int64) 0 0 w9 h9 rfl
      · intro y26 y27 y28 hw
        subst hw
        have h := h.1 _ _ _  rfl
        refine r_lload_n dX12_rank_188 rfl 2 rfl ?_
        refine r_lconst (v := 0) dX12_rank_189 rfl ?_
        obtain ⟨v30, ev30, h⟩ := of_lt h
        have kJ : Ex G 4 cX12_rank RX12 10 202 [] [vL v30] M8 := by
          cases h
          exact hQ _ _ dX12_rank_202
        clear h
        by_cases c29 : r7 ≤ (0 : Int64)
        · skip
          refine r_lcmp_le (tgt := 199) dX12_rank_190 dX12_rank_191 (by decide) (fun _ => ?_) (fun q => absurd c29 q)
          refine r_ldc2 (v := (-2)) dX12_rank_199 kl_X12_196 ?_
          rw [show v30 = (-2) from by rw [ev30, if_pos c29]] at kJ
          refine r_sub (lv2 := []) [] rfl ?_
          exact kJ
        · skip
          refine r_lcmp_le (tgt := 199) dX12_rank_190 dX12_rank_191 (by decide) (fun q => absurd q c29) (fun _ => ?_)
          refine r_lload dX12_rank_194 3 rfl ?_
          refine r_goto (tgt := 202) dX12_rank_196 (by decide) ?_
          rw [show v30 = y26 from by rw [ev30, if_neg c29]] at kJ
          refine r_sub (lv2 := []) [] rfl ?_
          exact kJ
      · intro r9 M9 hw
        subst hw
        have h := h.2 _ rfl
        cases h
        exact hQ

def m_X12_brick (M : Mem) (a1 : Int) (a2 : Int) : Option (Int) :=
  bd1 (m_X12_isSlot a1) fun b2 =>
  if wr (bI b2) = 0 then
    some (-1)
  else
    bd1 (m_X12_isCell M a2) fun b5 =>
    if wr (bI b5) = 0 then
      some (-1)
    else
      if 0 ≤ wr a2 ∧ wr a2 < 64 then
      if wr (gI M 56 (wr a2)) = 0 then
        some (-1)
      else
        if 0 ≤ wr a1 ∧ wr a1 < 4 then
        bd1 (
          if wr (gI M 59 (wr a1)) = 0 then
            some ((-4))
          else
            if 0 ≤ wr ((64 * a1) + a2) ∧ wr ((64 * a1) + a2) < 256 then
            some ((gI M 60 (wr ((64 * a1) + a2))))
            else none) fun (v12 : Int) =>
        some v12
        else none
      else none
set_option maxRecDepth 10000 in
theorem run_X12_brick {M : Mem} {a1 : Int} {a2 : Int} {r : Int}   (h : m_X12_brick M a1 a2 = some r) : RunI 2 yX12_brick cX12_brick 3 (some .int) [vR 55, vI a1, vI a2] M r M := by
  refine runI_of (lv := [(0, vR 55), (1, vI a1), (2, vI a2)]) (by decide +kernel) (Or.inl rfl) (Nat.le_of_ble_eq_true rfl) rfl ?_
  intro G hQ
  unfold m_X12_brick at h
  refine r_iload_n dX12_brick_0 rfl 1 rfl ?_
  obtain ⟨b2, hc1, h⟩ := of_bd1 h
  refine r_callSI (st := []) dX12_brick_1 v_X12_188 (run_X12_isSlot hc1) (by decide) (by decide) rfl (Nat.le_of_ble_eq_true rfl) rfl ?_
  by_cases c3 : wr (bI b2) = 0
  · rw [if_pos c3] at h
    refine r_if_eq (tgt := 24) dX12_brick_4 (by decide) (fun _ => ?_) (fun q => absurd c3 q)
    refine r_iconst dX12_brick_24 ?_
    cases h
    exact hQ _ _ dX12_brick_25
  · rw [if_neg c3] at h
    refine r_if_eq (tgt := 24) dX12_brick_4 (by decide) (fun q => absurd q c3) (fun _ => ?_)
    refine r_aload_n dX12_brick_7 rfl 0 rfl ?_
    refine r_iload_n dX12_brick_8 rfl 2 rfl ?_
    obtain ⟨b5, hc4, h⟩ := of_bd1 h
    refine r_callVI (st := []) dX12_brick_9 v_X12_116 (run_X12_isCell hc4) (by decide) (by decide) rfl rfl (Nat.le_of_ble_eq_true rfl) rfl ?_
    by_cases c6 : wr (bI b5) = 0
    · rw [if_pos c6] at h
      refine r_if_eq (tgt := 24) dX12_brick_12 (by decide) (fun _ => ?_) (fun q => absurd c6 q)
      refine r_iconst dX12_brick_24 ?_
      cases h
      exact hQ _ _ dX12_brick_25
    · rw [if_neg c6] at h
      refine r_if_eq (tgt := 24) dX12_brick_12 (by decide) (fun q => absurd q c6) (fun _ => ?_)
      refine r_aload_n dX12_brick_15 rfl 0 rfl ?_
      refine r_getR (j := 2) (v := 56) dX12_brick_16 f_X12_7 rfl rfl rfl ?_
      refine r_iload_n dX12_brick_19 rfl 2 rfl ?_
      obtain ⟨c7, h⟩ := of_ck h
      refine r_zald dX12_brick_20 rfl c7 ?_
      by_cases c8 : wr (gI M 56 (wr a2)) = 0
      · rw [if_pos c8] at h
        refine r_if_ne (tgt := 26) dX12_brick_21 (by decide) (fun q => absurd c8 q) (fun _ => ?_)
        refine r_iconst dX12_brick_24 ?_
        cases h
        exact hQ _ _ dX12_brick_25
      · rw [if_neg c8] at h
        refine r_if_ne (tgt := 26) dX12_brick_21 (by decide) (fun _ => ?_) (fun q => absurd q c8)
        refine r_aload_n dX12_brick_26 rfl 0 rfl ?_
        refine r_getR (j := 5) (v := 59) dX12_brick_27 f_X12_20 rfl rfl rfl ?_
        refine r_iload_n dX12_brick_30 rfl 1 rfl ?_
        obtain ⟨c9, h⟩ := of_ck h
        refine r_zald dX12_brick_31 rfl c9 ?_
        obtain ⟨v12, h9, h⟩ := of_bd1 h
        have kJ : Ex G 2 cX12_brick RX12 3 51 [] [vI v12] M := by
          cases h
          exact hQ _ _ dX12_brick_51
        clear h
        have h := h9
        clear h9
        by_cases c10 : wr (gI M 59 (wr a1)) = 0
        · rw [if_pos c10] at h
          refine r_if_eq (tgt := 49) dX12_brick_32 (by decide) (fun _ => ?_) (fun q => absurd c10 q)
          refine r_bipush dX12_brick_49 (by decide) ?_
          refine r_sub (lv2 := []) [] rfl ?_
          cases h
          exact kJ
        · rw [if_neg c10] at h
          refine r_if_eq (tgt := 49) dX12_brick_32 (by decide) (fun q => absurd q c10) (fun _ => ?_)
          refine r_aload_n dX12_brick_35 rfl 0 rfl ?_
          refine r_getR (j := 6) (v := 60) dX12_brick_36 f_X12_23 rfl rfl rfl ?_
          refine r_bipush dX12_brick_39 (by decide) ?_
          refine r_iload_n dX12_brick_41 rfl 1 rfl ?_
          refine r_imul dX12_brick_42 ?_
          refine r_iload_n dX12_brick_43 rfl 2 rfl ?_
          refine r_iadd dX12_brick_44 ?_
          obtain ⟨c11, h⟩ := of_ck h
          refine r_iald dX12_brick_45 rfl c11 ?_
          refine r_goto (tgt := 51) dX12_brick_46 (by decide) ?_
          refine r_sub (lv2 := []) [] rfl ?_
          cases h
          exact kJ

