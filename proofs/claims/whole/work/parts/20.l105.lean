def m_X10_start_L12 (M : Mem)  (x3 : Int) : Option ((Int × Mem) ⊕ (Int × Mem)) :=
  if wr 64 ≤ wr x3 then
    some (.inr (x3, M))
  else
    if 0 ≤ wr x3 ∧ wr x3 < 64 then
    lt (sI M 2 (wr x3) 1) fun M5 =>
    some (.inl ((x3 + 1), M5))
    else none
def m_X10_start (M : Mem) (a1 : Int) (a2 : Int) : Option (Mem) :=
  lt (sI M 1 0 a1) fun M1 =>
  lt (sI M1 1 1 a2) fun M2 =>
  bd2 (itr (fun s => m_X10_start_L12 s.2  s.1) FU (0, M2)) fun y6 M7 =>
  bd1 (m_J7_fill_53178 M7 3 0) fun M9 =>
  bd1 (m_J7_fill_53178 M9 4 0) fun M11 =>
  some M11
set_option maxRecDepth 10000 in
theorem lp_X10_start_L12 {G : Gx}    (X : (Int × Mem) → Prop) (hX1 : ∀ (x3 : Int) (M : Mem), X (x3, M) → Ex G 1 cX10_start RX10 4 31 [(0, vR 1), (3, vI x3)] [] M) : ∀ (nn : Nat) (x3 : Int) (M : Mem) (out : Int × Mem), itr (fun s => m_X10_start_L12 s.2  s.1) nn (x3, M) = some out → X out → Ex G 1 cX10_start RX10 4 12 [(0, vR 1), (3, vI x3)] [] M := by
  intro nn
  induction nn with
  | zero =>
    intro x3 M out h _
    cases h
  | succ nn ih =>
    intro x3 M out h0 hX
    obtain ⟨w, h, k1, k2⟩ := itr_inv h0
    have h : m_X10_start_L12 M  x3 = some w := h
    unfold m_X10_start_L12 at h
    refine r_iload_n dX10_start_12 rfl 1 rfl ?_
    refine r_bipush dX10_start_13 (by decide) ?_
    by_cases c3 : wr 64 ≤ wr x3
    · rw [if_pos c3] at h
      refine r_icmp_ge (tgt := 31) dX10_start_15 (by decide) (fun _ => ?_) (fun q => absurd c3 q)
      cases h
      cases k2 _ rfl
      exact hX1 _ _ hX
    · rw [if_neg c3] at h
      refine r_icmp_ge (tgt := 31) dX10_start_15 (by decide) (fun q => absurd q c3) (fun _ => ?_)
      refine r_aload_n dX10_start_18 rfl 0 rfl ?_
      refine r_getR (j := 2) (v := 2) dX10_start_19 f_X10_9 rfl rfl rfl ?_
      refine r_iload_n dX10_start_22 rfl 1 rfl ?_
      refine r_iconst dX10_start_23 ?_
      obtain ⟨c4, h⟩ := of_ck h
      obtain ⟨M5, eM5, h⟩ := of_lt h
      refine r_zast dX10_start_24 rfl c4 (by decide) ?_
      rw [← eM5]
      refine r_iinc (lv2 := [(3, vI (x3 + 1)), (0, vR 1)]) dX10_start_25 1 rfl (by decide) rfl ?_
      refine r_goto (tgt := 12) dX10_start_28 (by decide) ?_
      refine r_sub (lv2 := [(0, vR 1), (3, vI (x3 + 1))]) [1, 0] rfl ?_
      cases h
      exact ih _ _  _ (k1 _ rfl) hX

set_option maxRecDepth 10000 in
theorem run_X10_start {M : Mem} {M2 : Mem} {a1 : Int} {a2 : Int}   (h : m_X10_start M a1 a2 = some (M2)) : RunV 1 yX10_start cX10_start 4 none [vR 1, vI a1, vI a2] M M2 := by
  refine runV_of (lv := [(0, vR 1), (1, vI a1), (2, vI a2)]) (by decide +kernel) rfl (Nat.le_of_ble_eq_true rfl) rfl ?_
  intro G hQ
  unfold m_X10_start at h
  refine r_aload_n dX10_start_0 rfl 0 rfl ?_
  refine r_iload_n dX10_start_1 rfl 1 rfl ?_
  obtain ⟨M1, eM1, h⟩ := of_lt h
  refine r_putI (j := 0) (jz := 0) dX10_start_2 p_X10_22 rfl rfl rfl rfl rfl ?_
  rw [← eM1]
  refine r_aload_n dX10_start_5 rfl 0 rfl ?_
  refine r_iload_n dX10_start_6 rfl 2 rfl ?_
  obtain ⟨M2, eM2, h⟩ := of_lt h
  refine r_putI (j := 1) (jz := 1) dX10_start_7 p_X10_26 rfl rfl rfl rfl rfl ?_
  rw [← eM2]
  refine r_iconst dX10_start_10 ?_
  refine r_istore_n (lv2 := [(3, vI 0), (0, vR 1), (1, vI a1), (2, vI a2)]) dX10_start_11 rfl (by decide) rfl ?_
  obtain ⟨y6, M7, h9, h⟩ := of_bd2 h
  refine r_sub (lv2 := [(0, vR 1), (3, vI 0)]) [1, 0] rfl ?_
  refine lp_X10_start_L12   (fun w => w = (y6, M7)) ?_ FU 0 M2 _ h9 rfl
  intro z0 z1 hw
  cases hw
  refine r_aload_n dX10_start_31 rfl 0 rfl ?_
  refine r_getR (j := 3) (v := 3) dX10_start_32 f_X10_15 rfl rfl rfl ?_
  refine r_iconst dX10_start_35 ?_
  obtain ⟨M9, hc8, h⟩ := of_bd1 h
  refine r_callSV (st := []) dX10_start_36 v_X10_29 (run_J7_fill_53178 (congrArg Prod.fst rfl) hc8) (by decide) (by decide) rfl (Nat.le_of_ble_eq_true rfl) rfl ?_
  refine r_aload_n dX10_start_39 rfl 0 rfl ?_
  refine r_getR (j := 4) (v := 4) dX10_start_40 f_X10_19 rfl rfl rfl ?_
  refine r_iconst dX10_start_43 ?_
  obtain ⟨M11, hc10, h⟩ := of_bd1 h
  refine r_callSV (st := []) dX10_start_44 v_X10_29 (run_J7_fill_53178 (congrArg Prod.fst rfl) hc10) (by decide) (by decide) rfl (Nat.le_of_ble_eq_true rfl) rfl ?_
  cases h
  exact hQ _ _ dX10_start_47

def m_X10_change_L9 (M : Mem) (p1 : Int) (x3 : Int) : Option ((Int × Mem) ⊕ (Int × Mem)) :=
  if wr 4 ≤ wr x3 then
    some (.inr (x3, M))
  else
    bd1 (m_X10_brickOn M p1 x3) fun r6 =>
    bd1 (
      if 0 ≤ wr r6 then
        if 0 ≤ wr r6 ∧ wr r6 < 128 then
        lt (sI M 3 (wr r6) 0) fun M9 =>
        lt (sI M9 4 (wr r6) 0) fun M10 =>
        some (M10)
        else none
      else
        some (M)) fun (M11 : Mem) =>
    some (.inl ((x3 + 1), M11))
def m_X10_change (M : Mem) (a1 : Int) (a2 : Int) : Option (Mem) :=
  if 0 ≤ wr a1 ∧ wr a1 < 64 then
  if a2 = 0 ∨ a2 = 1 then
  lt (sI M 2 (wr a1) a2) fun M3 =>
  bd2 (itr (fun s => m_X10_change_L9 s.2 a1 s.1) FU (0, M3)) fun y12 M13 =>
  some M13
  else none
  else none
set_option maxRecDepth 10000 in
theorem lp_X10_change_L9 {G : Gx} (p1 : Int)   (X : (Int × Mem) → Prop) (hX1 : ∀ (x3 : Int) (M : Mem), X (x3, M) → Ex G 2 cX10_change RX10 5 52 [(0, vR 1), (1, vI p1), (3, vI x3)] [] M) : ∀ (nn : Nat) (x3 : Int) (M : Mem) (out : Int × Mem), itr (fun s => m_X10_change_L9 s.2 p1 s.1) nn (x3, M) = some out → X out → Ex G 2 cX10_change RX10 5 9 [(0, vR 1), (1, vI p1), (3, vI x3)] [] M := by
  intro nn
  induction nn with
  | zero =>
    intro x3 M out h _
    cases h
  | succ nn ih =>
    intro x3 M out h0 hX
    obtain ⟨w, h, k1, k2⟩ := itr_inv h0
    have h : m_X10_change_L9 M p1 x3 = some w := h
    unfold m_X10_change_L9 at h
    refine r_iload_n dX10_change_9 rfl 2 rfl ?_
    refine r_iconst dX10_change_10 ?_
    by_cases c4 : wr 4 ≤ wr x3
    · rw [if_pos c4] at h
      refine r_icmp_ge (tgt := 52) dX10_change_11 (by decide) (fun _ => ?_) (fun q => absurd c4 q)
      cases h
      cases k2 _ rfl
      exact hX1 _ _ hX
    · rw [if_neg c4] at h
      refine r_icmp_ge (tgt := 52) dX10_change_11 (by decide) (fun q => absurd q c4) (fun _ => ?_)
      refine r_aload_n dX10_change_14 rfl 0 rfl ?_
      refine r_iload_n dX10_change_15 rfl 1 rfl ?_
      refine r_iload_n dX10_change_16 rfl 2 rfl ?_
      obtain ⟨r6, hc5, h⟩ := of_bd1 h
      refine r_callVI (st := []) dX10_change_17 v_X10_35 (run_X10_brickOn hc5) (by decide) (by decide) rfl rfl (Nat.le_of_ble_eq_true rfl) rfl ?_
      refine r_istore (lv2 := [(4, vI r6), (0, vR 1), (1, vI p1), (3, vI x3)]) dX10_change_20 (by decide) rfl ?_
      refine r_iload dX10_change_22 0 rfl ?_
      obtain ⟨M11, h9, h⟩ := of_bd1 h
      have kJ : Ex G 2 cX10_change RX10 5 46 [(0, vR 1), (1, vI p1), (3, vI x3)] [] M11 := by
        refine r_iinc (lv2 := [(3, vI (x3 + 1)), (0, vR 1), (1, vI p1)]) dX10_change_46 2 rfl (by decide) rfl ?_
        refine r_goto (tgt := 9) dX10_change_49 (by decide) ?_
        refine r_sub (lv2 := [(0, vR 1), (1, vI p1), (3, vI (x3 + 1))]) [1, 2, 0] rfl ?_
        cases h
        exact ih _ _  _ (k1 _ rfl) hX
      clear h
      have h := h9
      clear h9
      by_cases c7 : 0 ≤ wr r6
      · rw [if_pos c7] at h
        refine r_if_ge (tgt := 30) dX10_change_24 (by decide) (fun _ => ?_) (fun q => absurd c7 q)
        refine r_aload_n dX10_change_30 rfl 1 rfl ?_
        refine r_getR (j := 3) (v := 3) dX10_change_31 f_X10_15 rfl rfl rfl ?_
        refine r_iload dX10_change_34 0 rfl ?_
        refine r_iconst dX10_change_36 ?_
        obtain ⟨c8, h⟩ := of_ck h
        obtain ⟨M9, eM9, h⟩ := of_lt h
        refine r_iast dX10_change_37 rfl c8 ?_
        rw [← eM9]
        refine r_aload_n dX10_change_38 rfl 1 rfl ?_
        refine r_getR (j := 4) (v := 4) dX10_change_39 f_X10_19 rfl rfl rfl ?_
        refine r_iload dX10_change_42 0 rfl ?_
        refine r_iconst dX10_change_44 ?_
        obtain ⟨M10, eM10, h⟩ := of_lt h
        refine r_iast dX10_change_45 rfl c8 ?_
        rw [← eM10]
        refine r_sub (lv2 := [(0, vR 1), (1, vI p1), (3, vI x3)]) [1, 2, 3] rfl ?_
        cases h
        exact kJ
      · rw [if_neg c7] at h
        refine r_if_ge (tgt := 30) dX10_change_24 (by decide) (fun q => absurd q c7) (fun _ => ?_)
        refine r_goto (tgt := 46) dX10_change_27 (by decide) ?_
        refine r_sub (lv2 := [(0, vR 1), (1, vI p1), (3, vI x3)]) [1, 2, 3] rfl ?_
        cases h
        exact kJ

set_option maxRecDepth 10000 in
theorem run_X10_change {M : Mem} {M2 : Mem} {a1 : Int} {a2 : Int}   (h : m_X10_change M a1 a2 = some (M2)) : RunV 2 yX10_change cX10_change 5 none [vR 1, vI a1, vI a2] M M2 := by
  refine runV_of (lv := [(0, vR 1), (1, vI a1), (2, vI a2)]) (by decide +kernel) rfl (Nat.le_of_ble_eq_true rfl) rfl ?_
  intro G hQ
  unfold m_X10_change at h
  refine r_aload_n dX10_change_0 rfl 0 rfl ?_
  refine r_getR (j := 2) (v := 2) dX10_change_1 f_X10_9 rfl rfl rfl ?_
  refine r_iload_n dX10_change_4 rfl 1 rfl ?_
  refine r_iload_n dX10_change_5 rfl 2 rfl ?_
  obtain ⟨c1, h⟩ := of_ck h
  obtain ⟨c2, h⟩ := of_ck h
  obtain ⟨M3, eM3, h⟩ := of_lt h
  refine r_zast dX10_change_6 rfl c1 c2 ?_
  rw [← eM3]
  refine r_iconst dX10_change_7 ?_
  refine r_istore_n (lv2 := [(3, vI 0), (0, vR 1), (1, vI a1), (2, vI a2)]) dX10_change_8 rfl (by decide) rfl ?_
  obtain ⟨y12, M13, h9, h⟩ := of_bd2 h
  refine r_sub (lv2 := [(0, vR 1), (1, vI a1), (3, vI 0)]) [1, 2, 0] rfl ?_
  refine lp_X10_change_L9 a1  (fun w => w = (y12, M13)) ?_ FU 0 M3 _ h9 rfl
  intro z0 z1 hw
  cases hw
  cases h
  exact hQ _ _ dX10_change_52

def m_X10_isCell (M : Mem) (a1 : Int) : Option (Bool) :=
  lt (if wr a1 < 0 then 0 else (if wr ((gI M 1 0) * (gI M 1 1)) ≤ wr a1 then 0 else 1)) fun (v3 : Int) =>
  if v3 = 0 ∨ v3 = 1 then some (decide (v3 = 1)) else none
set_option maxRecDepth 10000 in
theorem run_X10_isCell {M : Mem} {a1 : Int} {r : Bool}   (h : m_X10_isCell M a1 = some r) : RunI 0 yX10_isCell cX10_isCell 2 (some .boolean) [vR 1, vI a1] M (bI r) M := by
  refine runI_of (lv := [(0, vR 1), (1, vI a1)]) (by decide +kernel) (Or.inr ⟨rfl, bI_01 r⟩) (Nat.le_of_ble_eq_true rfl) rfl ?_
  intro G hQ
  unfold m_X10_isCell at h
  refine r_iload_n dX10_isCell_0 rfl 1 rfl ?_
  obtain ⟨v3, ev3, h⟩ := of_lt h
  have kJ : Ex G 0 cX10_isCell RX10 2 22 [] [vI v3] M := by
    obtain ⟨cz, h⟩ := of_ck h
    rw [← bI_dec cz]
    cases h
    exact hQ _ _ dX10_isCell_22
  clear h
  by_cases c1 : wr a1 < 0
  · skip
    refine r_if_lt (tgt := 21) dX10_isCell_1 (by decide) (fun _ => ?_) (fun q => absurd c1 q)
    refine r_iconst dX10_isCell_21 ?_
    rw [show v3 = 0 from by rw [ev3, if_pos c1]] at kJ
    refine r_sub (lv2 := []) [] rfl ?_
    exact kJ
  · skip
    refine r_if_lt (tgt := 21) dX10_isCell_1 (by decide) (fun q => absurd q c1) (fun _ => ?_)
    refine r_iload_n dX10_isCell_4 rfl 1 rfl ?_
    refine r_aload_n dX10_isCell_5 rfl 0 rfl ?_
    refine r_getI (j := 0) (jz := 0) dX10_isCell_6 f_X10_22 rfl rfl rfl ?_
    refine r_aload_n dX10_isCell_9 rfl 0 rfl ?_
    refine r_getI (j := 1) (jz := 1) dX10_isCell_10 f_X10_26 rfl rfl rfl ?_
    refine r_imul dX10_isCell_13 ?_
    by_cases c2 : wr ((gI M 1 0) * (gI M 1 1)) ≤ wr a1
    · skip
      refine r_icmp_ge (tgt := 21) dX10_isCell_14 (by decide) (fun _ => ?_) (fun q => absurd c2 q)
      refine r_iconst dX10_isCell_21 ?_
      rw [show v3 = 0 from by rw [ev3, if_neg c1, if_pos c2]] at kJ
      refine r_sub (lv2 := []) [] rfl ?_
      exact kJ
    · skip
      refine r_icmp_ge (tgt := 21) dX10_isCell_14 (by decide) (fun q => absurd q c2) (fun _ => ?_)
      refine r_iconst dX10_isCell_17 ?_
      refine r_goto (tgt := 22) dX10_isCell_18 (by decide) ?_
      rw [show v3 = 1 from by rw [ev3, if_neg c1, if_neg c2]] at kJ
      refine r_sub (lv2 := []) [] rfl ?_
      exact kJ

def m_X10_isOpen (M : Mem) (a1 : Int) : Option (Bool) :=
  bd1 (m_X10_isCell M a1) fun b2 =>
  bd1 (
    if wr (bI b2) = 0 then
      some (0)
    else
      if 0 ≤ wr a1 ∧ wr a1 < 64 then
      if wr (gI M 2 (wr a1)) = 0 then
        some (0)
      else
        some (1)
      else none) fun (v6 : Int) =>
  if v6 = 0 ∨ v6 = 1 then some (decide (v6 = 1)) else none
set_option maxRecDepth 10000 in
theorem run_X10_isOpen {M : Mem} {a1 : Int} {r : Bool}   (h : m_X10_isOpen M a1 = some r) : RunI 1 yX10_isOpen cX10_isOpen 2 (some .boolean) [vR 1, vI a1] M (bI r) M := by
  refine runI_of (lv := [(0, vR 1), (1, vI a1)]) (by decide +kernel) (Or.inr ⟨rfl, bI_01 r⟩) (Nat.le_of_ble_eq_true rfl) rfl ?_
  intro G hQ
  unfold m_X10_isOpen at h
  refine r_aload_n dX10_isOpen_0 rfl 0 rfl ?_
  refine r_iload_n dX10_isOpen_1 rfl 1 rfl ?_
  obtain ⟨b2, hc1, h⟩ := of_bd1 h
  refine r_callVI (st := []) dX10_isOpen_2 v_X10_46 (run_X10_isCell hc1) (by decide) (by decide) rfl rfl (Nat.le_of_ble_eq_true rfl) rfl ?_
  obtain ⟨v6, h9, h⟩ := of_bd1 h
  have kJ : Ex G 1 cX10_isOpen RX10 2 22 [] [vI v6] M := by
    obtain ⟨cz, h⟩ := of_ck h
    rw [← bI_dec cz]
    cases h
    exact hQ _ _ dX10_isOpen_22
  clear h
  have h := h9
  clear h9
  by_cases c3 : wr (bI b2) = 0
  · rw [if_pos c3] at h
    refine r_if_eq (tgt := 21) dX10_isOpen_5 (by decide) (fun _ => ?_) (fun q => absurd c3 q)
    refine r_iconst dX10_isOpen_21 ?_
    refine r_sub (lv2 := []) [] rfl ?_
    cases h
    exact kJ
  · rw [if_neg c3] at h
    refine r_if_eq (tgt := 21) dX10_isOpen_5 (by decide) (fun q => absurd q c3) (fun _ => ?_)
    refine r_aload_n dX10_isOpen_8 rfl 0 rfl ?_
    refine r_getR (j := 2) (v := 2) dX10_isOpen_9 f_X10_9 rfl rfl rfl ?_
    refine r_iload_n dX10_isOpen_12 rfl 1 rfl ?_
    obtain ⟨c4, h⟩ := of_ck h
    refine r_zald dX10_isOpen_13 rfl c4 ?_
    by_cases c5 : wr (gI M 2 (wr a1)) = 0
    · rw [if_pos c5] at h
      refine r_if_eq (tgt := 21) dX10_isOpen_14 (by decide) (fun _ => ?_) (fun q => absurd c5 q)
      refine r_iconst dX10_isOpen_21 ?_
      refine r_sub (lv2 := []) [] rfl ?_
      cases h
      exact kJ
    · rw [if_neg c5] at h
      refine r_if_eq (tgt := 21) dX10_isOpen_14 (by decide) (fun q => absurd q c5) (fun _ => ?_)
      refine r_iconst dX10_isOpen_17 ?_
      refine r_goto (tgt := 22) dX10_isOpen_18 (by decide) ?_
      refine r_sub (lv2 := []) [] rfl ?_
      cases h
      exact kJ

def m_X10_darkCells_L4 (M : Mem)  (x1 : Int) (x2 : Int) : Option ((Int × Int) ⊕ (Int × Int)) :=
  if wr ((gI M 1 0) * (gI M 1 1)) ≤ wr x2 then
    some (.inr (x1, x2))
  else
    if 0 ≤ wr x2 ∧ wr x2 < 64 then
    bd1 (
      if wr (gI M 2 (wr x2)) = 0 then
        some (0)
      else
        bd1 (m_X10_isDark M x2) fun b5 =>
        if wr (bI b5) = 0 then
          some (0)
        else
          some (1)) fun (v7 : Int) =>
    some (.inl ((x1 + (m_X11_bit v7)), (x2 + 1)))
    else none
def m_X10_darkCells (M : Mem) : Option (Int) :=
  bd2 (itr (fun s => m_X10_darkCells_L4 M  s.1 s.2) FU (0, 0)) fun y8 y9 =>
  some y8
set_option maxRecDepth 10000 in
theorem lp_X10_darkCells_L4 {G : Gx} (M : Mem)    (X : (Int × Int) → Prop) (hX1 : ∀ (x1 : Int) (x2 : Int), X (x1, x2) → Ex G 2 cX10_darkCells RX10 3 51 [(0, vR 1), (1, vI x1), (2, vI x2)] [] M) : ∀ (nn : Nat) (x1 : Int) (x2 : Int) (out : Int × Int), itr (fun s => m_X10_darkCells_L4 M  s.1 s.2) nn (x1, x2) = some out → X out → Ex G 2 cX10_darkCells RX10 3 4 [(0, vR 1), (1, vI x1), (2, vI x2)] [] M := by
  intro nn
  induction nn with
  | zero =>
    intro x1 x2 out h _
    cases h
  | succ nn ih =>
    intro x1 x2 out h0 hX
    obtain ⟨w, h, k1, k2⟩ := itr_inv h0
    have h : m_X10_darkCells_L4 M  x1 x2 = some w := h
    unfold m_X10_darkCells_L4 at h
    refine r_iload_n dX10_darkCells_4 rfl 2 rfl ?_
    refine r_aload_n dX10_darkCells_5 rfl 0 rfl ?_
    refine r_getI (j := 0) (jz := 0) dX10_darkCells_6 f_X10_22 rfl rfl rfl ?_
    refine r_aload_n dX10_darkCells_9 rfl 0 rfl ?_
    refine r_getI (j := 1) (jz := 1) dX10_darkCells_10 f_X10_26 rfl rfl rfl ?_
    refine r_imul dX10_darkCells_13 ?_
    by_cases c1 : wr ((gI M 1 0) * (gI M 1 1)) ≤ wr x2
    · rw [if_pos c1] at h
      refine r_icmp_ge (tgt := 51) dX10_darkCells_14 (by decide) (fun _ => ?_) (fun q => absurd c1 q)
      cases h
      cases k2 _ rfl
      exact hX1 _ _ hX
    · rw [if_neg c1] at h
      refine r_icmp_ge (tgt := 51) dX10_darkCells_14 (by decide) (fun q => absurd q c1) (fun _ => ?_)
      refine r_iload_n dX10_darkCells_17 rfl 1 rfl ?_
      refine r_aload_n dX10_darkCells_18 rfl 0 rfl ?_
      refine r_getR (j := 2) (v := 2) dX10_darkCells_19 f_X10_9 rfl rfl rfl ?_
      refine r_iload_n dX10_darkCells_22 rfl 2 rfl ?_
      obtain ⟨c2, h⟩ := of_ck h
      refine r_zald dX10_darkCells_23 rfl c2 ?_
      obtain ⟨v7, h9, h⟩ := of_bd1 h
      have kJ : Ex G 2 cX10_darkCells RX10 3 40 [(0, vR 1), (2, vI x2)] [vI v7, vI x1] M := by
        refine r_callNI (st := [vI x1]) dX10_darkCells_40 v_X10_56 (run_X11_bit rfl) (by decide) (by decide) rfl (Nat.le_of_ble_eq_true rfl) rfl ?_
        refine r_iadd dX10_darkCells_43 ?_
        refine r_istore_n (lv2 := [(1, vI (x1 + (m_X11_bit v7))), (0, vR 1), (2, vI x2)]) dX10_darkCells_44 rfl (by decide) rfl ?_
        refine r_iinc (lv2 := [(2, vI (x2 + 1)), (1, vI (x1 + (m_X11_bit v7))), (0, vR 1)]) dX10_darkCells_45 2 rfl (by decide) rfl ?_
        refine r_goto (tgt := 4) dX10_darkCells_48 (by decide) ?_
        refine r_sub (lv2 := [(0, vR 1), (1, vI (x1 + (m_X11_bit v7))), (2, vI (x2 + 1))]) [2, 1, 0] rfl ?_
        cases h
        exact ih _ _  _ (k1 _ rfl) hX
      clear h
      have h := h9
      clear h9
      by_cases c3 : wr (gI M 2 (wr x2)) = 0
      · rw [if_pos c3] at h
        refine r_if_eq (tgt := 39) dX10_darkCells_24 (by decide) (fun _ => ?_) (fun q => absurd c3 q)
        refine r_iconst dX10_darkCells_39 ?_
        refine r_sub (lv2 := [(0, vR 1), (2, vI x2)]) [0, 2] rfl ?_
        cases h
        exact kJ
      · rw [if_neg c3] at h
        refine r_if_eq (tgt := 39) dX10_darkCells_24 (by decide) (fun q => absurd q c3) (fun _ => ?_)
        refine r_aload_n dX10_darkCells_27 rfl 0 rfl ?_
        refine r_iload_n dX10_darkCells_28 rfl 2 rfl ?_
        obtain ⟨b5, hc4, h⟩ := of_bd1 h
        refine r_callVI (st := [vI x1]) dX10_darkCells_29 v_X10_60 (run_X10_isDark hc4) (by decide) (by decide) rfl rfl (Nat.le_of_ble_eq_true rfl) rfl ?_
        by_cases c6 : wr (bI b5) = 0
        · rw [if_pos c6] at h
          refine r_if_eq (tgt := 39) dX10_darkCells_32 (by decide) (fun _ => ?_) (fun q => absurd c6 q)
          refine r_iconst dX10_darkCells_39 ?_
          refine r_sub (lv2 := [(0, vR 1), (2, vI x2)]) [0, 2] rfl ?_
          cases h
          exact kJ
        · rw [if_neg c6] at h
          refine r_if_eq (tgt := 39) dX10_darkCells_32 (by decide) (fun q => absurd q c6) (fun _ => ?_)
          refine r_iconst dX10_darkCells_35 ?_
          refine r_goto (tgt := 40) dX10_darkCells_36 (by decide) ?_
          refine r_sub (lv2 := [(0, vR 1), (2, vI x2)]) [0, 2] rfl ?_
          cases h
          exact kJ

set_option maxRecDepth 10000 in
theorem run_X10_darkCells {M : Mem} {r : Int}   (h : m_X10_darkCells M = some r) : RunI 2 yX10_darkCells cX10_darkCells 3 (some .int) [vR 1] M r M := by
  refine runI_of (lv := [(0, vR 1)]) (by decide +kernel) (Or.inl rfl) (Nat.le_of_ble_eq_true rfl) rfl ?_
  intro G hQ
  unfold m_X10_darkCells at h
  refine r_iconst dX10_darkCells_0 ?_
  refine r_istore_n (lv2 := [(1, vI 0), (0, vR 1)]) dX10_darkCells_1 rfl (by decide) rfl ?_
  refine r_iconst dX10_darkCells_2 ?_
  refine r_istore_n (lv2 := [(2, vI 0), (1, vI 0), (0, vR 1)]) dX10_darkCells_3 rfl (by decide) rfl ?_
  obtain ⟨y8, y9, h9, h⟩ := of_bd2 h
  refine r_sub (lv2 := [(0, vR 1), (1, vI 0), (2, vI 0)]) [2, 1, 0] rfl ?_
  refine lp_X10_darkCells_L4 M   (fun w => w = (y8, y9)) ?_ FU 0 0 _ h9 rfl
  intro z0 z1 hw
  cases hw
  refine r_iload_n dX10_darkCells_51 rfl 1 rfl ?_
  cases h
  exact hQ _ _ dX10_darkCells_52

def m_X10_standingBricks_L4 (M : Mem)  (x1 : Int) (x2 : Int) : Option ((Int × Int) ⊕ (Int × Int)) :=
  if wr ((2 * (gI M 1 0)) * (gI M 1 1)) ≤ wr x2 then
    some (.inr (x1, x2))
  else
    bd1 (m_X10_stands M x2) fun b3 =>
    some (.inl ((x1 + (m_X11_bit (bI b3))), (x2 + 1)))
def m_X10_standingBricks (M : Mem) : Option (Int) :=
  bd2 (itr (fun s => m_X10_standingBricks_L4 M  s.1 s.2) FU (0, 0)) fun y4 y5 =>
  some y4
set_option maxRecDepth 10000 in
theorem lp_X10_standingBricks_L4 {G : Gx} (M : Mem)    (X : (Int × Int) → Prop) (hX1 : ∀ (x1 : Int) (x2 : Int), X (x1, x2) → Ex G 3 cX10_standingBricks RX10 3 36 [(0, vR 1), (1, vI x1), (2, vI x2)] [] M) : ∀ (nn : Nat) (x1 : Int) (x2 : Int) (out : Int × Int), itr (fun s => m_X10_standingBricks_L4 M  s.1 s.2) nn (x1, x2) = some out → X out → Ex G 3 cX10_standingBricks RX10 3 4 [(0, vR 1), (1, vI x1), (2, vI x2)] [] M := by
  intro nn
  induction nn with
  | zero =>
    intro x1 x2 out h _
    cases h
  | succ nn ih =>
    intro x1 x2 out h0 hX
    obtain ⟨w, h, k1, k2⟩ := itr_inv h0
    have h : m_X10_standingBricks_L4 M  x1 x2 = some w := h
    unfold m_X10_standingBricks_L4 at h
    refine r_iload_n dX10_standingBricks_4 rfl 2 rfl ?_
    refine r_iconst dX10_standingBricks_5 ?_
    refine r_aload_n dX10_standingBricks_6 rfl 0 rfl ?_
    refine r_getI (j := 0) (jz := 0) dX10_standingBricks_7 f_X10_22 rfl rfl rfl ?_
    refine r_imul dX10_standingBricks_10 ?_
    refine r_aload_n dX10_standingBricks_11 rfl 0 rfl ?_
    refine r_getI (j := 1) (jz := 1) dX10_standingBricks_12 f_X10_26 rfl rfl rfl ?_
    refine r_imul dX10_standingBricks_15 ?_
    by_cases c1 : wr ((2 * (gI M 1 0)) * (gI M 1 1)) ≤ wr x2
    · rw [if_pos c1] at h
      refine r_icmp_ge (tgt := 36) dX10_standingBricks_16 (by decide) (fun _ => ?_) (fun q => absurd c1 q)
      cases h
      cases k2 _ rfl
      exact hX1 _ _ hX
    · rw [if_neg c1] at h
      refine r_icmp_ge (tgt := 36) dX10_standingBricks_16 (by decide) (fun q => absurd q c1) (fun _ => ?_)
      refine r_iload_n dX10_standingBricks_19 rfl 1 rfl ?_
      refine r_aload_n dX10_standingBricks_20 rfl 0 rfl ?_
      refine r_iload_n dX10_standingBricks_21 rfl 2 rfl ?_
      obtain ⟨b3, hc2, h⟩ := of_bd1 h
      refine r_callVI (st := [vI x1]) dX10_standingBricks_22 v_X10_63 (run_X10_stands hc2) (by decide) (by decide) rfl rfl (Nat.le_of_ble_eq_true rfl) rfl ?_
      refine r_callNI (st := [vI x1]) dX10_standingBricks_25 v_X10_56 (run_X11_bit rfl) (by decide) (by decide) rfl (Nat.le_of_ble_eq_true rfl) rfl ?_
      refine r_iadd dX10_standingBricks_28 ?_
      refine r_istore_n (lv2 := [(1, vI (x1 + (m_X11_bit (bI b3)))), (0, vR 1), (2, vI x2)]) dX10_standingBricks_29 rfl (by decide) rfl ?_
      refine r_iinc (lv2 := [(2, vI (x2 + 1)), (1, vI (x1 + (m_X11_bit (bI b3)))), (0, vR 1)]) dX10_standingBricks_30 2 rfl (by decide) rfl ?_
      refine r_goto (tgt := 4) dX10_standingBricks_33 (by decide) ?_
      refine r_sub (lv2 := [(0, vR 1), (1, vI (x1 + (m_X11_bit (bI b3)))), (2, vI (x2 + 1))]) [2, 1, 0] rfl ?_
      cases h
      exact ih _ _  _ (k1 _ rfl) hX

set_option maxRecDepth 10000 in
theorem run_X10_standingBricks {M : Mem} {r : Int}   (h : m_X10_standingBricks M = some r) : RunI 3 yX10_standingBricks cX10_standingBricks 3 (some .int) [vR 1] M r M := by
  refine runI_of (lv := [(0, vR 1)]) (by decide +kernel) (Or.inl rfl) (Nat.le_of_ble_eq_true rfl) rfl ?_
  intro G hQ
  unfold m_X10_standingBricks at h
  refine r_iconst dX10_standingBricks_0 ?_
  refine r_istore_n (lv2 := [(1, vI 0), (0, vR 1)]) dX10_standingBricks_1 rfl (by decide) rfl ?_
  refine r_iconst dX10_standingBricks_2 ?_
  refine r_istore_n (lv2 := [(2, vI 0), (1, vI 0), (0, vR 1)]) dX10_standingBricks_3 rfl (by decide) rfl ?_
  obtain ⟨y4, y5, h9, h⟩ := of_bd2 h
  refine r_sub (lv2 := [(0, vR 1), (1, vI 0), (2, vI 0)]) [2, 1, 0] rfl ?_
  refine lp_X10_standingBricks_L4 M   (fun w => w = (y4, y5)) ?_ FU 0 0 _ h9 rfl
  intro z0 z1 hw
  cases hw
  refine r_iload_n dX10_standingBricks_36 rfl 1 rfl ?_
  cases h
  exact hQ _ _ dX10_standingBricks_37

def m_X10_wantedBricks_L4 (M : Mem) (p1 : Int) (x2 : Int) (x3 : Int) : Option ((Int × Int) ⊕ (Int × Int)) :=
  if wr ((2 * (gI M 1 0)) * (gI M 1 1)) ≤ wr x3 then
    some (.inr (x2, x3))
  else
    if 0 ≤ wr x3 ∧ wr x3 < 128 then
    lt (if wr (gI M 3 (wr x3)) = wr p1 then 1 else 0) fun (v4 : Int) =>
    some (.inl ((x2 + (m_X11_bit v4)), (x3 + 1)))
    else none
def m_X10_wantedBricks (M : Mem) (a1 : Int) : Option (Int) :=
  bd2 (itr (fun s => m_X10_wantedBricks_L4 M a1 s.1 s.2) FU (0, 0)) fun y5 y6 =>
  some y5
set_option maxRecDepth 10000 in
theorem lp_X10_wantedBricks_L4 {G : Gx} (M : Mem) (p1 : Int)   (X : (Int × Int) → Prop) (hX1 : ∀ (x2 : Int) (x3 : Int), X (x2, x3) → Ex G 1 cX10_wantedBricks RX10 4 46 [(0, vR 1), (1, vI p1), (2, vI x2), (3, vI x3)] [] M) : ∀ (nn : Nat) (x2 : Int) (x3 : Int) (out : Int × Int), itr (fun s => m_X10_wantedBricks_L4 M p1 s.1 s.2) nn (x2, x3) = some out → X out → Ex G 1 cX10_wantedBricks RX10 4 4 [(0, vR 1), (1, vI p1), (2, vI x2), (3, vI x3)] [] M := by
  intro nn
  induction nn with
  | zero =>
    intro x2 x3 out h _
    cases h
  | succ nn ih =>
    intro x2 x3 out h0 hX
    obtain ⟨w, h, k1, k2⟩ := itr_inv h0
    have h : m_X10_wantedBricks_L4 M p1 x2 x3 = some w := h
    unfold m_X10_wantedBricks_L4 at h
    refine r_iload_n dX10_wantedBricks_4 rfl 3 rfl ?_
    refine r_iconst dX10_wantedBricks_5 ?_
    refine r_aload_n dX10_wantedBricks_6 rfl 0 rfl ?_
    refine r_getI (j := 0) (jz := 0) dX10_wantedBricks_7 f_X10_22 rfl rfl rfl ?_
    refine r_imul dX10_wantedBricks_10 ?_
    refine r_aload_n dX10_wantedBricks_11 rfl 0 rfl ?_
    refine r_getI (j := 1) (jz := 1) dX10_wantedBricks_12 f_X10_26 rfl rfl rfl ?_
    refine r_imul dX10_wantedBricks_15 ?_
    by_cases c1 : wr ((2 * (gI M 1 0)) * (gI M 1 1)) ≤ wr x3
    · rw [if_pos c1] at h
      refine r_icmp_ge (tgt := 46) dX10_wantedBricks_16 (by decide) (fun _ => ?_) (fun q => absurd c1 q)
      cases h
      cases k2 _ rfl
      exact hX1 _ _ hX
    · rw [if_neg c1] at h
      refine r_icmp_ge (tgt := 46) dX10_wantedBricks_16 (by decide) (fun q => absurd q c1) (fun _ => ?_)
      refine r_iload_n dX10_wantedBricks_19 rfl 2 rfl ?_
      refine r_aload_n dX10_wantedBricks_20 rfl 0 rfl ?_
      refine r_getR (j := 3) (v := 3) dX10_wantedBricks_21 f_X10_15 rfl rfl rfl ?_
      refine r_iload_n dX10_wantedBricks_24 rfl 3 rfl ?_
      obtain ⟨c2, h⟩ := of_ck h
      refine r_iald dX10_wantedBricks_25 rfl c2 ?_
      refine r_iload_n dX10_wantedBricks_26 rfl 1 rfl ?_
      obtain ⟨v4, ev4, h⟩ := of_lt h
      have kJ : Ex G 1 cX10_wantedBricks RX10 4 35 [(0, vR 1), (1, vI p1), (3, vI x3)] [vI v4, vI x2] M := by
        refine r_callNI (st := [vI x2]) dX10_wantedBricks_35 v_X10_56 (run_X11_bit rfl) (by decide) (by decide) rfl (Nat.le_of_ble_eq_true rfl) rfl ?_
        refine r_iadd dX10_wantedBricks_38 ?_
        refine r_istore_n (lv2 := [(2, vI (x2 + (m_X11_bit v4))), (0, vR 1), (1, vI p1), (3, vI x3)]) dX10_wantedBricks_39 rfl (by decide) rfl ?_
        refine r_iinc (lv2 := [(3, vI (x3 + 1)), (2, vI (x2 + (m_X11_bit v4))), (0, vR 1), (1, vI p1)]) dX10_wantedBricks_40 3 rfl (by decide) rfl ?_
        refine r_goto (tgt := 4) dX10_wantedBricks_43 (by decide) ?_
        refine r_sub (lv2 := [(0, vR 1), (1, vI p1), (2, vI (x2 + (m_X11_bit v4))), (3, vI (x3 + 1))]) [2, 3, 1, 0] rfl ?_
        cases h
        exact ih _ _  _ (k1 _ rfl) hX
      clear h
      by_cases c3 : wr (gI M 3 (wr x3)) = wr p1
      · skip
        refine r_icmp_ne (tgt := 34) dX10_wantedBricks_27 (by decide) (fun q => absurd c3 q) (fun _ => ?_)
        refine r_iconst dX10_wantedBricks_30 ?_
        refine r_goto (tgt := 35) dX10_wantedBricks_31 (by decide) ?_
        rw [show v4 = 1 from by rw [ev4, if_pos c3]] at kJ
        refine r_sub (lv2 := [(0, vR 1), (1, vI p1), (3, vI x3)]) [0, 1, 3] rfl ?_
        exact kJ
      · skip
        refine r_icmp_ne (tgt := 34) dX10_wantedBricks_27 (by decide) (fun _ => ?_) (fun q => absurd q c3)
        refine r_iconst dX10_wantedBricks_34 ?_
        rw [show v4 = 0 from by rw [ev4, if_neg c3]] at kJ
        refine r_sub (lv2 := [(0, vR 1), (1, vI p1), (3, vI x3)]) [0, 1, 3] rfl ?_
        exact kJ

set_option maxRecDepth 10000 in
theorem run_X10_wantedBricks {M : Mem} {a1 : Int} {r : Int}   (h : m_X10_wantedBricks M a1 = some r) : RunI 1 yX10_wantedBricks cX10_wantedBricks 4 (some .int) [vR 1, vI a1] M r M := by
  refine runI_of (lv := [(0, vR 1), (1, vI a1)]) (by decide +kernel) (Or.inl rfl) (Nat.le_of_ble_eq_true rfl) rfl ?_
  intro G hQ
  unfold m_X10_wantedBricks at h
  refine r_iconst dX10_wantedBricks_0 ?_
  refine r_istore_n (lv2 := [(2, vI 0), (0, vR 1), (1, vI a1)]) dX10_wantedBricks_1 rfl (by decide) rfl ?_
  refine r_iconst dX10_wantedBricks_2 ?_
  refine r_istore_n (lv2 := [(3, vI 0), (2, vI 0), (0, vR 1), (1, vI a1)]) dX10_wantedBricks_3 rfl (by decide) rfl ?_
  obtain ⟨y5, y6, h9, h⟩ := of_bd2 h
  refine r_sub (lv2 := [(0, vR 1), (1, vI a1), (2, vI 0), (3, vI 0)]) [2, 3, 1, 0] rfl ?_
  refine lp_X10_wantedBricks_L4 M a1  (fun w => w = (y5, y6)) ?_ FU 0 0 _ h9 rfl
  intro z0 z1 hw
  cases hw
  refine r_iload_n dX10_wantedBricks_46 rfl 2 rfl ?_
  cases h
  exact hQ _ _ dX10_wantedBricks_47

def m_X11_yardChanged_L9 (M : Mem)  (x1 : Int) : Option ((Int × Mem) ⊕ (Int × Mem)) :=
  if wr 4 ≤ wr x1 then
    some (.inr (x1, M))
  else
    if 0 ≤ wr x1 ∧ wr x1 < 4 then
    lt (sI M (39 + 2 * (wr x1).toNat) 0 0) fun M5 =>
    some (.inl ((x1 + 1), M5))
    else none
def m_X11_yardChanged (M : Mem) : Option (Mem) :=
  bd1 (m_X7_forget M) fun M2 =>
  bd2 (itr (fun s => m_X11_yardChanged_L9 s.2  s.1) FU (0, M2)) fun y6 M7 =>
  some M7
set_option maxRecDepth 10000 in
theorem lp_X11_yardChanged_L9 {G : Gx}    (X : (Int × Mem) → Prop) (hX1 : ∀ (x1 : Int) (M : Mem), X (x1, M) → Ex G 1 cX11_yardChanged RX11 2 30 [(0, vR 0), (1, vI x1)] [] M) : ∀ (nn : Nat) (x1 : Int) (M : Mem) (out : Int × Mem), itr (fun s => m_X11_yardChanged_L9 s.2  s.1) nn (x1, M) = some out → X out → Ex G 1 cX11_yardChanged RX11 2 9 [(0, vR 0), (1, vI x1)] [] M := by
  intro nn
  induction nn with
  | zero =>
    intro x1 M out h _
    cases h
  | succ nn ih =>
    intro x1 M out h0 hX
    obtain ⟨w, h, k1, k2⟩ := itr_inv h0
    have h : m_X11_yardChanged_L9 M  x1 = some w := h
    unfold m_X11_yardChanged_L9 at h
    refine r_iload_n dX11_yardChanged_9 rfl 1 rfl ?_
    refine r_iconst dX11_yardChanged_10 ?_
    by_cases c3 : wr 4 ≤ wr x1
    · rw [if_pos c3] at h
      refine r_icmp_ge (tgt := 30) dX11_yardChanged_11 (by decide) (fun _ => ?_) (fun q => absurd c3 q)
      cases h
      cases k2 _ rfl
      exact hX1 _ _ hX
    · rw [if_neg c3] at h
      refine r_icmp_ge (tgt := 30) dX11_yardChanged_11 (by decide) (fun q => absurd q c3) (fun _ => ?_)
      refine r_aload_n dX11_yardChanged_14 rfl 0 rfl ?_
      refine r_getR (j := 8) (v := 37) dX11_yardChanged_15 f_X11_67 rfl rfl rfl ?_
      refine r_iload_n dX11_yardChanged_18 rfl 1 rfl ?_
      obtain ⟨c4, h⟩ := of_ck h
      refine r_aald3 dX11_yardChanged_19 rfl c4 (slo_el c4).1 ?_
      refine r_iconst dX11_yardChanged_20 ?_
      obtain ⟨M5, eM5, h⟩ := of_lt h
      refine r_putI (j := 0) (jz := 0) dX11_yardChanged_21 p_X11_211 (slo_el (M := M) c4).2 rfl rfl rfl rfl ?_
      rw [← eM5]
      refine r_iinc (lv2 := [(1, vI (x1 + 1)), (0, vR 0)]) dX11_yardChanged_24 1 rfl (by decide) rfl ?_
      refine r_goto (tgt := 9) dX11_yardChanged_27 (by decide) ?_
      refine r_sub (lv2 := [(0, vR 0), (1, vI (x1 + 1))]) [1, 0] rfl ?_
      cases h
      exact ih _ _  _ (k1 _ rfl) hX

set_option maxRecDepth 10000 in
theorem run_X11_yardChanged {M : Mem} {M2 : Mem}   (h : m_X11_yardChanged M = some (M2)) : RunV 1 yX11_yardChanged cX11_yardChanged 2 none [vR 0] M M2 := by
  refine runV_of (lv := [(0, vR 0)]) (by decide +kernel) rfl (Nat.le_of_ble_eq_true rfl) rfl ?_
  intro G hQ
  unfold m_X11_yardChanged at h
  refine r_aload_n dX11_yardChanged_0 rfl 0 rfl ?_
  refine r_getR (j := 2) (v := 8) dX11_yardChanged_1 f_X11_26 rfl rfl rfl ?_
  obtain ⟨M2, hc1, h⟩ := of_bd1 h
  refine r_callVV (st := []) dX11_yardChanged_4 v_X11_170 (run_X7_forget hc1) (by decide) (by decide) rfl rfl (Nat.le_of_ble_eq_true rfl) rfl ?_
  refine r_iconst dX11_yardChanged_7 ?_
  refine r_istore_n (lv2 := [(1, vI 0), (0, vR 0)]) dX11_yardChanged_8 rfl (by decide) rfl ?_
  obtain ⟨y6, M7, h9, h⟩ := of_bd2 h
  refine r_sub (lv2 := [(0, vR 0), (1, vI 0)]) [1, 0] rfl ?_
  refine lp_X11_yardChanged_L9   (fun w => w = (y6, M7)) ?_ FU 0 M2 _ h9 rfl
  intro z0 z1 hw
  cases hw
  cases h
  exact hQ _ _ dX11_yardChanged_30

def m_X11_startYard (M : Mem) (a1 : Int) (a2 : Int) : Option (Mem) :=
  bd1 (m_X10_start M a1 a2) fun M2 =>
  bd1 (m_X11_yardChanged M2) fun M4 =>
  some M4
set_option maxRecDepth 10000 in
theorem run_X11_startYard {M : Mem} {M2 : Mem} {a1 : Int} {a2 : Int}   (h : m_X11_startYard M a1 a2 = some (M2)) : RunV 2 yX11_startYard cX11_startYard 3 none [vR 0, vI a1, vI a2] M M2 := by
  refine runV_of (lv := [(0, vR 0), (1, vI a1), (2, vI a2)]) (by decide +kernel) rfl (Nat.le_of_ble_eq_true rfl) rfl ?_
  intro G hQ
  unfold m_X11_startYard at h
  refine r_aload_n dX11_startYard_0 rfl 0 rfl ?_
  refine r_getR (j := 0) (v := 1) dX11_startYard_1 f_X11_10 rfl rfl rfl ?_
  refine r_iload_n dX11_startYard_4 rfl 1 rfl ?_
  refine r_iload_n dX11_startYard_5 rfl 2 rfl ?_
  obtain ⟨M2, hc1, h⟩ := of_bd1 h
  refine r_callVV (st := []) dX11_startYard_6 v_X11_337 (run_X10_start hc1) (by decide) (by decide) rfl rfl (Nat.le_of_ble_eq_true rfl) rfl ?_
  refine r_aload_n dX11_startYard_9 rfl 0 rfl ?_
  obtain ⟨M4, hc3, h⟩ := of_bd1 h
  refine r_callVV (st := []) dX11_startYard_10 v_X11_338 (run_X11_yardChanged hc3) (by decide) (by decide) rfl rfl (Nat.le_of_ble_eq_true rfl) rfl ?_
  cases h
  exact hQ _ _ dX11_startYard_13

def m_X11_yard (M : Mem) (a1 : Int) (a2 : Int) : Option (Int × Mem) :=
  if wr a1 < wr 1 then
    some ((-1), M)
  else
    if wr 8 < wr a1 then
      some ((-1), M)
    else
      if wr a2 < wr 1 then
        some ((-1), M)
      else
        if wr a2 ≤ wr 8 then
          bd1 (m_X11_startYard M a1 a2) fun M6 =>
          some ((m_X10_cells M6), M6)
        else
          some ((-1), M)
set_option maxRecDepth 10000 in
theorem run_X11_yard {M : Mem} {M2 : Mem} {a1 : Int} {a2 : Int} {r : Int}   (h : m_X11_yard M a1 a2 = some (r, M2)) : RunI 3 yX11_yard cX11_yard 3 (some .int) [vR 0, vI a1, vI a2] M r M2 := by
  refine runI_of (lv := [(0, vR 0), (1, vI a1), (2, vI a2)]) (by decide +kernel) (Or.inl rfl) (Nat.le_of_ble_eq_true rfl) rfl ?_
  intro G hQ
  unfold m_X11_yard at h
  refine r_iload_n dX11_yard_0 rfl 1 rfl ?_
  refine r_iconst dX11_yard_1 ?_
  by_cases c1 : wr a1 < wr 1
  · rw [if_pos c1] at h
    refine r_icmp_lt (tgt := 22) dX11_yard_2 (by decide) (fun _ => ?_) (fun q => absurd c1 q)
    refine r_iconst dX11_yard_22 ?_
    cases h
    exact hQ _ _ dX11_yard_23
  · rw [if_neg c1] at h
    refine r_icmp_lt (tgt := 22) dX11_yard_2 (by decide) (fun q => absurd q c1) (fun _ => ?_)
    refine r_iload_n dX11_yard_5 rfl 1 rfl ?_
    refine r_bipush dX11_yard_6 (by decide) ?_
    by_cases c2 : wr 8 < wr a1
    · rw [if_pos c2] at h
      refine r_icmp_gt (tgt := 22) dX11_yard_8 (by decide) (fun _ => ?_) (fun q => absurd c2 q)
      refine r_iconst dX11_yard_22 ?_
      cases h
      exact hQ _ _ dX11_yard_23
    · rw [if_neg c2] at h
      refine r_icmp_gt (tgt := 22) dX11_yard_8 (by decide) (fun q => absurd q c2) (fun _ => ?_)
      refine r_iload_n dX11_yard_11 rfl 2 rfl ?_
      refine r_iconst dX11_yard_12 ?_
      by_cases c3 : wr a2 < wr 1
      · rw [if_pos c3] at h
        refine r_icmp_lt (tgt := 22) dX11_yard_13 (by decide) (fun _ => ?_) (fun q => absurd c3 q)
        refine r_iconst dX11_yard_22 ?_
        cases h
        exact hQ _ _ dX11_yard_23
      · rw [if_neg c3] at h
        refine r_icmp_lt (tgt := 22) dX11_yard_13 (by decide) (fun q => absurd q c3) (fun _ => ?_)
        refine r_iload_n dX11_yard_16 rfl 2 rfl ?_
        refine r_bipush dX11_yard_17 (by decide) ?_
        by_cases c4 : wr a2 ≤ wr 8
        · rw [if_pos c4] at h
          refine r_icmp_le (tgt := 24) dX11_yard_19 (by decide) (fun _ => ?_) (fun q => absurd c4 q)
          refine r_aload_n dX11_yard_24 rfl 0 rfl ?_
          refine r_iload_n dX11_yard_25 rfl 1 rfl ?_
          refine r_iload_n dX11_yard_26 rfl 2 rfl ?_
          obtain ⟨M6, hc5, h⟩ := of_bd1 h
          refine r_callVV (st := []) dX11_yard_27 v_X11_79 (run_X11_startYard hc5) (by decide) (by decide) rfl rfl (Nat.le_of_ble_eq_true rfl) rfl ?_
          refine r_aload_n dX11_yard_30 rfl 0 rfl ?_
          refine r_getR (j := 0) (v := 1) dX11_yard_31 f_X11_10 rfl rfl rfl ?_
          refine r_callVI (st := []) dX11_yard_34 v_X11_83 (run_X10_cells rfl) (by decide) (by decide) rfl rfl (Nat.le_of_ble_eq_true rfl) rfl ?_
          cases h
          exact hQ _ _ dX11_yard_37
        · rw [if_neg c4] at h
          refine r_icmp_le (tgt := 24) dX11_yard_19 (by decide) (fun q => absurd q c4) (fun _ => ?_)
          refine r_iconst dX11_yard_22 ?_
          cases h
          exact hQ _ _ dX11_yard_23

def m_X11_changeCell (M : Mem) (a1 : Int) (a2 : Int) : Option (Bool × Mem) :=
  if 0 ≤ wr a1 ∧ wr a1 < 64 then
  bd1 (
    if wr (gI M 2 (wr a1)) = wr a2 then
      some (M)
    else
      bd1 (m_X10_change M a1 a2) fun M4 =>
      bd1 (m_X11_yardChanged M4) fun M6 =>
      some (M6)) fun (M7 : Mem) =>
  if (gI M 2 (wr a1)) = 0 ∨ (gI M 2 (wr a1)) = 1 then some ((decide ((gI M 2 (wr a1)) = 1)), M7) else none
  else none
set_option maxRecDepth 10000 in
theorem run_X11_changeCell {M : Mem} {M2 : Mem} {a1 : Int} {a2 : Int} {r : Bool}   (h : m_X11_changeCell M a1 a2 = some (r, M2)) : RunI 3 yX11_changeCell cX11_changeCell 4 (some .boolean) [vR 0, vI a1, vI a2] M (bI r) M2 := by
  refine runI_of (lv := [(0, vR 0), (1, vI a1), (2, vI a2)]) (by decide +kernel) (Or.inr ⟨rfl, bI_01 r⟩) (Nat.le_of_ble_eq_true rfl) rfl ?_
  intro G hQ
  unfold m_X11_changeCell at h
  refine r_aload_n dX11_changeCell_0 rfl 0 rfl ?_
  refine r_getR (j := 0) (v := 1) dX11_changeCell_1 f_X11_10 rfl rfl rfl ?_
  refine r_getR (j := 2) (v := 2) dX11_changeCell_4 f_X11_341 rfl rfl rfl ?_
  refine r_iload_n dX11_changeCell_7 rfl 1 rfl ?_
  obtain ⟨c1, h⟩ := of_ck h
  refine r_zald dX11_changeCell_8 rfl c1 ?_
  refine r_istore_n (lv2 := [(3, vI (gI M 2 (wr a1))), (0, vR 0), (1, vI a1), (2, vI a2)]) dX11_changeCell_9 rfl (by decide) rfl ?_
  refine r_iload_n dX11_changeCell_10 rfl 0 rfl ?_
  refine r_iload_n dX11_changeCell_11 rfl 3 rfl ?_
  obtain ⟨M7, h9, h⟩ := of_bd1 h
  have kJ : Ex G 3 cX11_changeCell RX11 4 28 [(3, vI (gI M 2 (wr a1)))] [] M7 := by
    refine r_iload_n dX11_changeCell_28 rfl 0 rfl ?_
    obtain ⟨cz, h⟩ := of_ck h
    rw [← bI_dec cz]
    cases h
    exact hQ _ _ dX11_changeCell_29
  clear h
  have h := h9
  clear h9
  by_cases c2 : wr (gI M 2 (wr a1)) = wr a2
  · rw [if_pos c2] at h
    refine r_icmp_eq (tgt := 28) dX11_changeCell_12 (by decide) (fun _ => ?_) (fun q => absurd c2 q)
    refine r_sub (lv2 := [(3, vI (gI M 2 (wr a1)))]) [0] rfl ?_
    cases h
    exact kJ
  · rw [if_neg c2] at h
    refine r_icmp_eq (tgt := 28) dX11_changeCell_12 (by decide) (fun q => absurd q c2) (fun _ => ?_)
    refine r_aload_n dX11_changeCell_15 rfl 1 rfl ?_
    refine r_getR (j := 0) (v := 1) dX11_changeCell_16 f_X11_10 rfl rfl rfl ?_
    refine r_iload_n dX11_changeCell_19 rfl 2 rfl ?_
    refine r_iload_n dX11_changeCell_20 rfl 3 rfl ?_
    obtain ⟨M4, hc3, h⟩ := of_bd1 h
    refine r_callVV (st := []) dX11_changeCell_21 v_X11_345 (run_X10_change hc3) (by decide) (by decide) rfl rfl (Nat.le_of_ble_eq_true rfl) rfl ?_
    refine r_aload_n dX11_changeCell_24 rfl 1 rfl ?_
    obtain ⟨M6, hc5, h⟩ := of_bd1 h
    refine r_callVV (st := []) dX11_changeCell_25 v_X11_338 (run_X11_yardChanged hc5) (by decide) (by decide) rfl rfl (Nat.le_of_ble_eq_true rfl) rfl ?_
    refine r_sub (lv2 := [(3, vI (gI M 2 (wr a1)))]) [0] rfl ?_
    cases h
    exact kJ

def m_X11_cell (M : Mem) (a1 : Int) (a2 : Int) : Option (Int × Mem) :=
  bd1 (m_X10_isCell M a1) fun b2 =>
  if wr (bI b2) = 0 then
    some ((-1), M)
  else
    bd2 (m_X11_changeCell M a1 a2) fun b5 M6 =>
    some ((m_X11_bit (bI b5)), M6)
set_option maxRecDepth 10000 in
theorem run_X11_cell {M : Mem} {M2 : Mem} {a1 : Int} {a2 : Int} {r : Int}   (h : m_X11_cell M a1 a2 = some (r, M2)) : RunI 4 yX11_cell cX11_cell 3 (some .int) [vR 0, vI a1, vI a2] M r M2 := by
  refine runI_of (lv := [(0, vR 0), (1, vI a1), (2, vI a2)]) (by decide +kernel) (Or.inl rfl) (Nat.le_of_ble_eq_true rfl) rfl ?_
  intro G hQ
  unfold m_X11_cell at h
  refine r_aload_n dX11_cell_0 rfl 0 rfl ?_
  refine r_getR (j := 0) (v := 1) dX11_cell_1 f_X11_10 rfl rfl rfl ?_
  refine r_iload_n dX11_cell_4 rfl 1 rfl ?_
  obtain ⟨b2, hc1, h⟩ := of_bd1 h
  refine r_callVI (st := []) dX11_cell_5 v_X11_87 (run_X10_isCell hc1) (by decide) (by decide) rfl rfl (Nat.le_of_ble_eq_true rfl) rfl ?_
  by_cases c3 : wr (bI b2) = 0
  · rw [if_pos c3] at h
    refine r_if_ne (tgt := 13) dX11_cell_8 (by decide) (fun q => absurd c3 q) (fun _ => ?_)
    refine r_iconst dX11_cell_11 ?_
    cases h
    exact hQ _ _ dX11_cell_12
  · rw [if_neg c3] at h
    refine r_if_ne (tgt := 13) dX11_cell_8 (by decide) (fun _ => ?_) (fun q => absurd q c3)
    refine r_aload_n dX11_cell_13 rfl 0 rfl ?_
    refine r_iload_n dX11_cell_14 rfl 1 rfl ?_
    refine r_iload_n dX11_cell_15 rfl 2 rfl ?_
    obtain ⟨b5, M6, hc4, h⟩ := of_bd2 h
    refine r_callVI (st := []) dX11_cell_16 v_X11_91 (run_X11_changeCell hc4) (by decide) (by decide) rfl rfl (Nat.le_of_ble_eq_true rfl) rfl ?_
    refine r_callSI (st := []) dX11_cell_19 v_X11_95 (run_X11_bit rfl) (by decide) (by decide) rfl (Nat.le_of_ble_eq_true rfl) rfl ?_
    cases h
    exact hQ _ _ dX11_cell_22

def m_X11_type (M : Mem) (a1 : Int64) (a2 : Int) : Option (Int × Mem) :=
  if wr a2 < wr 1 then
    some ((-1), M)
  else
    if wr 8 < wr a2 then
      some ((-1), M)
    else
      bd1 (m_X8_canType M a1 a2) fun b4 =>
      if wr (bI b4) = 0 then
        some ((-1), M)
      else
        if wr ((gI M 5 2) + a2) ≤ wr 90 then
          bd2 (m_X8_append M a1 a2) fun r8 M9 =>
          some (r8, M9)
        else
          some ((-3), M)
set_option maxRecDepth 10000 in
theorem run_X11_type {M : Mem} {M2 : Mem} {a1 : Int64} {a2 : Int} {r : Int}   (h : m_X11_type M a1 a2 = some (r, M2)) : RunI 2 yX11_type cX11_type 4 (some .int) [vR 0, vL a1, vI a2] M r M2 := by
  refine runI_of (lv := [(0, vR 0), (1, vL a1), (3, vI a2)]) (by decide +kernel) (Or.inl rfl) (Nat.le_of_ble_eq_true rfl) rfl ?_
  intro G hQ
  unfold m_X11_type at h
  refine r_iload_n dX11_type_0 rfl 2 rfl ?_
  refine r_iconst dX11_type_1 ?_
  by_cases c1 : wr a2 < wr 1
  · rw [if_pos c1] at h
    refine r_icmp_lt (tgt := 23) dX11_type_2 (by decide) (fun _ => ?_) (fun q => absurd c1 q)
    refine r_iconst dX11_type_23 ?_
    cases h
    exact hQ _ _ dX11_type_24
  · rw [if_neg c1] at h
    refine r_icmp_lt (tgt := 23) dX11_type_2 (by decide) (fun q => absurd q c1) (fun _ => ?_)
    refine r_iload_n dX11_type_5 rfl 2 rfl ?_
    refine r_bipush dX11_type_6 (by decide) ?_
    by_cases c2 : wr 8 < wr a2
    · rw [if_pos c2] at h
      refine r_icmp_gt (tgt := 23) dX11_type_8 (by decide) (fun _ => ?_) (fun q => absurd c2 q)
      refine r_iconst dX11_type_23 ?_
      cases h
      exact hQ _ _ dX11_type_24
    · rw [if_neg c2] at h
      refine r_icmp_gt (tgt := 23) dX11_type_8 (by decide) (fun q => absurd q c2) (fun _ => ?_)
      refine r_aload_n dX11_type_11 rfl 0 rfl ?_
      refine r_getR (j := 1) (v := 5) dX11_type_12 f_X11_19 rfl rfl rfl ?_
      refine r_lload_n dX11_type_15 rfl 1 rfl ?_
      refine r_iload_n dX11_type_16 rfl 2 rfl ?_
      obtain ⟨b4, hc3, h⟩ := of_bd1 h
      refine r_callVI (st := []) dX11_type_17 v_X11_99 (run_X8_canType hc3) (by decide) (by decide) rfl rfl (Nat.le_of_ble_eq_true rfl) rfl ?_
      by_cases c5 : wr (bI b4) = 0
      · rw [if_pos c5] at h
        refine r_if_ne (tgt := 25) dX11_type_20 (by decide) (fun q => absurd c5 q) (fun _ => ?_)
        refine r_iconst dX11_type_23 ?_
        cases h
        exact hQ _ _ dX11_type_24
      · rw [if_neg c5] at h
        refine r_if_ne (tgt := 25) dX11_type_20 (by decide) (fun _ => ?_) (fun q => absurd q c5)
        refine r_aload_n dX11_type_25 rfl 0 rfl ?_
        refine r_getR (j := 1) (v := 5) dX11_type_26 f_X11_19 rfl rfl rfl ?_
        refine r_getI (j := 2) (jz := 2) dX11_type_29 f_X11_103 rfl rfl rfl ?_
        refine r_iload_n dX11_type_32 rfl 2 rfl ?_
        refine r_iadd dX11_type_33 ?_
        refine r_bipush dX11_type_34 (by decide) ?_
        by_cases c6 : wr ((gI M 5 2) + a2) ≤ wr 90
        · rw [if_pos c6] at h
          refine r_icmp_le (tgt := 42) dX11_type_36 (by decide) (fun _ => ?_) (fun q => absurd c6 q)
          refine r_aload_n dX11_type_42 rfl 0 rfl ?_
          refine r_getR (j := 1) (v := 5) dX11_type_43 f_X11_19 rfl rfl rfl ?_
          refine r_lload_n dX11_type_46 rfl 1 rfl ?_
          refine r_iload_n dX11_type_47 rfl 2 rfl ?_
          obtain ⟨r8, M9, hc7, h⟩ := of_bd2 h
          refine r_callVI (st := []) dX11_type_48 v_X11_107 (run_X8_append hc7) (by decide) (by decide) rfl rfl (Nat.le_of_ble_eq_true rfl) rfl ?_
          cases h
          exact hQ _ _ dX11_type_51
        · rw [if_neg c6] at h
          refine r_icmp_le (tgt := 42) dX11_type_36 (by decide) (fun q => absurd q c6) (fun _ => ?_)
          refine r_bipush dX11_type_39 (by decide) ?_
          cases h
          exact hQ _ _ dX11_type_41

def m_X11_read_L42 (M : Mem)  (x2 : Int) : Option ((Int × Mem) ⊕ (Int × Mem)) :=
  if wr (m_X10_cells M) ≤ wr x2 then
    some (.inr (x2, M))
  else
    bd1 (m_X10_column M x2) fun r10 =>
    bd1 (m_X10_row M x2) fun r12 =>
    bd1 (m_X8_isOpenAt M r10 r12) fun b14 =>
    bd2 (m_X11_changeCell M x2 (bI b14)) fun b16 M17 =>
    some (.inl ((x2 + 1), M17))
def m_X11_read (M : Mem) : Option (Int × Mem) :=
  bd2 (m_X8_parse M) fun r2 M3 =>
  lt (sI M3 5 2 0) fun M4 =>
  if 0 ≤ wr r2 then
    bd1 (m_X11_startYard M4 (gI M4 5 3) (gI M4 5 4)) fun M7 =>
    bd2 (itr (fun s => m_X11_read_L42 s.2  s.1) FU (0, M7)) fun y18 M19 =>
    bd1 (m_X10_openCells M19) fun r21 =>
    some (r21, M19)
  else
    some (r2, M4)
set_option maxRecDepth 10000 in
theorem lp_X11_read_L42 {G : Gx}    (X : (Int × Mem) → Prop) (hX1 : ∀ (x2 : Int) (M : Mem), X (x2, M) → Ex G 4 cX11_read RX11 3 88 [(0, vR 0), (2, vI x2)] [] M) : ∀ (nn : Nat) (x2 : Int) (M : Mem) (out : Int × Mem), itr (fun s => m_X11_read_L42 s.2  s.1) nn (x2, M) = some out → X out → Ex G 4 cX11_read RX11 3 42 [(0, vR 0), (2, vI x2)] [] M := by
  intro nn
  induction nn with
  | zero =>
    intro x2 M out h _
    cases h
  | succ nn ih =>
    intro x2 M out h0 hX
    obtain ⟨w, h, k1, k2⟩ := itr_inv h0
    have h : m_X11_read_L42 M  x2 = some w := h
    unfold m_X11_read_L42 at h
    refine r_iload_n dX11_read_42 rfl 1 rfl ?_
    refine r_aload_n dX11_read_43 rfl 0 rfl ?_
    refine r_getR (j := 0) (v := 1) dX11_read_44 f_X11_10 rfl rfl rfl ?_
    refine r_callVI (st := [vI x2]) dX11_read_47 v_X11_83 (run_X10_cells rfl) (by decide) (by decide) rfl rfl (Nat.le_of_ble_eq_true rfl) rfl ?_
    by_cases c8 : wr (m_X10_cells M) ≤ wr x2
    · rw [if_pos c8] at h
      refine r_icmp_ge (tgt := 88) dX11_read_50 (by decide) (fun _ => ?_) (fun q => absurd c8 q)
      cases h
      cases k2 _ rfl
      exact hX1 _ _ hX
    · rw [if_neg c8] at h
      refine r_icmp_ge (tgt := 88) dX11_read_50 (by decide) (fun q => absurd q c8) (fun _ => ?_)
      refine r_aload_n dX11_read_53 rfl 0 rfl ?_
      refine r_iload_n dX11_read_54 rfl 1 rfl ?_
      refine r_aload_n dX11_read_55 rfl 0 rfl ?_
      refine r_getR (j := 1) (v := 5) dX11_read_56 f_X11_19 rfl rfl rfl ?_
      refine r_aload_n dX11_read_59 rfl 0 rfl ?_
      refine r_getR (j := 0) (v := 1) dX11_read_60 f_X11_10 rfl rfl rfl ?_
      refine r_iload_n dX11_read_63 rfl 1 rfl ?_
      obtain ⟨r10, hc9, h⟩ := of_bd1 h
      refine r_callVI (st := [vR 5, vI x2, vR 0]) dX11_read_64 v_X11_120 (run_X10_column hc9) (by decide) (by decide) rfl rfl (Nat.le_of_ble_eq_true rfl) rfl ?_
      refine r_aload_n dX11_read_67 rfl 0 rfl ?_
      refine r_getR (j := 0) (v := 1) dX11_read_68 f_X11_10 rfl rfl rfl ?_
      refine r_iload_n dX11_read_71 rfl 1 rfl ?_
      obtain ⟨r12, hc11, h⟩ := of_bd1 h
      refine r_callVI (st := [vI r10, vR 5, vI x2, vR 0]) dX11_read_72 v_X11_124 (run_X10_row hc11) (by decide) (by decide) rfl rfl (Nat.le_of_ble_eq_true rfl) rfl ?_
      obtain ⟨b14, hc13, h⟩ := of_bd1 h
      refine r_callVI (st := [vI x2, vR 0]) dX11_read_75 v_X11_127 (run_X8_isOpenAt hc13) (by decide) (by decide) rfl rfl (Nat.le_of_ble_eq_true rfl) rfl ?_
      obtain ⟨b16, M17, hc15, h⟩ := of_bd2 h
      refine r_callVI (st := []) dX11_read_78 v_X11_91 (run_X11_changeCell hc15) (by decide) (by decide) rfl rfl (Nat.le_of_ble_eq_true rfl) rfl ?_
      refine r_pop dX11_read_81 rfl ?_
      refine r_iinc (lv2 := [(2, vI (x2 + 1)), (0, vR 0)]) dX11_read_82 1 rfl (by decide) rfl ?_
      refine r_goto (tgt := 42) dX11_read_85 (by decide) ?_
      refine r_sub (lv2 := [(0, vR 0), (2, vI (x2 + 1))]) [1, 0] rfl ?_
      cases h
      exact ih _ _  _ (k1 _ rfl) hX

set_option maxRecDepth 10000 in
theorem run_X11_read {M : Mem} {M2 : Mem} {r : Int}   (h : m_X11_read M = some (r, M2)) : RunI 4 yX11_read cX11_read 3 (some .int) [vR 0] M r M2 := by
  refine runI_of (lv := [(0, vR 0)]) (by decide +kernel) (Or.inl rfl) (Nat.le_of_ble_eq_true rfl) rfl ?_
  intro G hQ
  unfold m_X11_read at h
  refine r_aload_n dX11_read_0 rfl 0 rfl ?_
  refine r_getR (j := 1) (v := 5) dX11_read_1 f_X11_19 rfl rfl rfl ?_
  obtain ⟨r2, M3, hc1, h⟩ := of_bd2 h
  refine r_callVI (st := []) dX11_read_4 v_X11_111 (run_X8_parse hc1) (by decide) (by decide) rfl rfl (Nat.le_of_ble_eq_true rfl) rfl ?_
  refine r_istore_n (lv2 := [(1, vI r2), (0, vR 0)]) dX11_read_7 rfl (by decide) rfl ?_
  refine r_aload_n dX11_read_8 rfl 1 rfl ?_
  refine r_getR (j := 1) (v := 5) dX11_read_9 f_X11_19 rfl rfl rfl ?_
  refine r_iconst dX11_read_12 ?_
  obtain ⟨M4, eM4, h⟩ := of_lt h
  refine r_putI (j := 2) (jz := 2) dX11_read_13 p_X11_103 rfl rfl rfl rfl rfl ?_
  rw [← eM4]
  refine r_iload_n dX11_read_16 rfl 0 rfl ?_
  by_cases c5 : 0 ≤ wr r2
  · rw [if_pos c5] at h
    refine r_if_ge (tgt := 22) dX11_read_17 (by decide) (fun _ => ?_) (fun q => absurd c5 q)
    refine r_aload_n dX11_read_22 rfl 1 rfl ?_
    refine r_aload_n dX11_read_23 rfl 1 rfl ?_
    refine r_getR (j := 1) (v := 5) dX11_read_24 f_X11_19 rfl rfl rfl ?_
    refine r_getI (j := 3) (jz := 3) dX11_read_27 f_X11_114 rfl rfl rfl ?_
    refine r_aload_n dX11_read_30 rfl 1 rfl ?_
    refine r_getR (j := 1) (v := 5) dX11_read_31 f_X11_19 rfl rfl rfl ?_
    refine r_getI (j := 4) (jz := 4) dX11_read_34 f_X11_117 rfl rfl rfl ?_
    obtain ⟨M7, hc6, h⟩ := of_bd1 h
    refine r_callVV (st := []) dX11_read_37 v_X11_79 (run_X11_startYard hc6) (by decide) (by decide) rfl rfl (Nat.le_of_ble_eq_true rfl) rfl ?_
    refine r_iconst dX11_read_40 ?_
    refine r_istore_n (lv2 := [(2, vI 0), (1, vI r2), (0, vR 0)]) dX11_read_41 rfl (by decide) rfl ?_
    obtain ⟨y18, M19, h9, h⟩ := of_bd2 h
    refine r_sub (lv2 := [(0, vR 0), (2, vI 0)]) [2, 0] rfl ?_
    refine lp_X11_read_L42   (fun w => w = (y18, M19)) ?_ FU 0 M7 _ h9 rfl
    intro z0 z1 hw
    cases hw
    refine r_aload_n dX11_read_88 rfl 0 rfl ?_
    refine r_getR (j := 0) (v := 1) dX11_read_89 f_X11_10 rfl rfl rfl ?_
    obtain ⟨r21, hc20, h⟩ := of_bd1 h
    refine r_callVI (st := []) dX11_read_92 v_X11_131 (run_X10_openCells hc20) (by decide) (by decide) rfl rfl (Nat.le_of_ble_eq_true rfl) rfl ?_
    cases h
    exact hQ _ _ dX11_read_95
  · rw [if_neg c5] at h
    refine r_if_ge (tgt := 22) dX11_read_17 (by decide) (fun q => absurd q c5) (fun _ => ?_)
    refine r_iload_n dX11_read_20 rfl 0 rfl ?_
    cases h
    exact hQ _ _ dX11_read_21

def m_X11_isSheet (a0 : Int) : Option (Bool) :=
  lt (if wr a0 < 0 then 0 else (if wr 4 ≤ wr a0 then 0 else 1)) fun (v3 : Int) =>
  if v3 = 0 ∨ v3 = 1 then some (decide (v3 = 1)) else none
set_option maxRecDepth 10000 in
theorem run_X11_isSheet {M : Mem} {a0 : Int} {r : Bool}   (h : m_X11_isSheet a0 = some r) : RunI 0 yX11_isSheet cX11_isSheet 1 (some .boolean) [vI a0] M (bI r) M := by
  refine runI_of (lv := [(0, vI a0)]) (by decide +kernel) (Or.inr ⟨rfl, bI_01 r⟩) (Nat.le_of_ble_eq_true rfl) rfl ?_
  intro G hQ
  unfold m_X11_isSheet at h
  refine r_iload_n dX11_isSheet_0 rfl 0 rfl ?_
  obtain ⟨v3, ev3, h⟩ := of_lt h
  have kJ : Ex G 0 cX11_isSheet RX11 1 14 [] [vI v3] M := by
    obtain ⟨cz, h⟩ := of_ck h
    rw [← bI_dec cz]
    cases h
    exact hQ _ _ dX11_isSheet_14
  clear h
  by_cases c1 : wr a0 < 0
  · skip
    refine r_if_lt (tgt := 13) dX11_isSheet_1 (by decide) (fun _ => ?_) (fun q => absurd c1 q)
    refine r_iconst dX11_isSheet_13 ?_
    rw [show v3 = 0 from by rw [ev3, if_pos c1]] at kJ
    refine r_sub (lv2 := []) [] rfl ?_
    exact kJ
  · skip
    refine r_if_lt (tgt := 13) dX11_isSheet_1 (by decide) (fun q => absurd q c1) (fun _ => ?_)
    refine r_iload_n dX11_isSheet_4 rfl 0 rfl ?_
    refine r_iconst dX11_isSheet_5 ?_
    by_cases c2 : wr 4 ≤ wr a0
    · skip
      refine r_icmp_ge (tgt := 13) dX11_isSheet_6 (by decide) (fun _ => ?_) (fun q => absurd c2 q)
      refine r_iconst dX11_isSheet_13 ?_
      rw [show v3 = 0 from by rw [ev3, if_neg c1, if_pos c2]] at kJ
      refine r_sub (lv2 := []) [] rfl ?_
      exact kJ
    · skip
      refine r_icmp_ge (tgt := 13) dX11_isSheet_6 (by decide) (fun q => absurd q c2) (fun _ => ?_)
      refine r_iconst dX11_isSheet_9 ?_
      refine r_goto (tgt := 14) dX11_isSheet_10 (by decide) ?_
      rw [show v3 = 1 from by rw [ev3, if_neg c1, if_neg c2]] at kJ
      refine r_sub (lv2 := []) [] rfl ?_
      exact kJ

def m_X11_sheetFault (M : Mem) (a1 : Int) (a2 : Int) : Option (Int) :=
  if 0 ≤ wr a1 ∧ wr a1 < 4 then
  if wr (gI M (47 + 2 * (wr a1).toNat) 0) = 0 then
    some (-11)
  else
    lt (if wr (gI M (47 + 2 * (wr a1).toNat) 1) = wr a2 then 0 else (-12)) fun (v4 : Int) =>
    some v4
  else none
set_option maxRecDepth 10000 in
theorem run_X11_sheetFault {M : Mem} {a1 : Int} {a2 : Int} {r : Int}   (h : m_X11_sheetFault M a1 a2 = some r) : RunI 0 yX11_sheetFault cX11_sheetFault 3 (some .int) [vR 0, vI a1, vI a2] M r M := by
  refine runI_of (lv := [(0, vR 0), (1, vI a1), (2, vI a2)]) (by decide +kernel) (Or.inl rfl) (Nat.le_of_ble_eq_true rfl) rfl ?_
  intro G hQ
  unfold m_X11_sheetFault at h
  refine r_aload_n dX11_sheetFault_0 rfl 0 rfl ?_
  refine r_getR (j := 9) (v := 38) dX11_sheetFault_1 f_X11_73 rfl rfl rfl ?_
  refine r_iload_n dX11_sheetFault_4 rfl 1 rfl ?_
  obtain ⟨c1, h⟩ := of_ck h
  refine r_aald4 dX11_sheetFault_5 rfl c1 (she_el c1).1 ?_
  refine r_getI (j := 0) (jz := 0) dX11_sheetFault_6 f_X11_321 (she_el (M := M) c1).2 rfl rfl ?_
  by_cases c2 : wr (gI M (47 + 2 * (wr a1).toNat) 0) = 0
  · rw [if_pos c2] at h
    refine r_if_ne (tgt := 15) dX11_sheetFault_9 (by decide) (fun q => absurd c2 q) (fun _ => ?_)
    refine r_bipush dX11_sheetFault_12 (by decide) ?_
    cases h
    exact hQ _ _ dX11_sheetFault_14
  · rw [if_neg c2] at h
    refine r_if_ne (tgt := 15) dX11_sheetFault_9 (by decide) (fun _ => ?_) (fun q => absurd q c2)
    refine r_aload_n dX11_sheetFault_15 rfl 0 rfl ?_
    refine r_getR (j := 9) (v := 38) dX11_sheetFault_16 f_X11_73 rfl rfl rfl ?_
    refine r_iload_n dX11_sheetFault_19 rfl 1 rfl ?_
    refine r_aald4 dX11_sheetFault_20 rfl c1 (she_el c1).1 ?_
    refine r_getI (j := 1) (jz := 1) dX11_sheetFault_21 f_X11_325 (she_el (M := M) c1).2 rfl rfl ?_
    refine r_iload_n dX11_sheetFault_24 rfl 2 rfl ?_
    obtain ⟨v4, ev4, h⟩ := of_lt h
    have kJ : Ex G 0 cX11_sheetFault RX11 3 34 [] [vI v4] M := by
      cases h
      exact hQ _ _ dX11_sheetFault_34
    clear h
    by_cases c3 : wr (gI M (47 + 2 * (wr a1).toNat) 1) = wr a2
    · skip
      refine r_icmp_ne (tgt := 32) dX11_sheetFault_25 (by decide) (fun q => absurd c3 q) (fun _ => ?_)
      refine r_iconst dX11_sheetFault_28 ?_
      refine r_goto (tgt := 34) dX11_sheetFault_29 (by decide) ?_
      rw [show v4 = 0 from by rw [ev4, if_pos c3]] at kJ
      refine r_sub (lv2 := []) [] rfl ?_
      exact kJ
    · skip
      refine r_icmp_ne (tgt := 32) dX11_sheetFault_25 (by decide) (fun _ => ?_) (fun q => absurd q c3)
      refine r_bipush dX11_sheetFault_32 (by decide) ?_
      rw [show v4 = (-12) from by rw [ev4, if_neg c3]] at kJ
      refine r_sub (lv2 := []) [] rfl ?_
      exact kJ

def m_X11_lay_L92 (M : Mem) (p1 : Int) (p3 : Int) (p5 : Nat) (p6 : Int) (x7 : Int) : Option ((Int × Mem) ⊕ (Int × Mem)) :=
  if wr p6 ≤ wr x7 then
    some (.inr (x7, M))
  else
    if 0 ≤ wr (p3 + x7) ∧ wr (p3 + x7) < 64 then
    lt (if wr (gI M (p5 + 1) (wr (p3 + x7))) = 0 then 0 else 1) fun (v16 : Int) =>
    bd2 (m_X11_changeCell M (p1 + x7) v16) fun b18 M19 =>
    some (.inl ((x7 + 1), M19))
    else none
def m_X11_lay (M : Mem) (a1 : Int) (a2 : Int) (a3 : Int) : Option (Int × Mem) :=
  if wr a1 < 0 then
    some ((-1), M)
  else
    if wr (m_X10_cells M) < wr a1 then
      some ((-1), M)
    else
      bd1 (m_X11_isSheet a2) fun b4 =>
      if wr (bI b4) = 0 then
        some ((-1), M)
      else
        bd1 (m_X11_sheetFault M a2 0) fun r7 =>
        if 0 ≤ wr r7 then
          if 0 ≤ wr a2 ∧ wr a2 < 4 then
          if wr a3 < 0 then
            some ((-13), M)
          else
            if wr a3 ≤ wr (gI M (47 + 2 * (wr a2).toNat) 2) then
              if wr ((gI M (47 + 2 * (wr a2).toNat) 2) - a3) ≤ wr ((m_X10_cells M) - a1) then
                bd2 (itr (fun s => m_X11_lay_L92 s.2 a1 a3 (47 + 2 * (wr a2).toNat) ((gI M (47 + 2 * (wr a2).toNat) 2) - a3) s.1) FU (0, M)) fun y20 M21 =>
                some (((gI M (47 + 2 * (wr a2).toNat) 2) - a3), M21)
              else
                some ((-1), M)
            else
              some ((-13), M)
          else none
        else
          some (r7, M)
set_option maxRecDepth 10000 in
theorem lp_X11_lay_L92 {G : Gx} (p1 : Int) (p3 : Int) (p5 : Nat) (p6 : Int)  (hp5 : (ly p5).1 = 11) (X : (Int × Mem) → Prop) (hX1 : ∀ (x7 : Int) (M : Mem), X (x7, M) → Ex G 4 cX11_lay RX11 8 132 [(0, vR 0), (1, vI p1), (3, vI p3), (5, vR p5), (6, vI p6), (7, vI x7)] [] M) : ∀ (nn : Nat) (x7 : Int) (M : Mem) (out : Int × Mem), itr (fun s => m_X11_lay_L92 s.2 p1 p3 p5 p6 s.1) nn (x7, M) = some out → X out → Ex G 4 cX11_lay RX11 8 92 [(0, vR 0), (1, vI p1), (3, vI p3), (5, vR p5), (6, vI p6), (7, vI x7)] [] M := by
  intro nn
  induction nn with
  | zero =>
    intro x7 M out h _
    cases h
  | succ nn ih =>
    intro x7 M out h0 hX
    obtain ⟨w, h, k1, k2⟩ := itr_inv h0
    have h : m_X11_lay_L92 M p1 p3 p5 p6 x7 = some w := h
    unfold m_X11_lay_L92 at h
    refine r_iload dX11_lay_92 5 rfl ?_
    refine r_iload dX11_lay_94 4 rfl ?_
    by_cases c13 : wr p6 ≤ wr x7
    · rw [if_pos c13] at h
      refine r_icmp_ge (tgt := 132) dX11_lay_96 (by decide) (fun _ => ?_) (fun q => absurd c13 q)
      cases h
      cases k2 _ rfl
      exact hX1 _ _ hX
    · rw [if_neg c13] at h
      refine r_icmp_ge (tgt := 132) dX11_lay_96 (by decide) (fun q => absurd q c13) (fun _ => ?_)
      refine r_aload_n dX11_lay_99 rfl 0 rfl ?_
      refine r_iload_n dX11_lay_100 rfl 1 rfl ?_
      refine r_iload dX11_lay_101 5 rfl ?_
      refine r_iadd dX11_lay_103 ?_
      refine r_aload dX11_lay_104 3 rfl ?_
      refine r_getR (j := 3) (v := (p5 + 1)) dX11_lay_106 f_X11_142 hp5 rfl (she_it hp5).1 ?_
      refine r_iload_n dX11_lay_109 rfl 2 rfl ?_
      refine r_iload dX11_lay_110 5 rfl ?_
      refine r_iadd dX11_lay_112 ?_
      obtain ⟨c14, h⟩ := of_ck h
      refine r_iald dX11_lay_113 (she_it (M := M) hp5).2 c14 ?_
      obtain ⟨v16, ev16, h⟩ := of_lt h
      have kJ : Ex G 4 cX11_lay RX11 8 122 [(0, vR 0), (1, vI p1), (3, vI p3), (5, vR p5), (6, vI p6), (7, vI x7)] [vI v16, vI (p1 + x7), vR 0] M := by
        obtain ⟨b18, M19, hc17, h⟩ := of_bd2 h
        refine r_callVI (st := []) dX11_lay_122 v_X11_91 (run_X11_changeCell hc17) (by decide) (by decide) rfl rfl (Nat.le_of_ble_eq_true rfl) rfl ?_
        refine r_pop dX11_lay_125 rfl ?_
        refine r_iinc (lv2 := [(7, vI (x7 + 1)), (0, vR 0), (1, vI p1), (3, vI p3), (5, vR p5), (6, vI p6)]) dX11_lay_126 5 rfl (by decide) rfl ?_
        refine r_goto (tgt := 92) dX11_lay_129 (by decide) ?_
        refine r_sub (lv2 := [(0, vR 0), (1, vI p1), (3, vI p3), (5, vR p5), (6, vI p6), (7, vI (x7 + 1))]) [1, 2, 3, 4, 5, 0] rfl ?_
        cases h
        exact ih _ _  _ (k1 _ rfl) hX
      clear h
      by_cases c15 : wr (gI M (p5 + 1) (wr (p3 + x7))) = 0
      · skip
        refine r_if_eq (tgt := 121) dX11_lay_114 (by decide) (fun _ => ?_) (fun q => absurd c15 q)
        refine r_iconst dX11_lay_121 ?_
        rw [show v16 = 0 from by rw [ev16, if_pos c15]] at kJ
        exact kJ
      · skip
        refine r_if_eq (tgt := 121) dX11_lay_114 (by decide) (fun q => absurd q c15) (fun _ => ?_)
        refine r_iconst dX11_lay_117 ?_
        refine r_goto (tgt := 122) dX11_lay_118 (by decide) ?_
        rw [show v16 = 1 from by rw [ev16, if_neg c15]] at kJ
        exact kJ

set_option maxRecDepth 10000 in
theorem run_X11_lay {M : Mem} {M2 : Mem} {a1 : Int} {a2 : Int} {a3 : Int} {r : Int}   (h : m_X11_lay M a1 a2 a3 = some (r, M2)) : RunI 4 yX11_lay cX11_lay 8 (some .int) [vR 0, vI a1, vI a2, vI a3] M r M2 := by
  refine runI_of (lv := [(0, vR 0), (1, vI a1), (2, vI a2), (3, vI a3)]) (by decide +kernel) (Or.inl rfl) (Nat.le_of_ble_eq_true rfl) rfl ?_
  intro G hQ
  unfold m_X11_lay at h
  refine r_iload_n dX11_lay_0 rfl 1 rfl ?_
  by_cases c1 : wr a1 < 0
  · rw [if_pos c1] at h
    refine r_if_lt (tgt := 22) dX11_lay_1 (by decide) (fun _ => ?_) (fun q => absurd c1 q)
    refine r_iconst dX11_lay_22 ?_
    cases h
    exact hQ _ _ dX11_lay_23
  · rw [if_neg c1] at h
    refine r_if_lt (tgt := 22) dX11_lay_1 (by decide) (fun q => absurd q c1) (fun _ => ?_)
    refine r_iload_n dX11_lay_4 rfl 1 rfl ?_
    refine r_aload_n dX11_lay_5 rfl 0 rfl ?_
    refine r_getR (j := 0) (v := 1) dX11_lay_6 f_X11_10 rfl rfl rfl ?_
    refine r_callVI (st := [vI a1]) dX11_lay_9 v_X11_83 (run_X10_cells rfl) (by decide) (by decide) rfl rfl (Nat.le_of_ble_eq_true rfl) rfl ?_
    by_cases c2 : wr (m_X10_cells M) < wr a1
    · rw [if_pos c2] at h
      refine r_icmp_gt (tgt := 22) dX11_lay_12 (by decide) (fun _ => ?_) (fun q => absurd c2 q)
      refine r_iconst dX11_lay_22 ?_
      cases h
      exact hQ _ _ dX11_lay_23
    · rw [if_neg c2] at h
      refine r_icmp_gt (tgt := 22) dX11_lay_12 (by decide) (fun q => absurd q c2) (fun _ => ?_)
      refine r_iload_n dX11_lay_15 rfl 2 rfl ?_
      obtain ⟨b4, hc3, h⟩ := of_bd1 h
      refine r_callSI (st := []) dX11_lay_16 v_X11_134 (run_X11_isSheet hc3) (by decide) (by decide) rfl (Nat.le_of_ble_eq_true rfl) rfl ?_
      by_cases c5 : wr (bI b4) = 0
      · rw [if_pos c5] at h
        refine r_if_ne (tgt := 24) dX11_lay_19 (by decide) (fun q => absurd c5 q) (fun _ => ?_)
        refine r_iconst dX11_lay_22 ?_
        cases h
        exact hQ _ _ dX11_lay_23
      · rw [if_neg c5] at h
        refine r_if_ne (tgt := 24) dX11_lay_19 (by decide) (fun _ => ?_) (fun q => absurd q c5)
        refine r_aload_n dX11_lay_24 rfl 0 rfl ?_
        refine r_iload_n dX11_lay_25 rfl 2 rfl ?_
        refine r_iconst dX11_lay_26 ?_
        obtain ⟨r7, hc6, h⟩ := of_bd1 h
        refine r_callVI (st := []) dX11_lay_27 v_X11_137 (run_X11_sheetFault hc6) (by decide) (by decide) rfl rfl (Nat.le_of_ble_eq_true rfl) rfl ?_
        refine r_istore (lv2 := [(4, vI r7), (0, vR 0), (1, vI a1), (2, vI a2), (3, vI a3)]) dX11_lay_30 (by decide) rfl ?_
        refine r_iload dX11_lay_32 0 rfl ?_
        by_cases c8 : 0 ≤ wr r7
        · rw [if_pos c8] at h
          refine r_if_ge (tgt := 40) dX11_lay_34 (by decide) (fun _ => ?_) (fun q => absurd c8 q)
          refine r_aload_n dX11_lay_40 rfl 1 rfl ?_
          refine r_getR (j := 9) (v := 38) dX11_lay_41 f_X11_73 rfl rfl rfl ?_
          refine r_iload_n dX11_lay_44 rfl 3 rfl ?_
          obtain ⟨c9, h⟩ := of_ck h
          refine r_aald4 dX11_lay_45 rfl c9 (she_el c9).1 ?_
          refine r_astore (lv2 := [(5, vR (47 + 2 * (wr a2).toNat)), (4, vI r7), (0, vR 0), (1, vI a1), (2, vI a2), (3, vI a3)]) dX11_lay_46 (by decide) rfl ?_
          refine r_iload_n dX11_lay_48 rfl 5 rfl ?_
          by_cases c10 : wr a3 < 0
          · rw [if_pos c10] at h
            refine r_if_lt (tgt := 61) dX11_lay_49 (by decide) (fun _ => ?_) (fun q => absurd c10 q)
            refine r_bipush dX11_lay_61 (by decide) ?_
            cases h
            exact hQ _ _ dX11_lay_63
          · rw [if_neg c10] at h
            refine r_if_lt (tgt := 61) dX11_lay_49 (by decide) (fun q => absurd q c10) (fun _ => ?_)
            refine r_iload_n dX11_lay_52 rfl 5 rfl ?_
            refine r_aload dX11_lay_53 0 rfl ?_
            refine r_getI (j := 2) (jz := 2) dX11_lay_55 f_X11_141 (she_el (M := M) c9).2 rfl rfl ?_
            by_cases c11 : wr a3 ≤ wr (gI M (47 + 2 * (wr a2).toNat) 2)
            · rw [if_pos c11] at h
              refine r_icmp_le (tgt := 64) dX11_lay_58 (by decide) (fun _ => ?_) (fun q => absurd c11 q)
              refine r_aload dX11_lay_64 0 rfl ?_
              refine r_getI (j := 2) (jz := 2) dX11_lay_66 f_X11_141 (she_el (M := M) c9).2 rfl rfl ?_
              refine r_iload_n dX11_lay_69 rfl 5 rfl ?_
              refine r_isub dX11_lay_70 ?_
              refine r_istore (lv2 := [(6, vI ((gI M (47 + 2 * (wr a2).toNat) 2) - a3)), (5, vR (47 + 2 * (wr a2).toNat)), (4, vI r7), (0, vR 0), (1, vI a1), (2, vI a2), (3, vI a3)]) dX11_lay_71 (by decide) rfl ?_
              refine r_iload dX11_lay_73 0 rfl ?_
              refine r_aload_n dX11_lay_75 rfl 3 rfl ?_
              refine r_getR (j := 0) (v := 1) dX11_lay_76 f_X11_10 rfl rfl rfl ?_
              refine r_callVI (st := [vI ((gI M (47 + 2 * (wr a2).toNat) 2) - a3)]) dX11_lay_79 v_X11_83 (run_X10_cells rfl) (by decide) (by decide) rfl rfl (Nat.le_of_ble_eq_true rfl) rfl ?_
              refine r_iload_n dX11_lay_82 rfl 4 rfl ?_
              refine r_isub dX11_lay_83 ?_
              by_cases c12 : wr ((gI M (47 + 2 * (wr a2).toNat) 2) - a3) ≤ wr ((m_X10_cells M) - a1)
              · rw [if_pos c12] at h
                refine r_icmp_le (tgt := 89) dX11_lay_84 (by decide) (fun _ => ?_) (fun q => absurd c12 q)
                refine r_iconst dX11_lay_89 ?_
                refine r_istore (lv2 := [(7, vI 0), (6, vI ((gI M (47 + 2 * (wr a2).toNat) 2) - a3)), (5, vR (47 + 2 * (wr a2).toNat)), (4, vI r7), (0, vR 0), (1, vI a1), (2, vI a2), (3, vI a3)]) dX11_lay_90 (by decide) rfl ?_
                obtain ⟨y20, M21, h9, h⟩ := of_bd2 h
                refine r_sub (lv2 := [(0, vR 0), (1, vI a1), (3, vI a3), (5, vR (47 + 2 * (wr a2).toNat)), (6, vI ((gI M (47 + 2 * (wr a2).toNat) 2) - a3)), (7, vI 0)]) [4, 5, 7, 2, 1, 0] rfl ?_
                refine lp_X11_lay_L92 a1 a3 (47 + 2 * (wr a2).toNat) ((gI M (47 + 2 * (wr a2).toNat) 2) - a3) (she_el (M := M) c9).2 (fun w => w = (y20, M21)) ?_ FU 0 M _ h9 rfl
                intro z0 z1 hw
                cases hw
                refine r_iload dX11_lay_132 4 rfl ?_
                cases h
                exact hQ _ _ dX11_lay_134
              · rw [if_neg c12] at h
                refine r_icmp_le (tgt := 89) dX11_lay_84 (by decide) (fun q => absurd q c12) (fun _ => ?_)
                refine r_iconst dX11_lay_87 ?_
                cases h
                exact hQ _ _ dX11_lay_88
            · rw [if_neg c11] at h
              refine r_icmp_le (tgt := 64) dX11_lay_58 (by decide) (fun q => absurd q c11) (fun _ => ?_)
              refine r_bipush dX11_lay_61 (by decide) ?_
              cases h
              exact hQ _ _ dX11_lay_63
        · rw [if_neg c8] at h
          refine r_if_ge (tgt := 40) dX11_lay_34 (by decide) (fun q => absurd q c8) (fun _ => ?_)
          refine r_iload dX11_lay_37 0 rfl ?_
          cases h
          exact hQ _ _ dX11_lay_39

def m_X11_heldSlots_L4 (M : Mem)  (x1 : Int) (x2 : Int) : Option ((Int × Int) ⊕ (Int × Int)) :=
  if wr 4 ≤ wr x2 then
    some (.inr (x1, x2))
  else
    if 0 ≤ wr x2 ∧ wr x2 < 4 then
    some (.inl ((x1 + (m_X11_bit (gI M (39 + 2 * (wr x2).toNat) 0))), (x2 + 1)))
    else none
def m_X11_heldSlots (M : Mem) : Option (Int) :=
  bd2 (itr (fun s => m_X11_heldSlots_L4 M  s.1 s.2) FU (0, 0)) fun y3 y4 =>
  some y3
set_option maxRecDepth 10000 in
theorem lp_X11_heldSlots_L4 {G : Gx} (M : Mem)    (X : (Int × Int) → Prop) (hX1 : ∀ (x1 : Int) (x2 : Int), X (x1, x2) → Ex G 1 cX11_heldSlots RX11 3 30 [(0, vR 0), (1, vI x1), (2, vI x2)] [] M) : ∀ (nn : Nat) (x1 : Int) (x2 : Int) (out : Int × Int), itr (fun s => m_X11_heldSlots_L4 M  s.1 s.2) nn (x1, x2) = some out → X out → Ex G 1 cX11_heldSlots RX11 3 4 [(0, vR 0), (1, vI x1), (2, vI x2)] [] M := by
  intro nn
  induction nn with
  | zero =>
    intro x1 x2 out h _
    cases h
  | succ nn ih =>
    intro x1 x2 out h0 hX
    obtain ⟨w, h, k1, k2⟩ := itr_inv h0
    have h : m_X11_heldSlots_L4 M  x1 x2 = some w := h
    unfold m_X11_heldSlots_L4 at h
    refine r_iload_n dX11_heldSlots_4 rfl 2 rfl ?_
    refine r_iconst dX11_heldSlots_5 ?_
    by_cases c1 : wr 4 ≤ wr x2
    · rw [if_pos c1] at h
      refine r_icmp_ge (tgt := 30) dX11_heldSlots_6 (by decide) (fun _ => ?_) (fun q => absurd c1 q)
      cases h
      cases k2 _ rfl
      exact hX1 _ _ hX
    · rw [if_neg c1] at h
      refine r_icmp_ge (tgt := 30) dX11_heldSlots_6 (by decide) (fun q => absurd q c1) (fun _ => ?_)
      refine r_iload_n dX11_heldSlots_9 rfl 1 rfl ?_
      refine r_aload_n dX11_heldSlots_10 rfl 0 rfl ?_
      refine r_getR (j := 8) (v := 37) dX11_heldSlots_11 f_X11_67 rfl rfl rfl ?_
      refine r_iload_n dX11_heldSlots_14 rfl 2 rfl ?_
      obtain ⟨c2, h⟩ := of_ck h
      refine r_aald3 dX11_heldSlots_15 rfl c2 (slo_el c2).1 ?_
      refine r_getI (j := 0) (jz := 0) dX11_heldSlots_16 f_X11_211 (slo_el (M := M) c2).2 rfl rfl ?_
      refine r_callSI (st := [vI x1]) dX11_heldSlots_19 v_X11_95 (run_X11_bit rfl) (by decide) (by decide) rfl (Nat.le_of_ble_eq_true rfl) rfl ?_
      refine r_iadd dX11_heldSlots_22 ?_
      refine r_istore_n (lv2 := [(1, vI (x1 + (m_X11_bit (gI M (39 + 2 * (wr x2).toNat) 0)))), (0, vR 0), (2, vI x2)]) dX11_heldSlots_23 rfl (by decide) rfl ?_
      refine r_iinc (lv2 := [(2, vI (x2 + 1)), (1, vI (x1 + (m_X11_bit (gI M (39 + 2 * (wr x2).toNat) 0)))), (0, vR 0)]) dX11_heldSlots_24 2 rfl (by decide) rfl ?_
      refine r_goto (tgt := 4) dX11_heldSlots_27 (by decide) ?_
      refine r_sub (lv2 := [(0, vR 0), (1, vI (x1 + (m_X11_bit (gI M (39 + 2 * (wr x2).toNat) 0)))), (2, vI (x2 + 1))]) [2, 1, 0] rfl ?_
      cases h
      exact ih _ _  _ (k1 _ rfl) hX

set_option maxRecDepth 10000 in
theorem run_X11_heldSlots {M : Mem} {r : Int}   (h : m_X11_heldSlots M = some r) : RunI 1 yX11_heldSlots cX11_heldSlots 3 (some .int) [vR 0] M r M := by
  refine runI_of (lv := [(0, vR 0)]) (by decide +kernel) (Or.inl rfl) (Nat.le_of_ble_eq_true rfl) rfl ?_
  intro G hQ
  unfold m_X11_heldSlots at h
  refine r_iconst dX11_heldSlots_0 ?_
  refine r_istore_n (lv2 := [(1, vI 0), (0, vR 0)]) dX11_heldSlots_1 rfl (by decide) rfl ?_
  refine r_iconst dX11_heldSlots_2 ?_
  refine r_istore_n (lv2 := [(2, vI 0), (1, vI 0), (0, vR 0)]) dX11_heldSlots_3 rfl (by decide) rfl ?_
  obtain ⟨y3, y4, h9, h⟩ := of_bd2 h
  refine r_sub (lv2 := [(0, vR 0), (1, vI 0), (2, vI 0)]) [2, 1, 0] rfl ?_
  refine lp_X11_heldSlots_L4 M   (fun w => w = (y3, y4)) ?_ FU 0 0 _ h9 rfl
  intro z0 z1 hw
  cases hw
  refine r_iload_n dX11_heldSlots_30 rfl 1 rfl ?_
  cases h
  exact hQ _ _ dX11_heldSlots_31

def m_X11_count (M : Mem) (a1 : Int) : Option (Int) :=
  if wr a1 = 0 then
    some (gI M 1 0)
  else
    if wr a1 = 1 then
      some (gI M 1 1)
    else
      if wr a1 = 2 then
        bd1 (m_X10_openCells M) fun r5 =>
        some r5
      else
        if wr a1 = 3 then
          bd1 (m_X10_darkCells M) fun r8 =>
          some r8
        else
          if wr a1 = 4 then
            bd1 (m_X10_standingBricks M) fun r11 =>
            some r11
          else
            if wr a1 = 5 then
              bd1 (m_X10_wantedBricks M 1) fun r14 =>
              some r14
            else
              if wr a1 = 6 then
                bd1 (m_X10_wantedBricks M 2) fun r17 =>
                some r17
              else
                if wr a1 = 7 then
                  bd1 (m_X11_heldSlots M) fun r20 =>
                  some r20
                else
                  some (-1)
set_option maxRecDepth 10000 in
theorem run_X11_count {M : Mem} {a1 : Int} {r : Int}   (h : m_X11_count M a1 = some r) : RunI 4 yX11_count cX11_count 2 (some .int) [vR 0, vI a1] M r M := by
  refine runI_of (lv := [(0, vR 0), (1, vI a1)]) (by decide +kernel) (Or.inl rfl) (Nat.le_of_ble_eq_true rfl) rfl ?_
  intro G hQ
  unfold m_X11_count at h
  refine r_iload_n dX11_count_0 rfl 1 rfl ?_
  by_cases c1 : wr a1 = 0
  · rw [if_pos c1] at h
    refine r_tabIn (tgt := 48) dX11_count_1 0 (c1.trans rfl) (by decide) rfl (by decide) ?_
    refine r_aload_n dX11_count_48 rfl 0 rfl ?_
    refine r_getR (j := 0) (v := 1) dX11_count_49 f_X11_10 rfl rfl rfl ?_
    refine r_getI (j := 0) (jz := 0) dX11_count_52 f_X11_146 rfl rfl rfl ?_
    cases h
    exact hQ _ _ dX11_count_55
  · rw [if_neg c1] at h
    by_cases c2 : wr a1 = 1
    · rw [if_pos c2] at h
      refine r_tabIn (tgt := 56) dX11_count_1 1 (c2.trans rfl) (by decide) rfl (by decide) ?_
      refine r_aload_n dX11_count_56 rfl 0 rfl ?_
      refine r_getR (j := 0) (v := 1) dX11_count_57 f_X11_10 rfl rfl rfl ?_
      refine r_getI (j := 1) (jz := 1) dX11_count_60 f_X11_149 rfl rfl rfl ?_
      cases h
      exact hQ _ _ dX11_count_63
    · rw [if_neg c2] at h
      by_cases c3 : wr a1 = 2
      · rw [if_pos c3] at h
        refine r_tabIn (tgt := 64) dX11_count_1 2 (c3.trans rfl) (by decide) rfl (by decide) ?_
        refine r_aload_n dX11_count_64 rfl 0 rfl ?_
        refine r_getR (j := 0) (v := 1) dX11_count_65 f_X11_10 rfl rfl rfl ?_
        obtain ⟨r5, hc4, h⟩ := of_bd1 h
        refine r_callVI (st := []) dX11_count_68 v_X11_131 (run_X10_openCells hc4) (by decide) (by decide) rfl rfl (Nat.le_of_ble_eq_true rfl) rfl ?_
        cases h
        exact hQ _ _ dX11_count_71
      · rw [if_neg c3] at h
        by_cases c6 : wr a1 = 3
        · rw [if_pos c6] at h
          refine r_tabIn (tgt := 72) dX11_count_1 3 (c6.trans rfl) (by decide) rfl (by decide) ?_
          refine r_aload_n dX11_count_72 rfl 0 rfl ?_
          refine r_getR (j := 0) (v := 1) dX11_count_73 f_X11_10 rfl rfl rfl ?_
          obtain ⟨r8, hc7, h⟩ := of_bd1 h
          refine r_callVI (st := []) dX11_count_76 v_X11_152 (run_X10_darkCells hc7) (by decide) (by decide) rfl rfl (Nat.le_of_ble_eq_true rfl) rfl ?_
          cases h
          exact hQ _ _ dX11_count_79
        · rw [if_neg c6] at h
          by_cases c9 : wr a1 = 4
          · rw [if_pos c9] at h
            refine r_tabIn (tgt := 80) dX11_count_1 4 (c9.trans rfl) (by decide) rfl (by decide) ?_
            refine r_aload_n dX11_count_80 rfl 0 rfl ?_
            refine r_getR (j := 0) (v := 1) dX11_count_81 f_X11_10 rfl rfl rfl ?_
            obtain ⟨r11, hc10, h⟩ := of_bd1 h
            refine r_callVI (st := []) dX11_count_84 v_X11_155 (run_X10_standingBricks hc10) (by decide) (by decide) rfl rfl (Nat.le_of_ble_eq_true rfl) rfl ?_
            cases h
            exact hQ _ _ dX11_count_87
          · rw [if_neg c9] at h
            by_cases c12 : wr a1 = 5
            · rw [if_pos c12] at h
              refine r_tabIn (tgt := 88) dX11_count_1 5 (c12.trans rfl) (by decide) rfl (by decide) ?_
              refine r_aload_n dX11_count_88 rfl 0 rfl ?_
              refine r_getR (j := 0) (v := 1) dX11_count_89 f_X11_10 rfl rfl rfl ?_
              refine r_iconst dX11_count_92 ?_
              obtain ⟨r14, hc13, h⟩ := of_bd1 h
              refine r_callVI (st := []) dX11_count_93 v_X11_158 (run_X10_wantedBricks hc13) (by decide) (by decide) rfl rfl (Nat.le_of_ble_eq_true rfl) rfl ?_
              cases h
              exact hQ _ _ dX11_count_96
            · rw [if_neg c12] at h
              by_cases c15 : wr a1 = 6
              · rw [if_pos c15] at h
                refine r_tabIn (tgt := 97) dX11_count_1 6 (c15.trans rfl) (by decide) rfl (by decide) ?_
                refine r_aload_n dX11_count_97 rfl 0 rfl ?_
                refine r_getR (j := 0) (v := 1) dX11_count_98 f_X11_10 rfl rfl rfl ?_
                refine r_iconst dX11_count_101 ?_
                obtain ⟨r17, hc16, h⟩ := of_bd1 h
                refine r_callVI (st := []) dX11_count_102 v_X11_158 (run_X10_wantedBricks hc16) (by decide) (by decide) rfl rfl (Nat.le_of_ble_eq_true rfl) rfl ?_
                cases h
                exact hQ _ _ dX11_count_105
              · rw [if_neg c15] at h
                by_cases c18 : wr a1 = 7
                · rw [if_pos c18] at h
                  refine r_tabIn (tgt := 106) dX11_count_1 7 (c18.trans rfl) (by decide) rfl (by decide) ?_
                  refine r_aload_n dX11_count_106 rfl 0 rfl ?_
                  obtain ⟨r20, hc19, h⟩ := of_bd1 h
                  refine r_callVI (st := []) dX11_count_107 v_X11_161 (run_X11_heldSlots hc19) (by decide) (by decide) rfl rfl (Nat.le_of_ble_eq_true rfl) rfl ?_
                  cases h
                  exact hQ _ _ dX11_count_110
                · rw [if_neg c18] at h
                  refine r_tabOut (tgt := 111) dX11_count_1 (by omega) (by decide) ?_
                  refine r_iconst dX11_count_111 ?_
                  cases h
                  exact hQ _ _ dX11_count_112

def m_X11_want (M : Mem) (a1 : Int) (a2 : Int) : Option (Int × Mem) :=
  if wr a2 < 0 then
    some ((-1), M)
  else
    if wr 2 < wr a2 then
      some ((-1), M)
    else
      bd1 (m_X10_stands M a1) fun b4 =>
      if wr (bI b4) = 0 then
        some ((-1), M)
      else
        if 0 ≤ wr a1 ∧ wr a1 < 128 then
        lt (sI M 3 (wr a1) a2) fun M7 =>
        bd1 (
          if wr (gI M 3 (wr a1)) = wr a2 then
            some (M7)
          else
            bd1 (m_X7_forget M7) fun M10 =>
            some (M10)) fun (M11 : Mem) =>
        some ((gI M 3 (wr a1)), M11)
        else none
set_option maxRecDepth 10000 in
theorem run_X11_want {M : Mem} {M2 : Mem} {a1 : Int} {a2 : Int} {r : Int}   (h : m_X11_want M a1 a2 = some (r, M2)) : RunI 3 yX11_want cX11_want 4 (some .int) [vR 0, vI a1, vI a2] M r M2 := by
  refine runI_of (lv := [(0, vR 0), (1, vI a1), (2, vI a2)]) (by decide +kernel) (Or.inl rfl) (Nat.le_of_ble_eq_true rfl) rfl ?_
  intro G hQ
  unfold m_X11_want at h
  refine r_iload_n dX11_want_0 rfl 2 rfl ?_
  by_cases c1 : wr a2 < 0
  · rw [if_pos c1] at h
    refine r_if_lt (tgt := 20) dX11_want_1 (by decide) (fun _ => ?_) (fun q => absurd c1 q)
    refine r_iconst dX11_want_20 ?_
    cases h
    exact hQ _ _ dX11_want_21
  · rw [if_neg c1] at h
    refine r_if_lt (tgt := 20) dX11_want_1 (by decide) (fun q => absurd q c1) (fun _ => ?_)
    refine r_iload_n dX11_want_4 rfl 2 rfl ?_
    refine r_iconst dX11_want_5 ?_
    by_cases c2 : wr 2 < wr a2
    · rw [if_pos c2] at h
      refine r_icmp_gt (tgt := 20) dX11_want_6 (by decide) (fun _ => ?_) (fun q => absurd c2 q)
      refine r_iconst dX11_want_20 ?_
      cases h
      exact hQ _ _ dX11_want_21
    · rw [if_neg c2] at h
      refine r_icmp_gt (tgt := 20) dX11_want_6 (by decide) (fun q => absurd q c2) (fun _ => ?_)
      refine r_aload_n dX11_want_9 rfl 0 rfl ?_
      refine r_getR (j := 0) (v := 1) dX11_want_10 f_X11_10 rfl rfl rfl ?_
      refine r_iload_n dX11_want_13 rfl 1 rfl ?_
      obtain ⟨b4, hc3, h⟩ := of_bd1 h
      refine r_callVI (st := []) dX11_want_14 v_X11_164 (run_X10_stands hc3) (by decide) (by decide) rfl rfl (Nat.le_of_ble_eq_true rfl) rfl ?_
      by_cases c5 : wr (bI b4) = 0
      · rw [if_pos c5] at h
        refine r_if_ne (tgt := 22) dX11_want_17 (by decide) (fun q => absurd c5 q) (fun _ => ?_)
        refine r_iconst dX11_want_20 ?_
        cases h
        exact hQ _ _ dX11_want_21
      · rw [if_neg c5] at h
        refine r_if_ne (tgt := 22) dX11_want_17 (by decide) (fun _ => ?_) (fun q => absurd q c5)
        refine r_aload_n dX11_want_22 rfl 0 rfl ?_
        refine r_getR (j := 0) (v := 1) dX11_want_23 f_X11_10 rfl rfl rfl ?_
        refine r_getR (j := 3) (v := 3) dX11_want_26 f_X11_167 rfl rfl rfl ?_
        refine r_iload_n dX11_want_29 rfl 1 rfl ?_
        obtain ⟨c6, h⟩ := of_ck h
        refine r_iald dX11_want_30 rfl c6 ?_
        refine r_istore_n (lv2 := [(3, vI (gI M 3 (wr a1))), (0, vR 0), (1, vI a1), (2, vI a2)]) dX11_want_31 rfl (by decide) rfl ?_
        refine r_aload_n dX11_want_32 rfl 1 rfl ?_
        refine r_getR (j := 0) (v := 1) dX11_want_33 f_X11_10 rfl rfl rfl ?_
        refine r_getR (j := 3) (v := 3) dX11_want_36 f_X11_167 rfl rfl rfl ?_
        refine r_iload_n dX11_want_39 rfl 2 rfl ?_
        refine r_iload_n dX11_want_40 rfl 3 rfl ?_
        obtain ⟨M7, eM7, h⟩ := of_lt h
        refine r_iast dX11_want_41 rfl c6 ?_
        rw [← eM7]
        refine r_iload_n dX11_want_42 rfl 0 rfl ?_
        refine r_iload_n dX11_want_43 rfl 3 rfl ?_
        obtain ⟨M11, h9, h⟩ := of_bd1 h
        have kJ : Ex G 3 cX11_want RX11 4 54 [(3, vI (gI M 3 (wr a1)))] [] M11 := by
          refine r_iload_n dX11_want_54 rfl 0 rfl ?_
          cases h
          exact hQ _ _ dX11_want_55
        clear h
        have h := h9
        clear h9
        by_cases c8 : wr (gI M 3 (wr a1)) = wr a2
        · rw [if_pos c8] at h
          refine r_icmp_eq (tgt := 54) dX11_want_44 (by decide) (fun _ => ?_) (fun q => absurd c8 q)
          refine r_sub (lv2 := [(3, vI (gI M 3 (wr a1)))]) [0] rfl ?_
          cases h
          exact kJ
        · rw [if_neg c8] at h
          refine r_icmp_eq (tgt := 54) dX11_want_44 (by decide) (fun q => absurd q c8) (fun _ => ?_)
          refine r_aload_n dX11_want_47 rfl 1 rfl ?_
          refine r_getR (j := 2) (v := 8) dX11_want_48 f_X11_26 rfl rfl rfl ?_
          obtain ⟨M10, hc9, h⟩ := of_bd1 h
          refine r_callVV (st := []) dX11_want_51 v_X11_170 (run_X7_forget hc9) (by decide) (by decide) rfl rfl (Nat.le_of_ble_eq_true rfl) rfl ?_
          refine r_sub (lv2 := [(3, vI (gI M 3 (wr a1)))]) [0] rfl ?_
          cases h
          exact kJ

def m_X11_price (M : Mem) (a1 : Int) (a2 : Int) : Option (Int × Mem) :=
  if wr a2 < 0 then
    some ((-1), M)
  else
    if wr 999 < wr a2 then
      some ((-1), M)
    else
      bd1 (m_X10_stands M a1) fun b4 =>
      if wr (bI b4) = 0 then
        some ((-1), M)
      else
        if 0 ≤ wr a1 ∧ wr a1 < 128 then
        lt (sI M 4 (wr a1) a2) fun M7 =>
        bd1 (
          if wr (gI M 4 (wr a1)) = wr a2 then
            some (M7)
          else
            bd1 (m_X7_forget M7) fun M10 =>
            some (M10)) fun (M11 : Mem) =>
        some ((gI M 4 (wr a1)), M11)
        else none
set_option maxRecDepth 10000 in
theorem run_X11_price {M : Mem} {M2 : Mem} {a1 : Int} {a2 : Int} {r : Int}   (h : m_X11_price M a1 a2 = some (r, M2)) : RunI 3 yX11_price cX11_price 4 (some .int) [vR 0, vI a1, vI a2] M r M2 := by
  refine runI_of (lv := [(0, vR 0), (1, vI a1), (2, vI a2)]) (by decide +kernel) (Or.inl rfl) (Nat.le_of_ble_eq_true rfl) rfl ?_
  intro G hQ
  unfold m_X11_price at h
  refine r_iload_n dX11_price_0 rfl 2 rfl ?_
  by_cases c1 : wr a2 < 0
  · rw [if_pos c1] at h
    refine r_if_lt (tgt := 22) dX11_price_1 (by decide) (fun _ => ?_) (fun q => absurd c1 q)
    refine r_iconst dX11_price_22 ?_
    cases h
    exact hQ _ _ dX11_price_23
  · rw [if_neg c1] at h
    refine r_if_lt (tgt := 22) dX11_price_1 (by decide) (fun q => absurd q c1) (fun _ => ?_)
    refine r_iload_n dX11_price_4 rfl 2 rfl ?_
    refine r_sipush dX11_price_5 (by decide) ?_
    by_cases c2 : wr 999 < wr a2
    · rw [if_pos c2] at h
      refine r_icmp_gt (tgt := 22) dX11_price_8 (by decide) (fun _ => ?_) (fun q => absurd c2 q)
      refine r_iconst dX11_price_22 ?_
      cases h
      exact hQ _ _ dX11_price_23
    · rw [if_neg c2] at h
      refine r_icmp_gt (tgt := 22) dX11_price_8 (by decide) (fun q => absurd q c2) (fun _ => ?_)
      refine r_aload_n dX11_price_11 rfl 0 rfl ?_
      refine r_getR (j := 0) (v := 1) dX11_price_12 f_X11_10 rfl rfl rfl ?_
      refine r_iload_n dX11_price_15 rfl 1 rfl ?_
      obtain ⟨b4, hc3, h⟩ := of_bd1 h
      refine r_callVI (st := []) dX11_price_16 v_X11_164 (run_X10_stands hc3) (by decide) (by decide) rfl rfl (Nat.le_of_ble_eq_true rfl) rfl ?_
      by_cases c5 : wr (bI b4) = 0
      · rw [if_pos c5] at h
        refine r_if_ne (tgt := 24) dX11_price_19 (by decide) (fun q => absurd c5 q) (fun _ => ?_)
        refine r_iconst dX11_price_22 ?_
        cases h
        exact hQ _ _ dX11_price_23
      · rw [if_neg c5] at h
        refine r_if_ne (tgt := 24) dX11_price_19 (by decide) (fun _ => ?_) (fun q => absurd q c5)
        refine r_aload_n dX11_price_24 rfl 0 rfl ?_
        refine r_getR (j := 0) (v := 1) dX11_price_25 f_X11_10 rfl rfl rfl ?_
        refine r_getR (j := 4) (v := 4) dX11_price_28 f_X11_173 rfl rfl rfl ?_
        refine r_iload_n dX11_price_31 rfl 1 rfl ?_
        obtain ⟨c6, h⟩ := of_ck h
        refine r_iald dX11_price_32 rfl c6 ?_
        refine r_istore_n (lv2 := [(3, vI (gI M 4 (wr a1))), (0, vR 0), (1, vI a1), (2, vI a2)]) dX11_price_33 rfl (by decide) rfl ?_
        refine r_aload_n dX11_price_34 rfl 1 rfl ?_
        refine r_getR (j := 0) (v := 1) dX11_price_35 f_X11_10 rfl rfl rfl ?_
        refine r_getR (j := 4) (v := 4) dX11_price_38 f_X11_173 rfl rfl rfl ?_
        refine r_iload_n dX11_price_41 rfl 2 rfl ?_
        refine r_iload_n dX11_price_42 rfl 3 rfl ?_
        obtain ⟨M7, eM7, h⟩ := of_lt h
        refine r_iast dX11_price_43 rfl c6 ?_
        rw [← eM7]
        refine r_iload_n dX11_price_44 rfl 0 rfl ?_
        refine r_iload_n dX11_price_45 rfl 3 rfl ?_
        obtain ⟨M11, h9, h⟩ := of_bd1 h
        have kJ : Ex G 3 cX11_price RX11 4 56 [(3, vI (gI M 4 (wr a1)))] [] M11 := by
          refine r_iload_n dX11_price_56 rfl 0 rfl ?_
          cases h
          exact hQ _ _ dX11_price_57
        clear h
        have h := h9
        clear h9
        by_cases c8 : wr (gI M 4 (wr a1)) = wr a2
        · rw [if_pos c8] at h
          refine r_icmp_eq (tgt := 56) dX11_price_46 (by decide) (fun _ => ?_) (fun q => absurd c8 q)
          refine r_sub (lv2 := [(3, vI (gI M 4 (wr a1)))]) [0] rfl ?_
          cases h
          exact kJ
        · rw [if_neg c8] at h
          refine r_icmp_eq (tgt := 56) dX11_price_46 (by decide) (fun q => absurd q c8) (fun _ => ?_)
          refine r_aload_n dX11_price_49 rfl 1 rfl ?_
          refine r_getR (j := 2) (v := 8) dX11_price_50 f_X11_26 rfl rfl rfl ?_
          obtain ⟨M10, hc9, h⟩ := of_bd1 h
          refine r_callVV (st := []) dX11_price_53 v_X11_170 (run_X7_forget hc9) (by decide) (by decide) rfl rfl (Nat.le_of_ble_eq_true rfl) rfl ?_
          refine r_sub (lv2 := [(3, vI (gI M 4 (wr a1)))]) [0] rfl ?_
          cases h
          exact kJ

def m_X11_pavings (M : Mem) : Option (Int64 × Mem) :=
  bd2 (m_X7_total M) fun r2 M3 =>
  some (r2, M3)
set_option maxRecDepth 10000 in
theorem run_X11_pavings {M : Mem} {M2 : Mem} {r : Int64}   (h : m_X11_pavings M = some (r, M2)) : RunL 6 yX11_pavings cX11_pavings 1 (some .long) [vR 0] M r M2 := by
  refine runL_of (lv := [(0, vR 0)]) (by decide +kernel) rfl (Nat.le_of_ble_eq_true rfl) rfl ?_
  intro G hQ
  unfold m_X11_pavings at h
  refine r_aload_n dX11_pavings_0 rfl 0 rfl ?_
  refine r_getR (j := 2) (v := 8) dX11_pavings_1 f_X11_26 rfl rfl rfl ?_
  refine r_aload_n dX11_pavings_4 rfl 0 rfl ?_
  refine r_getR (j := 0) (v := 1) dX11_pavings_5 f_X11_10 rfl rfl rfl ?_
  obtain ⟨r2, M3, hc1, h⟩ := of_bd2 h
  refine r_callVL (st := []) dX11_pavings_8 v_X11_176 (run_X7_total hc1) (by decide) (by decide) rfl rfl (Nat.le_of_ble_eq_true rfl) rfl ?_
  cases h
  exact hQ _ _ dX11_pavings_11

def m_X11_share (M : Mem) (a1 : Int) : Option (Int64 × Mem) :=
  bd1 (m_X10_stands M a1) fun b2 =>
  if wr (bI b2) = 0 then
    some ((-1), M)
  else
    bd1 (m_X7_fillShares M) fun M5 =>
    if 0 ≤ wr a1 ∧ wr a1 < 128 then
    some ((gL M5 10 (wr a1)), M5)
    else none
set_option maxRecDepth 10000 in
theorem run_X11_share {M : Mem} {M2 : Mem} {a1 : Int} {r : Int64}   (h : m_X11_share M a1 = some (r, M2)) : RunL 6 yX11_share cX11_share 2 (some .long) [vR 0, vI a1] M r M2 := by
  refine runL_of (lv := [(0, vR 0), (1, vI a1)]) (by decide +kernel) rfl (Nat.le_of_ble_eq_true rfl) rfl ?_
  intro G hQ
  unfold m_X11_share at h
  refine r_aload_n dX11_share_0 rfl 0 rfl ?_
  refine r_getR (j := 0) (v := 1) dX11_share_1 f_X11_10 rfl rfl rfl ?_
  refine r_iload_n dX11_share_4 rfl 1 rfl ?_
  obtain ⟨b2, hc1, h⟩ := of_bd1 h
  refine r_callVI (st := []) dX11_share_5 v_X11_164 (run_X10_stands hc1) (by decide) (by decide) rfl rfl (Nat.le_of_ble_eq_true rfl) rfl ?_
  by_cases c3 : wr (bI b2) = 0
  · rw [if_pos c3] at h
    refine r_if_ne (tgt := 15) dX11_share_8 (by decide) (fun q => absurd c3 q) (fun _ => ?_)
    refine r_ldc2 (v := (-1)) dX11_share_11 kl_X11_180 ?_
    cases h
    exact hQ _ _ dX11_share_14
  · rw [if_neg c3] at h
    refine r_if_ne (tgt := 15) dX11_share_8 (by decide) (fun _ => ?_) (fun q => absurd q c3)
    refine r_aload_n dX11_share_15 rfl 0 rfl ?_
    refine r_getR (j := 2) (v := 8) dX11_share_16 f_X11_26 rfl rfl rfl ?_
    refine r_aload_n dX11_share_19 rfl 0 rfl ?_
    refine r_getR (j := 0) (v := 1) dX11_share_20 f_X11_10 rfl rfl rfl ?_
    obtain ⟨M5, hc4, h⟩ := of_bd1 h
    refine r_callVV (st := []) dX11_share_23 v_X11_182 (run_X7_fillShares hc4) (by decide) (by decide) rfl rfl (Nat.le_of_ble_eq_true rfl) rfl ?_
    refine r_aload_n dX11_share_26 rfl 0 rfl ?_
    refine r_getR (j := 2) (v := 8) dX11_share_27 f_X11_26 rfl rfl rfl ?_
    refine r_getR (j := 1) (v := 10) dX11_share_30 f_X11_186 rfl rfl rfl ?_
    refine r_iload_n dX11_share_33 rfl 1 rfl ?_
    obtain ⟨c6, h⟩ := of_ck h
    refine r_lald dX11_share_34 rfl c6 ?_
    cases h
    exact hQ _ _ dX11_share_35

def m_X11_sure (M : Mem) (a1 : Int) : Option (Int × Mem) :=
  if wr a1 = 0 then
    bd2 (m_X7_total M) fun r3 M4 =>
    if r3 = (0 : Int64) then
      some ((-4), M4)
    else
      bd1 (m_X7_fillShares M4) fun M7 =>
      lt (if wr a1 = 0 then r3 else (0 : Int64)) fun (v9 : Int64) =>
      bd1 (m_X7_bricksWithShare M7 v9) fun r11 =>
      some (r11, M7)
  else
    if wr a1 = wr 1 then
      bd2 (m_X7_total M) fun r14 M15 =>
      if r14 = (0 : Int64) then
        some ((-4), M15)
      else
        bd1 (m_X7_fillShares M15) fun M18 =>
        lt (if wr a1 = 0 then r14 else (0 : Int64)) fun (v20 : Int64) =>
        bd1 (m_X7_bricksWithShare M18 v20) fun r22 =>
        some (r22, M18)
    else
      some ((-1), M)
set_option maxRecDepth 10000 in
theorem run_X11_sure {M : Mem} {M2 : Mem} {a1 : Int} {r : Int}   (h : m_X11_sure M a1 = some (r, M2)) : RunI 6 yX11_sure cX11_sure 4 (some .int) [vR 0, vI a1] M r M2 := by
  refine runI_of (lv := [(0, vR 0), (1, vI a1)]) (by decide +kernel) (Or.inl rfl) (Nat.le_of_ble_eq_true rfl) rfl ?_
  intro G hQ
  unfold m_X11_sure at h
  refine r_iload_n dX11_sure_0 rfl 1 rfl ?_
  by_cases c1 : wr a1 = 0
  · rw [if_pos c1] at h
    refine r_if_eq (tgt := 11) dX11_sure_1 (by decide) (fun _ => ?_) (fun q => absurd c1 q)
    refine r_aload_n dX11_sure_11 rfl 0 rfl ?_
    refine r_getR (j := 2) (v := 8) dX11_sure_12 f_X11_26 rfl rfl rfl ?_
    refine r_aload_n dX11_sure_15 rfl 0 rfl ?_
    refine r_getR (j := 0) (v := 1) dX11_sure_16 f_X11_10 rfl rfl rfl ?_
    obtain ⟨r3, M4, hc2, h⟩ := of_bd2 h
    refine r_callVL (st := []) dX11_sure_19 v_X11_176 (run_X7_total hc2) (by decide) (by decide) rfl rfl (Nat.le_of_ble_eq_true rfl) rfl ?_
    refine r_lstore_n (lv2 := [(2, vL r3), (0, vR 0), (1, vI a1)]) dX11_sure_22 rfl (by decide) rfl ?_
    refine r_lload_n dX11_sure_23 rfl 0 rfl ?_
    refine r_lconst (v := 0) dX11_sure_24 rfl ?_
    by_cases c5 : r3 = (0 : Int64)
    · rw [if_pos c5] at h
      refine r_lcmp_ne (tgt := 32) dX11_sure_25 dX11_sure_26 (by decide) (fun q => absurd c5 q) (fun _ => ?_)
      refine r_bipush dX11_sure_29 (by decide) ?_
      cases h
      exact hQ _ _ dX11_sure_31
    · rw [if_neg c5] at h
      refine r_lcmp_ne (tgt := 32) dX11_sure_25 dX11_sure_26 (by decide) (fun _ => ?_) (fun q => absurd q c5)
      refine r_aload_n dX11_sure_32 rfl 1 rfl ?_
      refine r_getR (j := 2) (v := 8) dX11_sure_33 f_X11_26 rfl rfl rfl ?_
      refine r_aload_n dX11_sure_36 rfl 1 rfl ?_
      refine r_getR (j := 0) (v := 1) dX11_sure_37 f_X11_10 rfl rfl rfl ?_
      obtain ⟨M7, hc6, h⟩ := of_bd1 h
      refine r_callVV (st := []) dX11_sure_40 v_X11_182 (run_X7_fillShares hc6) (by decide) (by decide) rfl rfl (Nat.le_of_ble_eq_true rfl) rfl ?_
      refine r_aload_n dX11_sure_43 rfl 1 rfl ?_
      refine r_getR (j := 2) (v := 8) dX11_sure_44 f_X11_26 rfl rfl rfl ?_
      refine r_aload_n dX11_sure_47 rfl 1 rfl ?_
      refine r_getR (j := 0) (v := 1) dX11_sure_48 f_X11_10 rfl rfl rfl ?_
      refine r_iload_n dX11_sure_51 rfl 2 rfl ?_
      obtain ⟨v9, ev9, h⟩ := of_lt h
      have kJ : Ex G 6 cX11_sure RX11 4 60 [] [vL v9, vR 1, vR 8] M7 := by
        obtain ⟨r11, hc10, h⟩ := of_bd1 h
        refine r_callVI (st := []) dX11_sure_60 v_X11_190 (run_X7_bricksWithShare hc10) (by decide) (by decide) rfl rfl (Nat.le_of_ble_eq_true rfl) rfl ?_
        cases h
        exact hQ _ _ dX11_sure_63
      clear h
      by_cases c8 : wr a1 = 0
      · skip
        refine r_if_ne (tgt := 59) dX11_sure_52 (by decide) (fun q => absurd c8 q) (fun _ => ?_)
        refine r_lload_n dX11_sure_55 rfl 0 rfl ?_
        refine r_goto (tgt := 60) dX11_sure_56 (by decide) ?_
        rw [show v9 = r3 from by rw [ev9, if_pos c8]] at kJ
        refine r_sub (lv2 := []) [] rfl ?_
        exact kJ
      · skip
        refine r_if_ne (tgt := 59) dX11_sure_52 (by decide) (fun _ => ?_) (fun q => absurd q c8)
        refine r_lconst (v := 0) dX11_sure_59 rfl ?_
        rw [show v9 = (0 : Int64) from by rw [ev9, if_neg c8]] at kJ
        refine r_sub (lv2 := []) [] rfl ?_
        exact kJ
  · rw [if_neg c1] at h
    refine r_if_eq (tgt := 11) dX11_sure_1 (by decide) (fun q => absurd q c1) (fun _ => ?_)
    refine r_iload_n dX11_sure_4 rfl 1 rfl ?_
    refine r_iconst dX11_sure_5 ?_
    by_cases c12 : wr a1 = wr 1
    · rw [if_pos c12] at h
      refine r_icmp_eq (tgt := 11) dX11_sure_6 (by decide) (fun _ => ?_) (fun q => absurd c12 q)
      refine r_aload_n dX11_sure_11 rfl 0 rfl ?_
      refine r_getR (j := 2) (v := 8) dX11_sure_12 f_X11_26 rfl rfl rfl ?_
      refine r_aload_n dX11_sure_15 rfl 0 rfl ?_
      refine r_getR (j := 0) (v := 1) dX11_sure_16 f_X11_10 rfl rfl rfl ?_
      obtain ⟨r14, M15, hc13, h⟩ := of_bd2 h
      refine r_callVL (st := []) dX11_sure_19 v_X11_176 (run_X7_total hc13) (by decide) (by decide) rfl rfl (Nat.le_of_ble_eq_true rfl) rfl ?_
      refine r_lstore_n (lv2 := [(2, vL r14), (0, vR 0), (1, vI a1)]) dX11_sure_22 rfl (by decide) rfl ?_
      refine r_lload_n dX11_sure_23 rfl 0 rfl ?_
      refine r_lconst (v := 0) dX11_sure_24 rfl ?_
      by_cases c16 : r14 = (0 : Int64)
      · rw [if_pos c16] at h
        refine r_lcmp_ne (tgt := 32) dX11_sure_25 dX11_sure_26 (by decide) (fun q => absurd c16 q) (fun _ => ?_)
        refine r_bipush dX11_sure_29 (by decide) ?_
        cases h
        exact hQ _ _ dX11_sure_31
      · rw [if_neg c16] at h
        refine r_lcmp_ne (tgt := 32) dX11_sure_25 dX11_sure_26 (by decide) (fun _ => ?_) (fun q => absurd q c16)
        refine r_aload_n dX11_sure_32 rfl 1 rfl ?_
        refine r_getR (j := 2) (v := 8) dX11_sure_33 f_X11_26 rfl rfl rfl ?_
        refine r_aload_n dX11_sure_36 rfl 1 rfl ?_
        refine r_getR (j := 0) (v := 1) dX11_sure_37 f_X11_10 rfl rfl rfl ?_
        obtain ⟨M18, hc17, h⟩ := of_bd1 h
        refine r_callVV (st := []) dX11_sure_40 v_X11_182 (run_X7_fillShares hc17) (by decide) (by decide) rfl rfl (Nat.le_of_ble_eq_true rfl) rfl ?_
        refine r_aload_n dX11_sure_43 rfl 1 rfl ?_
        refine r_getR (j := 2) (v := 8) dX11_sure_44 f_X11_26 rfl rfl rfl ?_
        refine r_aload_n dX11_sure_47 rfl 1 rfl ?_
        refine r_getR (j := 0) (v := 1) dX11_sure_48 f_X11_10 rfl rfl rfl ?_
        refine r_iload_n dX11_sure_51 rfl 2 rfl ?_
        obtain ⟨v20, ev20, h⟩ := of_lt h
        have kJ : Ex G 6 cX11_sure RX11 4 60 [] [vL v20, vR 1, vR 8] M18 := by
          obtain ⟨r22, hc21, h⟩ := of_bd1 h
          refine r_callVI (st := []) dX11_sure_60 v_X11_190 (run_X7_bricksWithShare hc21) (by decide) (by decide) rfl rfl (Nat.le_of_ble_eq_true rfl) rfl ?_
          cases h
          exact hQ _ _ dX11_sure_63
        clear h
        by_cases c19 : wr a1 = 0
        · skip
          refine r_if_ne (tgt := 59) dX11_sure_52 (by decide) (fun q => absurd c19 q) (fun _ => ?_)
          refine r_lload_n dX11_sure_55 rfl 0 rfl ?_
          refine r_goto (tgt := 60) dX11_sure_56 (by decide) ?_
          rw [show v20 = r14 from by rw [ev20, if_pos c19]] at kJ
          refine r_sub (lv2 := []) [] rfl ?_
          exact kJ
        · skip
          refine r_if_ne (tgt := 59) dX11_sure_52 (by decide) (fun _ => ?_) (fun q => absurd q c19)
          refine r_lconst (v := 0) dX11_sure_59 rfl ?_
          rw [show v20 = (0 : Int64) from by rw [ev20, if_neg c19]] at kJ
          refine r_sub (lv2 := []) [] rfl ?_
          exact kJ
    · rw [if_neg c12] at h
      refine r_icmp_eq (tgt := 11) dX11_sure_6 (by decide) (fun q => absurd q c12) (fun _ => ?_)
      refine r_iconst dX11_sure_9 ?_
      cases h
      exact hQ _ _ dX11_sure_10

