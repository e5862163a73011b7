def m_X2_marked_L5 (M : Mem) (p2 : Int) (x3 : Int) (x4 : Int) : Option ((Int × Int) ⊕ (Int × Int)) :=
  if wr (m_X10_cells M) ≤ wr x4 then
    some (.inr (x3, x4))
  else
    if 0 ≤ wr x4 ∧ wr x4 < 64 then
    lt (if wr (gI M 20 (wr x4)) = wr p2 then 1 else 0) fun (v4 : Int) =>
    some (.inl ((x3 + (m_X11_bit v4)), (x4 + 1)))
    else none
def m_X2_marked (M : Mem) (a2 : Int) : Option (Int) :=
  bd2 (itr (fun s => m_X2_marked_L5 M a2 s.1 s.2) FU (0, 0)) fun y5 y6 =>
  some y5
set_option maxRecDepth 10000 in
theorem lp_X2_marked_L5 {G : Gx} (M : Mem) (p2 : Int)   (X : (Int × Int) → Prop) (hX1 : ∀ (x3 : Int) (x4 : Int), X (x3, x4) → Ex G 1 cX2_marked RX2 5 42 [(0, vR 17), (1, vR 1), (2, vI p2), (3, vI x3), (4, vI x4)] [] M) : ∀ (nn : Nat) (x3 : Int) (x4 : Int) (out : Int × Int), itr (fun s => m_X2_marked_L5 M p2 s.1 s.2) nn (x3, x4) = some out → X out → Ex G 1 cX2_marked RX2 5 5 [(0, vR 17), (1, vR 1), (2, vI p2), (3, vI x3), (4, vI x4)] [] M := by
  intro nn
  induction nn with
  | zero =>
    intro x3 x4 out h _
    cases h
  | succ nn ih =>
    intro x3 x4 out h0 hX
    obtain ⟨w, h, k1, k2⟩ := itr_inv h0
    have h : m_X2_marked_L5 M p2 x3 x4 = some w := h
    unfold m_X2_marked_L5 at h
    refine r_iload dX2_marked_5 4 rfl ?_
    refine r_aload_n dX2_marked_7 rfl 1 rfl ?_
    refine r_callVI (st := [vI x4]) dX2_marked_8 v_X2_34 (run_X10_cells rfl) (by decide) (by decide) rfl rfl (Nat.le_of_ble_eq_true rfl) rfl ?_
    by_cases c1 : wr (m_X10_cells M) ≤ wr x4
    · rw [if_pos c1] at h
      refine r_icmp_ge (tgt := 42) dX2_marked_11 (by decide) (fun _ => ?_) (fun q => absurd c1 q)
      cases h
      cases k2 _ rfl
      exact hX1 _ _ hX
    · rw [if_neg c1] at h
      refine r_icmp_ge (tgt := 42) dX2_marked_11 (by decide) (fun q => absurd q c1) (fun _ => ?_)
      refine r_iload_n dX2_marked_14 rfl 3 rfl ?_
      refine r_aload_n dX2_marked_15 rfl 0 rfl ?_
      refine r_getR (j := 2) (v := 20) dX2_marked_16 f_X2_18 rfl rfl rfl ?_
      refine r_iload dX2_marked_19 4 rfl ?_
      obtain ⟨c2, h⟩ := of_ck h
      refine r_iald dX2_marked_21 rfl c2 ?_
      refine r_iload_n dX2_marked_22 rfl 2 rfl ?_
      obtain ⟨v4, ev4, h⟩ := of_lt h
      have kJ : Ex G 1 cX2_marked RX2 5 31 [(0, vR 17), (1, vR 1), (2, vI p2), (4, vI x4)] [vI v4, vI x3] M := by
        refine r_callNI (st := [vI x3]) dX2_marked_31 v_X2_52 (run_X11_bit rfl) (by decide) (by decide) rfl (Nat.le_of_ble_eq_true rfl) rfl ?_
        refine r_iadd dX2_marked_34 ?_
        refine r_istore_n (lv2 := [(3, vI (x3 + (m_X11_bit v4))), (0, vR 17), (1, vR 1), (2, vI p2), (4, vI x4)]) dX2_marked_35 rfl (by decide) rfl ?_
        refine r_iinc (lv2 := [(4, vI (x4 + 1)), (3, vI (x3 + (m_X11_bit v4))), (0, vR 17), (1, vR 1), (2, vI p2)]) dX2_marked_36 4 rfl (by decide) rfl ?_
        refine r_goto (tgt := 5) dX2_marked_39 (by decide) ?_
        refine r_sub (lv2 := [(0, vR 17), (1, vR 1), (2, vI p2), (3, vI (x3 + (m_X11_bit v4))), (4, vI (x4 + 1))]) [2, 3, 4, 1, 0] rfl ?_
        cases h
        exact ih _ _  _ (k1 _ rfl) hX
      clear h
      by_cases c3 : wr (gI M 20 (wr x4)) = wr p2
      · skip
        refine r_icmp_ne (tgt := 30) dX2_marked_23 (by decide) (fun q => absurd c3 q) (fun _ => ?_)
        refine r_iconst dX2_marked_26 ?_
        refine r_goto (tgt := 31) dX2_marked_27 (by decide) ?_
        rw [show v4 = 1 from by rw [ev4, if_pos c3]] at kJ
        refine r_sub (lv2 := [(0, vR 17), (1, vR 1), (2, vI p2), (4, vI x4)]) [0, 1, 2, 4] rfl ?_
        exact kJ
      · skip
        refine r_icmp_ne (tgt := 30) dX2_marked_23 (by decide) (fun _ => ?_) (fun q => absurd q c3)
        refine r_iconst dX2_marked_30 ?_
        rw [show v4 = 0 from by rw [ev4, if_neg c3]] at kJ
        refine r_sub (lv2 := [(0, vR 17), (1, vR 1), (2, vI p2), (4, vI x4)]) [0, 1, 2, 4] rfl ?_
        exact kJ

set_option maxRecDepth 10000 in
theorem run_X2_marked {M : Mem} {a2 : Int} {r : Int}   (h : m_X2_marked M a2 = some r) : RunI 1 yX2_marked cX2_marked 5 (some .int) [vR 17, vR 1, vI a2] M r M := by
  refine runI_of (lv := [(0, vR 17), (1, vR 1), (2, vI a2)]) (by decide +kernel) (Or.inl rfl) (Nat.le_of_ble_eq_true rfl) rfl ?_
  intro G hQ
  unfold m_X2_marked at h
  refine r_iconst dX2_marked_0 ?_
  refine r_istore_n (lv2 := [(3, vI 0), (0, vR 17), (1, vR 1), (2, vI a2)]) dX2_marked_1 rfl (by decide) rfl ?_
  refine r_iconst dX2_marked_2 ?_
  refine r_istore (lv2 := [(4, vI 0), (3, vI 0), (0, vR 17), (1, vR 1), (2, vI a2)]) dX2_marked_3 (by decide) rfl ?_
  obtain ⟨y5, y6, h9, h⟩ := of_bd2 h
  refine r_sub (lv2 := [(0, vR 17), (1, vR 1), (2, vI a2), (3, vI 0), (4, vI 0)]) [2, 3, 4, 1, 0] rfl ?_
  refine lp_X2_marked_L5 M a2  (fun w => w = (y5, y6)) ?_ FU 0 0 _ h9 rfl
  intro z0 z1 hw
  cases hw
  refine r_iload_n dX2_marked_42 rfl 3 rfl ?_
  cases h
  exact hQ _ _ dX2_marked_43

def m_X3_take (M : Mem) (a0 : Nat) (a1 : Nat) : Option (Mem) :=
  lt (sI M a0 0 1) fun M1 =>
  if 0 ≤ wr 0 ∧ 0 ≤ wr 0 ∧ 0 ≤ wr 64 ∧ wr 0 + wr 64 ≤ 64 ∧ wr 0 + wr 64 ≤ 64 then
  lt (cpI M1 (a1 + 1) (wr 0) (a0 + 1) (wr 0) (wr 64)) fun M3 =>
  some M3
  else none
set_option maxRecDepth 10000 in
theorem run_X3_take {M : Mem} {M2 : Mem} {a0 : Nat} {a1 : Nat}  (ha0 : (ly a0).1 = 8) (ha1 : (ly a1).1 = 8) (h : m_X3_take M a0 a1 = some (M2)) : RunV 2 yX3_take cX3_take 2 none [vR a0, vR a1] M M2 := by
  refine runV_of (lv := [(0, vR a0), (1, vR a1)]) (by decide +kernel) rfl (Nat.le_of_ble_eq_true rfl) rfl ?_
  intro G hQ
  unfold m_X3_take at h
  refine r_aload_n dX3_take_0 rfl 0 rfl ?_
  refine r_iconst dX3_take_1 ?_
  obtain ⟨M1, eM1, h⟩ := of_lt h
  refine r_putI (j := 0) (jz := 0) dX3_take_2 p_X3_21 ha0 rfl rfl rfl rfl ?_
  rw [← eM1]
  refine r_aload_n dX3_take_5 rfl 1 rfl ?_
  refine r_getR (j := 1) (v := (a1 + 1)) dX3_take_6 f_X3_9 ha1 rfl (pav_on ha1).1 ?_
  refine r_iconst dX3_take_9 ?_
  refine r_aload_n dX3_take_10 rfl 0 rfl ?_
  refine r_getR (j := 1) (v := (a0 + 1)) dX3_take_11 f_X3_9 ha0 rfl (pav_on ha0).1 ?_
  refine r_iconst dX3_take_14 ?_
  refine r_bipush dX3_take_15 (by decide) ?_
  obtain ⟨c2, h⟩ := of_ck h
  obtain ⟨M3, eM3, h⟩ := of_lt h
  refine r_copy dX3_take_17 mc_X3_25 (by decide) (Nat.le_of_ble_eq_true rfl) (pav_on (M := M1) ha1).2 (pav_on (M := M1) ha0).2 c2.1 c2.2.1 c2.2.2.1 c2.2.2.2.1 c2.2.2.2.2 ?_
  rw [← eM3]
  cases h
  exact hQ _ _ dX3_take_20

def m_X10_stands (M : Mem) (a1 : Int) : Option (Bool) :=
  bd1 (
    if wr a1 < 0 then
      some (0)
    else
      if wr ((2 * (gI M 1 0)) * (gI M 1 1)) ≤ wr a1 then
        some (0)
      else
        if 0 ≤ wr (idv a1 2) ∧ wr (idv a1 2) < 64 then
        if wr (gI M 2 (wr (idv a1 2))) = 0 then
          some (0)
        else
          bd1 (m_X10_secondCell M a1) fun r6 =>
          if wr r6 < 0 then
            some (0)
          else
            some (1)
        else none) fun (v8 : Int) =>
  if v8 = 0 ∨ v8 = 1 then some (decide (v8 = 1)) else none
set_option maxRecDepth 10000 in
theorem run_X10_stands {M : Mem} {a1 : Int} {r : Bool}   (h : m_X10_stands M a1 = some r) : RunI 2 yX10_stands cX10_stands 2 (some .boolean) [vR 1, vI a1] M (bI r) M := by
  refine runI_of (lv := [(0, vR 1), (1, vI a1)]) (by decide +kernel) (Or.inr ⟨rfl, bI_01 r⟩) (Nat.le_of_ble_eq_true rfl) rfl ?_
  intro G hQ
  unfold m_X10_stands at h
  refine r_iload_n dX10_stands_0 rfl 1 rfl ?_
  obtain ⟨v8, h9, h⟩ := of_bd1 h
  have kJ : Ex G 2 cX10_stands RX10 2 43 [] [vI v8] M := by
    obtain ⟨cz, h⟩ := of_ck h
    rw [← bI_dec cz]
    cases h
    exact hQ _ _ dX10_stands_43
  clear h
  have h := h9
  clear h9
  by_cases c1 : wr a1 < 0
  · rw [if_pos c1] at h
    refine r_if_lt (tgt := 42) dX10_stands_1 (by decide) (fun _ => ?_) (fun q => absurd c1 q)
    refine r_iconst dX10_stands_42 ?_
    refine r_sub (lv2 := []) [] rfl ?_
    cases h
    exact kJ
  · rw [if_neg c1] at h
    refine r_if_lt (tgt := 42) dX10_stands_1 (by decide) (fun q => absurd q c1) (fun _ => ?_)
    refine r_iload_n dX10_stands_4 rfl 1 rfl ?_
    refine r_iconst dX10_stands_5 ?_
    refine r_aload_n dX10_stands_6 rfl 0 rfl ?_
    refine r_getI (j := 0) (jz := 0) dX10_stands_7 f_X10_22 rfl rfl rfl ?_
    refine r_imul dX10_stands_10 ?_
    refine r_aload_n dX10_stands_11 rfl 0 rfl ?_
    refine r_getI (j := 1) (jz := 1) dX10_stands_12 f_X10_26 rfl rfl rfl ?_
    refine r_imul dX10_stands_15 ?_
    by_cases c2 : wr ((2 * (gI M 1 0)) * (gI M 1 1)) ≤ wr a1
    · rw [if_pos c2] at h
      refine r_icmp_ge (tgt := 42) dX10_stands_16 (by decide) (fun _ => ?_) (fun q => absurd c2 q)
      refine r_iconst dX10_stands_42 ?_
      refine r_sub (lv2 := []) [] rfl ?_
      cases h
      exact kJ
    · rw [if_neg c2] at h
      refine r_icmp_ge (tgt := 42) dX10_stands_16 (by decide) (fun q => absurd q c2) (fun _ => ?_)
      refine r_aload_n dX10_stands_19 rfl 0 rfl ?_
      refine r_getR (j := 2) (v := 2) dX10_stands_20 f_X10_9 rfl rfl rfl ?_
      refine r_iload_n dX10_stands_23 rfl 1 rfl ?_
      refine r_iconst dX10_stands_24 ?_
      refine r_idiv dX10_stands_25 (by decide) ?_
      obtain ⟨c3, h⟩ := of_ck h
      refine r_zald dX10_stands_26 rfl c3 ?_
      by_cases c4 : wr (gI M 2 (wr (idv a1 2))) = 0
      · rw [if_pos c4] at h
        refine r_if_eq (tgt := 42) dX10_stands_27 (by decide) (fun _ => ?_) (fun q => absurd c4 q)
        refine r_iconst dX10_stands_42 ?_
        refine r_sub (lv2 := []) [] rfl ?_
        cases h
        exact kJ
      · rw [if_neg c4] at h
        refine r_if_eq (tgt := 42) dX10_stands_27 (by decide) (fun q => absurd q c4) (fun _ => ?_)
        refine r_aload_n dX10_stands_30 rfl 0 rfl ?_
        refine r_iload_n dX10_stands_31 rfl 1 rfl ?_
        obtain ⟨r6, hc5, h⟩ := of_bd1 h
        refine r_callVI (st := []) dX10_stands_32 v_X10_53 (run_X10_secondCell hc5) (by decide) (by decide) rfl rfl (Nat.le_of_ble_eq_true rfl) rfl ?_
        by_cases c7 : wr r6 < 0
        · rw [if_pos c7] at h
          refine r_if_lt (tgt := 42) dX10_stands_35 (by decide) (fun _ => ?_) (fun q => absurd c7 q)
          refine r_iconst dX10_stands_42 ?_
          refine r_sub (lv2 := []) [] rfl ?_
          cases h
          exact kJ
        · rw [if_neg c7] at h
          refine r_if_lt (tgt := 42) dX10_stands_35 (by decide) (fun q => absurd q c7) (fun _ => ?_)
          refine r_iconst dX10_stands_38 ?_
          refine r_goto (tgt := 43) dX10_stands_39 (by decide) ?_
          refine r_sub (lv2 := []) [] rfl ?_
          cases h
          exact kJ

def m_X10_openCells_L4 (M : Mem)  (x1 : Int) (x2 : Int) : Option ((Int × Int) ⊕ (Int × Int)) :=
  if wr ((gI M 1 0) * (gI M 1 1)) ≤ wr x2 then
    some (.inr (x1, x2))
  else
    if 0 ≤ wr x2 ∧ wr x2 < 64 then
    some (.inl ((x1 + (m_X11_bit (gI M 2 (wr x2)))), (x2 + 1)))
    else none
def m_X10_openCells (M : Mem) : Option (Int) :=
  bd2 (itr (fun s => m_X10_openCells_L4 M  s.1 s.2) FU (0, 0)) fun y3 y4 =>
  some y3
set_option maxRecDepth 10000 in
theorem lp_X10_openCells_L4 {G : Gx} (M : Mem)    (X : (Int × Int) → Prop) (hX1 : ∀ (x1 : Int) (x2 : Int), X (x1, x2) → Ex G 1 cX10_openCells RX10 3 35 [(0, vR 1), (1, vI x1), (2, vI x2)] [] M) : ∀ (nn : Nat) (x1 : Int) (x2 : Int) (out : Int × Int), itr (fun s => m_X10_openCells_L4 M  s.1 s.2) nn (x1, x2) = some out → X out → Ex G 1 cX10_openCells RX10 3 4 [(0, vR 1), (1, vI x1), (2, vI x2)] [] M := by
  intro nn
  induction nn with
  | zero =>
    intro x1 x2 out h _
    cases h
  | succ nn ih =>
    intro x1 x2 out h0 hX
    obtain ⟨w, h, k1, k2⟩ := itr_inv h0
    have h : m_X10_openCells_L4 M  x1 x2 = some w := h
    unfold m_X10_openCells_L4 at h
    refine r_iload_n dX10_openCells_4 rfl 2 rfl ?_
    refine r_aload_n dX10_openCells_5 rfl 0 rfl ?_
    refine r_getI (j := 0) (jz := 0) dX10_openCells_6 f_X10_22 rfl rfl rfl ?_
    refine r_aload_n dX10_openCells_9 rfl 0 rfl ?_
    refine r_getI (j := 1) (jz := 1) dX10_openCells_10 f_X10_26 rfl rfl rfl ?_
    refine r_imul dX10_openCells_13 ?_
    by_cases c1 : wr ((gI M 1 0) * (gI M 1 1)) ≤ wr x2
    · rw [if_pos c1] at h
      refine r_icmp_ge (tgt := 35) dX10_openCells_14 (by decide) (fun _ => ?_) (fun q => absurd c1 q)
      cases h
      cases k2 _ rfl
      exact hX1 _ _ hX
    · rw [if_neg c1] at h
      refine r_icmp_ge (tgt := 35) dX10_openCells_14 (by decide) (fun q => absurd q c1) (fun _ => ?_)
      refine r_iload_n dX10_openCells_17 rfl 1 rfl ?_
      refine r_aload_n dX10_openCells_18 rfl 0 rfl ?_
      refine r_getR (j := 2) (v := 2) dX10_openCells_19 f_X10_9 rfl rfl rfl ?_
      refine r_iload_n dX10_openCells_22 rfl 2 rfl ?_
      obtain ⟨c2, h⟩ := of_ck h
      refine r_zald dX10_openCells_23 rfl c2 ?_
      refine r_callNI (st := [vI x1]) dX10_openCells_24 v_X10_56 (run_X11_bit rfl) (by decide) (by decide) rfl (Nat.le_of_ble_eq_true rfl) rfl ?_
      refine r_iadd dX10_openCells_27 ?_
      refine r_istore_n (lv2 := [(1, vI (x1 + (m_X11_bit (gI M 2 (wr x2))))), (0, vR 1), (2, vI x2)]) dX10_openCells_28 rfl (by decide) rfl ?_
      refine r_iinc (lv2 := [(2, vI (x2 + 1)), (1, vI (x1 + (m_X11_bit (gI M 2 (wr x2))))), (0, vR 1)]) dX10_openCells_29 2 rfl (by decide) rfl ?_
      refine r_goto (tgt := 4) dX10_openCells_32 (by decide) ?_
      refine r_sub (lv2 := [(0, vR 1), (1, vI (x1 + (m_X11_bit (gI M 2 (wr x2))))), (2, vI (x2 + 1))]) [2, 1, 0] rfl ?_
      cases h
      exact ih _ _  _ (k1 _ rfl) hX

set_option maxRecDepth 10000 in
theorem run_X10_openCells {M : Mem} {r : Int}   (h : m_X10_openCells M = some r) : RunI 1 yX10_openCells cX10_openCells 3 (some .int) [vR 1] M r M := by
  refine runI_of (lv := [(0, vR 1)]) (by decide +kernel) (Or.inl rfl) (Nat.le_of_ble_eq_true rfl) rfl ?_
  intro G hQ
  unfold m_X10_openCells at h
  refine r_iconst dX10_openCells_0 ?_
  refine r_istore_n (lv2 := [(1, vI 0), (0, vR 1)]) dX10_openCells_1 rfl (by decide) rfl ?_
  refine r_iconst dX10_openCells_2 ?_
  refine r_istore_n (lv2 := [(2, vI 0), (1, vI 0), (0, vR 1)]) dX10_openCells_3 rfl (by decide) rfl ?_
  obtain ⟨y3, y4, h9, h⟩ := of_bd2 h
  refine r_sub (lv2 := [(0, vR 1), (1, vI 0), (2, vI 0)]) [2, 1, 0] rfl ?_
  refine lp_X10_openCells_L4 M   (fun w => w = (y3, y4)) ?_ FU 0 0 _ h9 rfl
  intro z0 z1 hw
  cases hw
  refine r_iload_n dX10_openCells_35 rfl 1 rfl ?_
  cases h
  exact hQ _ _ dX10_openCells_36

def m_X3_takeBricks_L5 (M : Mem) (p0 : Nat) (p2 : Nat) (x3 : Int64) (x5 : Int) : Option ((Int64 × Int) ⊕ ((Int64 × Int) ⊕ (Bool × Mem))) :=
  if wr (gI M p2 2) ≤ wr x5 then
    some (.inr (.inl (x3, x5)))
  else
    if 0 ≤ wr x5 ∧ wr x5 < 64 then
    bd1 (m_X10_stands M (gI M (p2 + 1) (wr x5))) fun b4 =>
    if wr (bI b4) = 0 then
      some (.inr (.inr (false, M)))
    else
      bd1 (m_X10_secondCell M (gI M (p2 + 1) (wr x5))) fun r7 =>
      if (x3 &&& ((lshl (1 : Int64) (idv (gI M (p2 + 1) (wr x5)) 2)) ||| (lshl (1 : Int64) r7))) = (0 : Int64) then
        some (.inl ((x3 ||| ((lshl (1 : Int64) (idv (gI M (p2 + 1) (wr x5)) 2)) ||| (lshl (1 : Int64) r7))), (x5 + 1)))
      else
        some (.inr (.inr (false, M)))
    else none
def m_X3_takeBricks_L91 (M : Mem) (p0 : Nat) (p2 : Nat) (x5 : Int) : Option ((Int × Mem) ⊕ (Int × Mem)) :=
  if wr (gI M p2 2) ≤ wr x5 then
    some (.inr (x5, M))
  else
    if 0 ≤ wr x5 ∧ wr x5 < 64 then
    bd1 (m_X3_put M p0 (gI M (p2 + 1) (wr x5))) fun M17 =>
    some (.inl ((x5 + 1), M17))
    else none
def m_X3_takeBricks (M : Mem) (a0 : Nat) (a2 : Nat) : Option (Bool × Mem) :=
  be2 (itr (fun s => m_X3_takeBricks_L5 M a0 a2 s.1 s.2) FU ((0 : Int64), 0)) (fun y9 y10 =>
  bd1 (m_X10_openCells M) fun r12 =>
  if wr (2 * (gI M a2 2)) = wr r12 then
    bd2 (itr (fun s => m_X3_takeBricks_L91 s.2 a0 a2 s.1) FU (0, M)) fun y18 M19 =>
    lt (sI M19 a0 0 1) fun M20 =>
    some (true, M20)
  else
    some (false, M))
set_option maxRecDepth 10000 in
theorem lp_X3_takeBricks_L5 {G : Gx} (M : Mem) (p0 : Nat) (p2 : Nat)  (hp0 : (ly p0).1 = 8) (hp2 : (ly p2).1 = 11) (X : ((Int64 × Int) ⊕ (Bool × Mem)) → Prop) (hX1 : ∀ (x3 : Int64) (x5 : Int), X (.inl (x3, x5)) → Ex G 3 cX3_takeBricks RX3 9 73 [(0, vR p0), (1, vR 1), (2, vR p2), (3, vL x3), (5, vI x5)] [] M) (hX2 : ∀ (r : Bool) (M2 : Mem), X (.inr (r, M2)) → RetI G 3 cX3_takeBricks RX3 9 (bI r) M2) : ∀ (nn : Nat) (x3 : Int64) (x5 : Int) (out : (Int64 × Int) ⊕ (Bool × Mem)), itr (fun s => m_X3_takeBricks_L5 M p0 p2 s.1 s.2) nn (x3, x5) = some out → X out → Ex G 3 cX3_takeBricks RX3 9 5 [(0, vR p0), (1, vR 1), (2, vR p2), (3, vL x3), (5, vI x5)] [] M := by
  intro nn
  induction nn with
  | zero =>
    intro x3 x5 out h _
    cases h
  | succ nn ih =>
    intro x3 x5 out h0 hX
    obtain ⟨w, h, k1, k2⟩ := itr_inv h0
    have h : m_X3_takeBricks_L5 M p0 p2 x3 x5 = some w := h
    unfold m_X3_takeBricks_L5 at h
    refine r_iload dX3_takeBricks_5 4 rfl ?_
    refine r_aload_n dX3_takeBricks_7 rfl 2 rfl ?_
    refine r_getI (j := 2) (jz := 2) dX3_takeBricks_8 f_X3_31 hp2 rfl rfl ?_
    by_cases c1 : wr (gI M p2 2) ≤ wr x5
    · rw [if_pos c1] at h
      refine r_icmp_ge (tgt := 73) dX3_takeBricks_11 (by decide) (fun _ => ?_) (fun q => absurd c1 q)
      cases h
      cases k2 _ rfl
      exact hX1 _ _ hX
    · rw [if_neg c1] at h
      refine r_icmp_ge (tgt := 73) dX3_takeBricks_11 (by decide) (fun q => absurd q c1) (fun _ => ?_)
      refine r_aload_n dX3_takeBricks_14 rfl 2 rfl ?_
      refine r_getR (j := 3) (v := (p2 + 1)) dX3_takeBricks_15 f_X3_37 hp2 rfl (she_it hp2).1 ?_
      refine r_iload dX3_takeBricks_18 4 rfl ?_
      obtain ⟨c2, h⟩ := of_ck h
      refine r_iald dX3_takeBricks_20 (she_it (M := M) hp2).2 c2 ?_
      refine r_istore (lv2 := [(6, vI (gI M (p2 + 1) (wr x5))), (0, vR p0), (1, vR 1), (2, vR p2), (3, vL x3), (5, vI x5)]) dX3_takeBricks_21 (by decide) rfl ?_
      refine r_aload_n dX3_takeBricks_23 rfl 2 rfl ?_
      refine r_iload dX3_takeBricks_24 0 rfl ?_
      obtain ⟨b4, hc3, h⟩ := of_bd1 h
      refine r_callVI (st := []) dX3_takeBricks_26 v_X3_40 (run_X10_stands hc3) (by decide) (by decide) rfl rfl (Nat.le_of_ble_eq_true rfl) rfl ?_
      by_cases c5 : wr (bI b4) = 0
      · rw [if_pos c5] at h
        refine r_if_ne (tgt := 34) dX3_takeBricks_29 (by decide) (fun q => absurd c5 q) (fun _ => ?_)
        refine r_iconst dX3_takeBricks_32 ?_
        cases h
        cases k2 _ rfl
        exact hX2 _ _ hX _ _ dX3_takeBricks_33
      · rw [if_neg c5] at h
        refine r_if_ne (tgt := 34) dX3_takeBricks_29 (by decide) (fun _ => ?_) (fun q => absurd q c5)
        refine r_lconst (v := 1) dX3_takeBricks_34 rfl ?_
        refine r_iload dX3_takeBricks_35 0 rfl ?_
        refine r_iconst dX3_takeBricks_37 ?_
        refine r_idiv dX3_takeBricks_38 (by decide) ?_
        refine r_lshl dX3_takeBricks_39 ?_
        refine r_lconst (v := 1) dX3_takeBricks_40 rfl ?_
        refine r_aload_n dX3_takeBricks_41 rfl 2 rfl ?_
        refine r_iload dX3_takeBricks_42 0 rfl ?_
        obtain ⟨r7, hc6, h⟩ := of_bd1 h
        refine r_callVI (st := [vL (1 : Int64), vL (lshl (1 : Int64) (idv (gI M (p2 + 1) (wr x5)) 2))]) dX3_takeBricks_44 v_X3_15 (run_X10_secondCell hc6) (by decide) (by decide) rfl rfl (Nat.le_of_ble_eq_true rfl) rfl ?_
        refine r_lshl dX3_takeBricks_47 ?_
        refine r_lor dX3_takeBricks_48 ?_
        refine r_lstore (lv2 := [(7, vL ((lshl (1 : Int64) (idv (gI M (p2 + 1) (wr x5)) 2)) ||| (lshl (1 : Int64) r7))), (6, vI (gI M (p2 + 1) (wr x5))), (0, vR p0), (1, vR 1), (2, vR p2), (3, vL x3), (5, vI x5)]) dX3_takeBricks_49 (by decide) rfl ?_
        refine r_lload_n dX3_takeBricks_51 rfl 5 rfl ?_
        refine r_lload dX3_takeBricks_52 0 rfl ?_
        refine r_land dX3_takeBricks_54 ?_
        refine r_lconst (v := 0) dX3_takeBricks_55 rfl ?_
        by_cases c8 : (x3 &&& ((lshl (1 : Int64) (idv (gI M (p2 + 1) (wr x5)) 2)) ||| (lshl (1 : Int64) r7))) = (0 : Int64)
        · rw [if_pos c8] at h
          refine r_lcmp_eq (tgt := 62) dX3_takeBricks_56 dX3_takeBricks_57 (by decide) (fun _ => ?_) (fun q => absurd c8 q)
          refine r_lload_n dX3_takeBricks_62 rfl 5 rfl ?_
          refine r_lload dX3_takeBricks_63 0 rfl ?_
          refine r_lor dX3_takeBricks_65 ?_
          refine r_lstore_n (lv2 := [(3, vL (x3 ||| ((lshl (1 : Int64) (idv (gI M (p2 + 1) (wr x5)) 2)) ||| (lshl (1 : Int64) r7)))), (7, vL ((lshl (1 : Int64) (idv (gI M (p2 + 1) (wr x5)) 2)) ||| (lshl (1 : Int64) r7))), (6, vI (gI M (p2 + 1) (wr x5))), (0, vR p0), (1, vR 1), (2, vR p2), (5, vI x5)]) dX3_takeBricks_66 rfl (by decide) rfl ?_
          refine r_iinc (lv2 := [(5, vI (x5 + 1)), (3, vL (x3 ||| ((lshl (1 : Int64) (idv (gI M (p2 + 1) (wr x5)) 2)) ||| (lshl (1 : Int64) r7)))), (7, vL ((lshl (1 : Int64) (idv (gI M (p2 + 1) (wr x5)) 2)) ||| (lshl (1 : Int64) r7))), (6, vI (gI M (p2 + 1) (wr x5))), (0, vR p0), (1, vR 1), (2, vR p2)]) dX3_takeBricks_67 6 rfl (by decide) rfl ?_
          refine r_goto (tgt := 5) dX3_takeBricks_70 (by decide) ?_
          refine r_sub (lv2 := [(0, vR p0), (1, vR 1), (2, vR p2), (3, vL (x3 ||| ((lshl (1 : Int64) (idv (gI M (p2 + 1) (wr x5)) 2)) ||| (lshl (1 : Int64) r7)))), (5, vI (x5 + 1))]) [4, 5, 6, 1, 0] rfl ?_
          cases h
          exact ih _ _  _ (k1 _ rfl) hX
        · rw [if_neg c8] at h
          refine r_lcmp_eq (tgt := 62) dX3_takeBricks_56 dX3_takeBricks_57 (by decide) (fun q => absurd q c8) (fun _ => ?_)
          refine r_iconst dX3_takeBricks_60 ?_
          cases h
          cases k2 _ rfl
          exact hX2 _ _ hX _ _ dX3_takeBricks_61

set_option maxRecDepth 10000 in
theorem lp_X3_takeBricks_L91 {G : Gx} (p0 : Nat) (p2 : Nat)  (hp0 : (ly p0).1 = 8) (hp2 : (ly p2).1 = 11) (X : (Int × Mem) → Prop) (hX1 : ∀ (x5 : Int) (M : Mem), X (x5, M) → Ex G 3 cX3_takeBricks RX3 9 118 [(0, vR p0), (1, vR 1), (2, vR p2), (5, vI x5)] [] M) : ∀ (nn : Nat) (x5 : Int) (M : Mem) (out : Int × Mem), itr (fun s => m_X3_takeBricks_L91 s.2 p0 p2 s.1) nn (x5, M) = some out → X out → Ex G 3 cX3_takeBricks RX3 9 91 [(0, vR p0), (1, vR 1), (2, vR p2), (5, vI x5)] [] M := by
  intro nn
  induction nn with
  | zero =>
    intro x5 M out h _
    cases h
  | succ nn ih =>
    intro x5 M out h0 hX
    obtain ⟨w, h, k1, k2⟩ := itr_inv h0
    have h : m_X3_takeBricks_L91 M p0 p2 x5 = some w := h
    unfold m_X3_takeBricks_L91 at h
    refine r_iload dX3_takeBricks_91 3 rfl ?_
    refine r_aload_n dX3_takeBricks_93 rfl 2 rfl ?_
    refine r_getI (j := 2) (jz := 2) dX3_takeBricks_94 f_X3_31 hp2 rfl rfl ?_
    by_cases c14 : wr (gI M p2 2) ≤ wr x5
    · rw [if_pos c14] at h
      refine r_icmp_ge (tgt := 118) dX3_takeBricks_97 (by decide) (fun _ => ?_) (fun q => absurd c14 q)
      cases h
      cases k2 _ rfl
      exact hX1 _ _ hX
    · rw [if_neg c14] at h
      refine r_icmp_ge (tgt := 118) dX3_takeBricks_97 (by decide) (fun q => absurd q c14) (fun _ => ?_)
      refine r_aload_n dX3_takeBricks_100 rfl 0 rfl ?_
      refine r_aload_n dX3_takeBricks_101 rfl 1 rfl ?_
      refine r_aload_n dX3_takeBricks_102 rfl 2 rfl ?_
      refine r_getR (j := 3) (v := (p2 + 1)) dX3_takeBricks_103 f_X3_37 hp2 rfl (she_it hp2).1 ?_
      refine r_iload dX3_takeBricks_106 3 rfl ?_
      obtain ⟨c15, h⟩ := of_ck h
      refine r_iald dX3_takeBricks_108 (she_it (M := M) hp2).2 c15 ?_
      obtain ⟨M17, hc16, h⟩ := of_bd1 h
      refine r_callVV (st := []) dX3_takeBricks_109 v_X3_48 (run_X3_put hp0 hc16) (by decide) (by decide) hp0 rfl (Nat.le_of_ble_eq_true rfl) rfl ?_
      refine r_iinc (lv2 := [(5, vI (x5 + 1)), (0, vR p0), (1, vR 1), (2, vR p2)]) dX3_takeBricks_112 3 rfl (by decide) rfl ?_
      refine r_goto (tgt := 91) dX3_takeBricks_115 (by decide) ?_
      refine r_sub (lv2 := [(0, vR p0), (1, vR 1), (2, vR p2), (5, vI (x5 + 1))]) [1, 2, 3, 0] rfl ?_
      cases h
      exact ih _ _  _ (k1 _ rfl) hX

set_option maxRecDepth 10000 in
theorem run_X3_takeBricks {M : Mem} {M2 : Mem} {a0 : Nat} {a2 : Nat} {r : Bool}  (ha0 : (ly a0).1 = 8) (ha2 : (ly a2).1 = 11) (h : m_X3_takeBricks M a0 a2 = some (r, M2)) : RunI 3 yX3_takeBricks cX3_takeBricks 9 (some .boolean) [vR a0, vR 1, vR a2] M (bI r) M2 := by
  refine runI_of (lv := [(0, vR a0), (1, vR 1), (2, vR a2)]) (by decide +kernel) (Or.inr ⟨rfl, bI_01 r⟩) (Nat.le_of_ble_eq_true rfl) rfl ?_
  intro G hQ
  unfold m_X3_takeBricks at h
  refine r_lconst (v := 0) dX3_takeBricks_0 rfl ?_
  refine r_lstore_n (lv2 := [(3, vL (0 : Int64)), (0, vR a0), (1, vR 1), (2, vR a2)]) dX3_takeBricks_1 rfl (by decide) rfl ?_
  refine r_iconst dX3_takeBricks_2 ?_
  refine r_istore (lv2 := [(5, vI 0), (3, vL (0 : Int64)), (0, vR a0), (1, vR 1), (2, vR a2)]) dX3_takeBricks_3 (by decide) rfl ?_
  obtain ⟨w9, h9, h⟩ := of_be2 h
  refine r_sub (lv2 := [(0, vR a0), (1, vR 1), (2, vR a2), (3, vL (0 : Int64)), (5, vI 0)]) [2, 3, 4, 1, 0] rfl ?_
  refine lp_X3_takeBricks_L5 M a0 a2 ha0 ha2 (fun w => w = w9) ?_ ?_ FU (0 : Int64) 0 w9 h9 rfl
  · intro y9 y10 hw
    subst hw
    have h := h.1 _ _  rfl
    refine r_iconst dX3_takeBricks_73 ?_
    refine r_aload_n dX3_takeBricks_74 rfl 2 rfl ?_
    refine r_getI (j := 2) (jz := 2) dX3_takeBricks_75 f_X3_31 ha2 rfl rfl ?_
    refine r_imul dX3_takeBricks_78 ?_
    refine r_aload_n dX3_takeBricks_79 rfl 1 rfl ?_
    obtain ⟨r12, hc11, h⟩ := of_bd1 h
    refine r_callVI (st := [vI (2 * (gI M a2 2))]) dX3_takeBricks_80 v_X3_44 (run_X10_openCells hc11) (by decide) (by decide) rfl rfl (Nat.le_of_ble_eq_true rfl) rfl ?_
    by_cases c13 : wr (2 * (gI M a2 2)) = wr r12
    · rw [if_pos c13] at h
      refine r_icmp_eq (tgt := 88) dX3_takeBricks_83 (by decide) (fun _ => ?_) (fun q => absurd c13 q)
      refine r_iconst dX3_takeBricks_88 ?_
      refine r_istore (lv2 := [(5, vI 0), (0, vR a0), (1, vR 1), (2, vR a2), (3, vL y9)]) dX3_takeBricks_89 (by decide) rfl ?_
      obtain ⟨y18, M19, h9, h⟩ := of_bd2 h
      refine r_sub (lv2 := [(0, vR a0), (1, vR 1), (2, vR a2), (5, vI 0)]) [1, 2, 3, 0] rfl ?_
      refine lp_X3_takeBricks_L91 a0 a2 ha0 ha2 (fun w => w = (y18, M19)) ?_ FU 0 M _ h9 rfl
      intro z0 z1 hw
      cases hw
      refine r_aload_n dX3_takeBricks_118 rfl 0 rfl ?_
      refine r_iconst dX3_takeBricks_119 ?_
      obtain ⟨M20, eM20, h⟩ := of_lt h
      refine r_putI (j := 0) (jz := 0) dX3_takeBricks_120 p_X3_21 ha0 rfl rfl rfl rfl ?_
      rw [← eM20]
      refine r_iconst dX3_takeBricks_123 ?_
      cases h
      exact hQ _ _ dX3_takeBricks_124
    · rw [if_neg c13] at h
      refine r_icmp_eq (tgt := 88) dX3_takeBricks_83 (by decide) (fun q => absurd q c13) (fun _ => ?_)
      refine r_iconst dX3_takeBricks_86 ?_
      cases h
      exact hQ _ _ dX3_takeBricks_87
  · intro r9 M9 hw
    subst hw
    have h := h.2 _ rfl
    cases h
    exact hQ

def m_X3_startsAt (M : Mem) (a0 : Nat) (a2 : Int) : Option (Bool) :=
  if 0 ≤ wr a2 ∧ wr a2 < 64 then
  lt (if wr (gI M 2 (wr a2)) = 0 then 0 else (if wr (idv (gI M (a0 + 1) (wr a2)) 2) = wr a2 then 1 else 0)) fun (v4 : Int) =>
  if v4 = 0 ∨ v4 = 1 then some (decide (v4 = 1)) else none
  else none
set_option maxRecDepth 10000 in
theorem run_X3_startsAt {M : Mem} {a0 : Nat} {a2 : Int} {r : Bool}  (ha0 : (ly a0).1 = 8) (h : m_X3_startsAt M a0 a2 = some r) : RunI 0 yX3_startsAt cX3_startsAt 3 (some .boolean) [vR a0, vR 1, vI a2] M (bI r) M := by
  refine runI_of (lv := [(0, vR a0), (1, vR 1), (2, vI a2)]) (by decide +kernel) (Or.inr ⟨rfl, bI_01 r⟩) (Nat.le_of_ble_eq_true rfl) rfl ?_
  intro G hQ
  unfold m_X3_startsAt at h
  refine r_aload_n dX3_startsAt_0 rfl 1 rfl ?_
  refine r_getR (j := 2) (v := 2) dX3_startsAt_1 f_X3_52 rfl rfl rfl ?_
  refine r_iload_n dX3_startsAt_4 rfl 2 rfl ?_
  obtain ⟨c1, h⟩ := of_ck h
  refine r_zald dX3_startsAt_5 rfl c1 ?_
  obtain ⟨v4, ev4, h⟩ := of_lt h
  have kJ : Ex G 0 cX3_startsAt RX3 3 26 [] [vI v4] M := by
    obtain ⟨cz, h⟩ := of_ck h
    rw [← bI_dec cz]
    cases h
    exact hQ _ _ dX3_startsAt_26
  clear h
  by_cases c2 : wr (gI M 2 (wr a2)) = 0
  · skip
    refine r_if_eq (tgt := 25) dX3_startsAt_6 (by decide) (fun _ => ?_) (fun q => absurd c2 q)
    refine r_iconst dX3_startsAt_25 ?_
    rw [show v4 = 0 from by rw [ev4, if_pos c2]] at kJ
    refine r_sub (lv2 := []) [] rfl ?_
    exact kJ
  · skip
    refine r_if_eq (tgt := 25) dX3_startsAt_6 (by decide) (fun q => absurd q c2) (fun _ => ?_)
    refine r_aload_n dX3_startsAt_9 rfl 0 rfl ?_
    refine r_getR (j := 1) (v := (a0 + 1)) dX3_startsAt_10 f_X3_9 ha0 rfl (pav_on ha0).1 ?_
    refine r_iload_n dX3_startsAt_13 rfl 2 rfl ?_
    refine r_iald dX3_startsAt_14 (pav_on (M := M) ha0).2 c1 ?_
    refine r_iconst dX3_startsAt_15 ?_
    refine r_idiv dX3_startsAt_16 (by decide) ?_
    refine r_iload_n dX3_startsAt_17 rfl 2 rfl ?_
    by_cases c3 : wr (idv (gI M (a0 + 1) (wr a2)) 2) = wr a2
    · skip
      refine r_icmp_ne (tgt := 25) dX3_startsAt_18 (by decide) (fun q => absurd c3 q) (fun _ => ?_)
      refine r_iconst dX3_startsAt_21 ?_
      refine r_goto (tgt := 26) dX3_startsAt_22 (by decide) ?_
      rw [show v4 = 1 from by rw [ev4, if_neg c2, if_pos c3]] at kJ
      refine r_sub (lv2 := []) [] rfl ?_
      exact kJ
    · skip
      refine r_icmp_ne (tgt := 25) dX3_startsAt_18 (by decide) (fun _ => ?_) (fun q => absurd q c3)
      refine r_iconst dX3_startsAt_25 ?_
      rw [show v4 = 0 from by rw [ev4, if_neg c2, if_neg c3]] at kJ
      refine r_sub (lv2 := []) [] rfl ?_
      exact kJ

def m_X3_sumOfPrices_L4 (M : Mem) (p0 : Nat) (x2 : Int) (x3 : Int) : Option ((Int × Int) ⊕ (Int × Int)) :=
  if wr (m_X10_cells M) ≤ wr x3 then
    some (.inr (x2, x3))
  else
    bd1 (m_X3_startsAt M p0 x3) fun b3 =>
    bd1 (
      if wr (bI b3) = 0 then
        some (x2)
      else
        if 0 ≤ wr x3 ∧ wr x3 < 64 then
        if 0 ≤ wr (gI M (p0 + 1) (wr x3)) ∧ wr (gI M (p0 + 1) (wr x3)) < 128 then
        some ((x2 + (gI M 4 (wr (gI M (p0 + 1) (wr x3))))))
        else none
        else none) fun (v7 : Int) =>
    some (.inl (v7, (x3 + 1)))
def m_X3_sumOfPrices (M : Mem) (a0 : Nat) : Option (Int) :=
  bd2 (itr (fun s => m_X3_sumOfPrices_L4 M a0 s.1 s.2) FU (0, 0)) fun y8 y9 =>
  some y8
set_option maxRecDepth 10000 in
theorem lp_X3_sumOfPrices_L4 {G : Gx} (M : Mem) (p0 : Nat)  (hp0 : (ly p0).1 = 8) (X : (Int × Int) → Prop) (hX1 : ∀ (x2 : Int) (x3 : Int), X (x2, x3) → Ex G 1 cX3_sumOfPrices RX3 4 41 [(0, vR p0), (1, vR 1), (2, vI x2), (3, vI x3)] [] M) : ∀ (nn : Nat) (x2 : Int) (x3 : Int) (out : Int × Int), itr (fun s => m_X3_sumOfPrices_L4 M p0 s.1 s.2) nn (x2, x3) = some out → X out → Ex G 1 cX3_sumOfPrices RX3 4 4 [(0, vR p0), (1, vR 1), (2, vI x2), (3, vI x3)] [] M := by
  intro nn
  induction nn with
  | zero =>
    intro x2 x3 out h _
    cases h
  | succ nn ih =>
    intro x2 x3 out h0 hX
    obtain ⟨w, h, k1, k2⟩ := itr_inv h0
    have h : m_X3_sumOfPrices_L4 M p0 x2 x3 = some w := h
    unfold m_X3_sumOfPrices_L4 at h
    refine r_iload_n dX3_sumOfPrices_4 rfl 3 rfl ?_
    refine r_aload_n dX3_sumOfPrices_5 rfl 1 rfl ?_
    refine r_callVI (st := [vI x3]) dX3_sumOfPrices_6 v_X3_56 (run_X10_cells rfl) (by decide) (by decide) rfl rfl (Nat.le_of_ble_eq_true rfl) rfl ?_
    by_cases c1 : wr (m_X10_cells M) ≤ wr x3
    · rw [if_pos c1] at h
      refine r_icmp_ge (tgt := 41) dX3_sumOfPrices_9 (by decide) (fun _ => ?_) (fun q => absurd c1 q)
      cases h
      cases k2 _ rfl
      exact hX1 _ _ hX
    · rw [if_neg c1] at h
      refine r_icmp_ge (tgt := 41) dX3_sumOfPrices_9 (by decide) (fun q => absurd q c1) (fun _ => ?_)
      refine r_aload_n dX3_sumOfPrices_12 rfl 0 rfl ?_
      refine r_aload_n dX3_sumOfPrices_13 rfl 1 rfl ?_
      refine r_iload_n dX3_sumOfPrices_14 rfl 3 rfl ?_
      obtain ⟨b3, hc2, h⟩ := of_bd1 h
      refine r_callVI (st := []) dX3_sumOfPrices_15 v_X3_59 (run_X3_startsAt hp0 hc2) (by decide) (by decide) hp0 rfl (Nat.le_of_ble_eq_true rfl) rfl ?_
      obtain ⟨v7, h9, h⟩ := of_bd1 h
      have kJ : Ex G 1 cX3_sumOfPrices RX3 4 35 [(0, vR p0), (1, vR 1), (2, vI v7), (3, vI x3)] [] M := by
        refine r_iinc (lv2 := [(3, vI (x3 + 1)), (0, vR p0), (1, vR 1), (2, vI v7)]) dX3_sumOfPrices_35 3 rfl (by decide) rfl ?_
        refine r_goto (tgt := 4) dX3_sumOfPrices_38 (by decide) ?_
        refine r_sub (lv2 := [(0, vR p0), (1, vR 1), (2, vI v7), (3, vI (x3 + 1))]) [1, 2, 3, 0] rfl ?_
        cases h
        exact ih _ _  _ (k1 _ rfl) hX
      clear h
      have h := h9
      clear h9
      by_cases c4 : wr (bI b3) = 0
      · rw [if_pos c4] at h
        refine r_if_eq (tgt := 35) dX3_sumOfPrices_18 (by decide) (fun _ => ?_) (fun q => absurd c4 q)
        cases h
        exact kJ
      · rw [if_neg c4] at h
        refine r_if_eq (tgt := 35) dX3_sumOfPrices_18 (by decide) (fun q => absurd q c4) (fun _ => ?_)
        refine r_iload_n dX3_sumOfPrices_21 rfl 2 rfl ?_
        refine r_aload_n dX3_sumOfPrices_22 rfl 1 rfl ?_
        refine r_getR (j := 4) (v := 4) dX3_sumOfPrices_23 f_X3_63 rfl rfl rfl ?_
        refine r_aload_n dX3_sumOfPrices_26 rfl 0 rfl ?_
        refine r_getR (j := 1) (v := (p0 + 1)) dX3_sumOfPrices_27 f_X3_9 hp0 rfl (pav_on hp0).1 ?_
        refine r_iload_n dX3_sumOfPrices_30 rfl 3 rfl ?_
        obtain ⟨c5, h⟩ := of_ck h
        refine r_iald dX3_sumOfPrices_31 (pav_on (M := M) hp0).2 c5 ?_
        obtain ⟨c6, h⟩ := of_ck h
        refine r_iald dX3_sumOfPrices_32 rfl c6 ?_
        refine r_iadd dX3_sumOfPrices_33 ?_
        refine r_istore_n (lv2 := [(2, vI (x2 + (gI M 4 (wr (gI M (p0 + 1) (wr x3)))))), (0, vR p0), (1, vR 1), (3, vI x3)]) dX3_sumOfPrices_34 rfl (by decide) rfl ?_
        refine r_sub (lv2 := [(0, vR p0), (1, vR 1), (2, vI (x2 + (gI M 4 (wr (gI M (p0 + 1) (wr x3)))))), (3, vI x3)]) [1, 2, 0, 3] rfl ?_
        cases h
        exact kJ

set_option maxRecDepth 10000 in
theorem run_X3_sumOfPrices {M : Mem} {a0 : Nat} {r : Int}  (ha0 : (ly a0).1 = 8) (h : m_X3_sumOfPrices M a0 = some r) : RunI 1 yX3_sumOfPrices cX3_sumOfPrices 4 (some .int) [vR a0, vR 1] M r M := by
  refine runI_of (lv := [(0, vR a0), (1, vR 1)]) (by decide +kernel) (Or.inl rfl) (Nat.le_of_ble_eq_true rfl) rfl ?_
  intro G hQ
  unfold m_X3_sumOfPrices at h
  refine r_iconst dX3_sumOfPrices_0 ?_
  refine r_istore_n (lv2 := [(2, vI 0), (0, vR a0), (1, vR 1)]) dX3_sumOfPrices_1 rfl (by decide) rfl ?_
  refine r_iconst dX3_sumOfPrices_2 ?_
  refine r_istore_n (lv2 := [(3, vI 0), (2, vI 0), (0, vR a0), (1, vR 1)]) dX3_sumOfPrices_3 rfl (by decide) rfl ?_
  obtain ⟨y8, y9, h9, h⟩ := of_bd2 h
  refine r_sub (lv2 := [(0, vR a0), (1, vR 1), (2, vI 0), (3, vI 0)]) [2, 3, 1, 0] rfl ?_
  refine lp_X3_sumOfPrices_L4 M a0 ha0 (fun w => w = (y8, y9)) ?_ FU 0 0 _ h9 rfl
  intro z0 z1 hw
  cases hw
  refine r_iload_n dX3_sumOfPrices_41 rfl 2 rfl ?_
  cases h
  exact hQ _ _ dX3_sumOfPrices_42

def m_X3_linesNotCrossed_L11 (M : Mem) (p0 : Nat) (x2 : Int) (x3 : Int) : Option ((Int × Int) ⊕ (Int × Int)) :=
  if wr (m_X10_cells M) ≤ wr x3 then
    some (.inr (x2, x3))
  else
    bd1 (m_X3_startsAt M p0 x3) fun b3 =>
    bd1 (
      if wr (bI b3) = 0 then
        some (x2)
      else
        if 0 ≤ wr x3 ∧ wr x3 < 64 then
        if wr (irm (gI M (p0 + 1) (wr x3)) 2) = 0 then
          bd1 (m_X10_column M x3) fun r8 =>
          some ((iand x2 (ixor (shl 2 r8) (-1))))
        else
          some (x2)
        else none) fun (v9 : Int) =>
    some (.inl (v9, (x3 + 1)))
def m_X3_linesNotCrossed (M : Mem) (a0 : Nat) : Option (Int) :=
  bd2 (itr (fun s => m_X3_linesNotCrossed_L11 M a0 s.1 s.2) FU (((shl 1 (gI M 1 0)) - 2), 0)) fun y10 y11 =>
  some y10
set_option maxRecDepth 10000 in
theorem lp_X3_linesNotCrossed_L11 {G : Gx} (M : Mem) (p0 : Nat)  (hp0 : (ly p0).1 = 8) (X : (Int × Int) → Prop) (hX1 : ∀ (x2 : Int) (x3 : Int), X (x2, x3) → Ex G 1 cX3_linesNotCrossed RX3 4 57 [(0, vR p0), (1, vR 1), (2, vI x2), (3, vI x3)] [] M) : ∀ (nn : Nat) (x2 : Int) (x3 : Int) (out : Int × Int), itr (fun s => m_X3_linesNotCrossed_L11 M p0 s.1 s.2) nn (x2, x3) = some out → X out → Ex G 1 cX3_linesNotCrossed RX3 4 11 [(0, vR p0), (1, vR 1), (2, vI x2), (3, vI x3)] [] M := by
  intro nn
  induction nn with
  | zero =>
    intro x2 x3 out h _
    cases h
  | succ nn ih =>
    intro x2 x3 out h0 hX
    obtain ⟨w, h, k1, k2⟩ := itr_inv h0
    have h : m_X3_linesNotCrossed_L11 M p0 x2 x3 = some w := h
    unfold m_X3_linesNotCrossed_L11 at h
    refine r_iload_n dX3_linesNotCrossed_11 rfl 3 rfl ?_
    refine r_aload_n dX3_linesNotCrossed_12 rfl 1 rfl ?_
    refine r_callVI (st := [vI x3]) dX3_linesNotCrossed_13 v_X3_56 (run_X10_cells rfl) (by decide) (by decide) rfl rfl (Nat.le_of_ble_eq_true rfl) rfl ?_
    by_cases c1 : wr (m_X10_cells M) ≤ wr x3
    · rw [if_pos c1] at h
      refine r_icmp_ge (tgt := 57) dX3_linesNotCrossed_16 (by decide) (fun _ => ?_) (fun q => absurd c1 q)
      cases h
      cases k2 _ rfl
      exact hX1 _ _ hX
    · rw [if_neg c1] at h
      refine r_icmp_ge (tgt := 57) dX3_linesNotCrossed_16 (by decide) (fun q => absurd q c1) (fun _ => ?_)
      refine r_aload_n dX3_linesNotCrossed_19 rfl 0 rfl ?_
      refine r_aload_n dX3_linesNotCrossed_20 rfl 1 rfl ?_
      refine r_iload_n dX3_linesNotCrossed_21 rfl 3 rfl ?_
      obtain ⟨b3, hc2, h⟩ := of_bd1 h
      refine r_callVI (st := []) dX3_linesNotCrossed_22 v_X3_59 (run_X3_startsAt hp0 hc2) (by decide) (by decide) hp0 rfl (Nat.le_of_ble_eq_true rfl) rfl ?_
      obtain ⟨v9, h9, h⟩ := of_bd1 h
      have kJ : Ex G 1 cX3_linesNotCrossed RX3 4 51 [(0, vR p0), (1, vR 1), (2, vI v9), (3, vI x3)] [] M := by
        refine r_iinc (lv2 := [(3, vI (x3 + 1)), (0, vR p0), (1, vR 1), (2, vI v9)]) dX3_linesNotCrossed_51 3 rfl (by decide) rfl ?_
        refine r_goto (tgt := 11) dX3_linesNotCrossed_54 (by decide) ?_
        refine r_sub (lv2 := [(0, vR p0), (1, vR 1), (2, vI v9), (3, vI (x3 + 1))]) [1, 2, 3, 0] rfl ?_
        cases h
        exact ih _ _  _ (k1 _ rfl) hX
      clear h
      have h := h9
      clear h9
      by_cases c4 : wr (bI b3) = 0
      · rw [if_pos c4] at h
        refine r_if_eq (tgt := 51) dX3_linesNotCrossed_25 (by decide) (fun _ => ?_) (fun q => absurd c4 q)
        cases h
        exact kJ
      · rw [if_neg c4] at h
        refine r_if_eq (tgt := 51) dX3_linesNotCrossed_25 (by decide) (fun q => absurd q c4) (fun _ => ?_)
        refine r_aload_n dX3_linesNotCrossed_28 rfl 0 rfl ?_
        refine r_getR (j := 1) (v := (p0 + 1)) dX3_linesNotCrossed_29 f_X3_9 hp0 rfl (pav_on hp0).1 ?_
        refine r_iload_n dX3_linesNotCrossed_32 rfl 3 rfl ?_
        obtain ⟨c5, h⟩ := of_ck h
        refine r_iald dX3_linesNotCrossed_33 (pav_on (M := M) hp0).2 c5 ?_
        refine r_iconst dX3_linesNotCrossed_34 ?_
        refine r_irem dX3_linesNotCrossed_35 (by decide) ?_
        by_cases c6 : wr (irm (gI M (p0 + 1) (wr x3)) 2) = 0
        · rw [if_pos c6] at h
          refine r_if_ne (tgt := 51) dX3_linesNotCrossed_36 (by decide) (fun q => absurd c6 q) (fun _ => ?_)
          refine r_iload_n dX3_linesNotCrossed_39 rfl 2 rfl ?_
          refine r_iconst dX3_linesNotCrossed_40 ?_
          refine r_aload_n dX3_linesNotCrossed_41 rfl 1 rfl ?_
          refine r_iload_n dX3_linesNotCrossed_42 rfl 3 rfl ?_
          obtain ⟨r8, hc7, h⟩ := of_bd1 h
          refine r_callVI (st := [vI 2, vI x2]) dX3_linesNotCrossed_43 v_X3_69 (run_X10_column hc7) (by decide) (by decide) rfl rfl (Nat.le_of_ble_eq_true rfl) rfl ?_
          refine r_ishl dX3_linesNotCrossed_46 ?_
          refine r_iconst dX3_linesNotCrossed_47 ?_
          refine r_ixor dX3_linesNotCrossed_48 ?_
          refine r_iand dX3_linesNotCrossed_49 ?_
          refine r_istore_n (lv2 := [(2, vI (iand x2 (ixor (shl 2 r8) (-1)))), (0, vR p0), (1, vR 1), (3, vI x3)]) dX3_linesNotCrossed_50 rfl (by decide) rfl ?_
          refine r_sub (lv2 := [(0, vR p0), (1, vR 1), (2, vI (iand x2 (ixor (shl 2 r8) (-1)))), (3, vI x3)]) [1, 2, 0, 3] rfl ?_
          cases h
          exact kJ
        · rw [if_neg c6] at h
          refine r_if_ne (tgt := 51) dX3_linesNotCrossed_36 (by decide) (fun _ => ?_) (fun q => absurd q c6)
          cases h
          exact kJ

set_option maxRecDepth 10000 in
theorem run_X3_linesNotCrossed {M : Mem} {a0 : Nat} {r : Int}  (ha0 : (ly a0).1 = 8) (h : m_X3_linesNotCrossed M a0 = some r) : RunI 1 yX3_linesNotCrossed cX3_linesNotCrossed 4 (some .int) [vR a0, vR 1] M r M := by
  refine runI_of (lv := [(0, vR a0), (1, vR 1)]) (by decide +kernel) (Or.inl rfl) (Nat.le_of_ble_eq_true rfl) rfl ?_
  intro G hQ
  unfold m_X3_linesNotCrossed at h
  refine r_iconst dX3_linesNotCrossed_0 ?_
  refine r_aload_n dX3_linesNotCrossed_1 rfl 1 rfl ?_
  refine r_getI (j := 0) (jz := 0) dX3_linesNotCrossed_2 f_X3_66 rfl rfl rfl ?_
  refine r_ishl dX3_linesNotCrossed_5 ?_
  refine r_iconst dX3_linesNotCrossed_6 ?_
  refine r_isub dX3_linesNotCrossed_7 ?_
  refine r_istore_n (lv2 := [(2, vI ((shl 1 (gI M 1 0)) - 2)), (0, vR a0), (1, vR 1)]) dX3_linesNotCrossed_8 rfl (by decide) rfl ?_
  refine r_iconst dX3_linesNotCrossed_9 ?_
  refine r_istore_n (lv2 := [(3, vI 0), (2, vI ((shl 1 (gI M 1 0)) - 2)), (0, vR a0), (1, vR 1)]) dX3_linesNotCrossed_10 rfl (by decide) rfl ?_
  obtain ⟨y10, y11, h9, h⟩ := of_bd2 h
  refine r_sub (lv2 := [(0, vR a0), (1, vR 1), (2, vI ((shl 1 (gI M 1 0)) - 2)), (3, vI 0)]) [2, 3, 1, 0] rfl ?_
  refine lp_X3_linesNotCrossed_L11 M a0 ha0 (fun w => w = (y10, y11)) ?_ FU ((shl 1 (gI M 1 0)) - 2) 0 _ h9 rfl
  intro z0 z1 hw
  cases hw
  refine r_iload_n dX3_linesNotCrossed_57 rfl 2 rfl ?_
  cases h
  exact hQ _ _ dX3_linesNotCrossed_58

def m_X4_otherEnd (M : Mem) (a1 : Int) (a2 : Int) : Option (Int) :=
  bd1 (
    if wr (idv a1 2) = wr a2 then
      bd1 (m_X10_secondCell M a1) fun r3 =>
      some (r3)
    else
      some ((idv a1 2))) fun (v4 : Int) =>
  some v4
set_option maxRecDepth 10000 in
theorem run_X4_otherEnd {M : Mem} {a1 : Int} {a2 : Int} {r : Int}   (h : m_X4_otherEnd M a1 a2 = some r) : RunI 2 yX4_otherEnd cX4_otherEnd 3 (some .int) [vR 1, vI a1, vI a2] M r M := by
  refine runI_of (lv := [(0, vR 1), (1, vI a1), (2, vI a2)]) (by decide +kernel) (Or.inl rfl) (Nat.le_of_ble_eq_true rfl) rfl ?_
  intro G hQ
  unfold m_X4_otherEnd at h
  refine r_iload_n dX4_otherEnd_0 rfl 1 rfl ?_
  refine r_iconst dX4_otherEnd_1 ?_
  refine r_idiv dX4_otherEnd_2 (by decide) ?_
  refine r_iload_n dX4_otherEnd_3 rfl 2 rfl ?_
  obtain ⟨v4, h9, h⟩ := of_bd1 h
  have kJ : Ex G 2 cX4_otherEnd RX4 3 18 [] [vI v4] M := by
    cases h
    exact hQ _ _ dX4_otherEnd_18
  clear h
  have h := h9
  clear h9
  by_cases c1 : wr (idv a1 2) = wr a2
  · rw [if_pos c1] at h
    refine r_icmp_ne (tgt := 15) dX4_otherEnd_4 (by decide) (fun q => absurd c1 q) (fun _ => ?_)
    refine r_aload_n dX4_otherEnd_7 rfl 0 rfl ?_
    refine r_iload_n dX4_otherEnd_8 rfl 1 rfl ?_
    obtain ⟨r3, hc2, h⟩ := of_bd1 h
    refine r_callVI (st := []) dX4_otherEnd_9 v_X4_47 (run_X10_secondCell hc2) (by decide) (by decide) rfl rfl (Nat.le_of_ble_eq_true rfl) rfl ?_
    refine r_goto (tgt := 18) dX4_otherEnd_12 (by decide) ?_
    refine r_sub (lv2 := []) [] rfl ?_
    cases h
    exact kJ
  · rw [if_neg c1] at h
    refine r_icmp_ne (tgt := 15) dX4_otherEnd_4 (by decide) (fun _ => ?_) (fun q => absurd q c1)
    refine r_iload_n dX4_otherEnd_15 rfl 1 rfl ?_
    refine r_iconst dX4_otherEnd_16 ?_
    refine r_idiv dX4_otherEnd_17 (by decide) ?_
    refine r_sub (lv2 := []) [] rfl ?_
    cases h
    exact kJ

def m_X4_goRound_L10 (M : Mem) (p2 : Nat) (p3 : Nat) (p5 : Int) (x6 : Int) (x7 : Int) (x8 : Int) : Option ((Int × Int × Int × Mem) ⊕ (Int × Int × Int × Mem)) :=
  if wr 64 ≤ wr x8 then
    some (.inr (x6, x7, x8, M))
  else
    if wr x7 < 0 then
      some (.inr (x6, x7, x8, M))
    else
      if 0 ≤ wr x7 ∧ wr x7 < 64 then
      if 0 ≤ wr (gI M 36 (wr x7)) then
        some (.inr (x6, x7, x8, M))
      else
        lt (sI M 36 (wr x7) p5) fun M5 =>
        lt (if wr (irm x8 2) = 0 then (gI M5 (p2 + 1) (wr x7)) else (gI M5 (p3 + 1) (wr x7))) fun (v7 : Int) =>
        bd1 (m_X4_otherEnd M5 v7 x7) fun r9 =>
        some (.inl ((x6 + 1), r9, (x8 + 1), M5))
      else none
def m_X4_goRound (M : Mem) (a2 : Nat) (a3 : Nat) (a4 : Int) (a5 : Int) : Option (Int × Mem) :=
  bd4 (itr (fun s => m_X4_goRound_L10 s.2.2.2 a2 a3 a5 s.1 s.2.1 s.2.2.1) FU (0, a4, 0, M)) fun y10 y11 y12 M13 =>
  some (y10, M13)
set_option maxRecDepth 10000 in
theorem lp_X4_goRound_L10 {G : Gx} (p2 : Nat) (p3 : Nat) (p5 : Int)  (hp2 : (ly p2).1 = 8) (hp3 : (ly p3).1 = 8) (X : (Int × Int × Int × Mem) → Prop) (hX1 : ∀ (x6 : Int) (x7 : Int) (x8 : Int) (M : Mem), X (x6, x7, x8, M) → Ex G 3 cX4_goRound RX4 9 82 [(0, vR 34), (1, vR 1), (2, vR p2), (3, vR p3), (5, vI p5), (6, vI x6), (7, vI x7), (8, vI x8)] [] M) : ∀ (nn : Nat) (x6 : Int) (x7 : Int) (x8 : Int) (M : Mem) (out : Int × Int × Int × Mem), itr (fun s => m_X4_goRound_L10 s.2.2.2 p2 p3 p5 s.1 s.2.1 s.2.2.1) nn (x6, x7, x8, M) = some out → X out → Ex G 3 cX4_goRound RX4 9 10 [(0, vR 34), (1, vR 1), (2, vR p2), (3, vR p3), (5, vI p5), (6, vI x6), (7, vI x7), (8, vI x8)] [] M := by
  intro nn
  induction nn with
  | zero =>
    intro x6 x7 x8 M out h _
    cases h
  | succ nn ih =>
    intro x6 x7 x8 M out h0 hX
    obtain ⟨w, h, k1, k2⟩ := itr_inv h0
    have h : m_X4_goRound_L10 M p2 p3 p5 x6 x7 x8 = some w := h
    unfold m_X4_goRound_L10 at h
    refine r_iload dX4_goRound_10 7 rfl ?_
    refine r_bipush dX4_goRound_12 (by decide) ?_
    by_cases c1 : wr 64 ≤ wr x8
    · rw [if_pos c1] at h
      refine r_icmp_ge (tgt := 82) dX4_goRound_14 (by decide) (fun _ => ?_) (fun q => absurd c1 q)
      cases h
      cases k2 _ rfl
      exact hX1 _ _ _ _ hX
    · rw [if_neg c1] at h
      refine r_icmp_ge (tgt := 82) dX4_goRound_14 (by decide) (fun q => absurd q c1) (fun _ => ?_)
      refine r_iload dX4_goRound_17 6 rfl ?_
      by_cases c2 : wr x7 < 0
      · rw [if_pos c2] at h
        refine r_if_lt (tgt := 82) dX4_goRound_19 (by decide) (fun _ => ?_) (fun q => absurd c2 q)
        cases h
        cases k2 _ rfl
        exact hX1 _ _ _ _ hX
      · rw [if_neg c2] at h
        refine r_if_lt (tgt := 82) dX4_goRound_19 (by decide) (fun q => absurd q c2) (fun _ => ?_)
        refine r_aload_n dX4_goRound_22 rfl 0 rfl ?_
        refine r_getR (j := 1) (v := 36) dX4_goRound_23 f_X4_15 rfl rfl rfl ?_
        refine r_iload dX4_goRound_26 6 rfl ?_
        obtain ⟨c3, h⟩ := of_ck h
        refine r_iald dX4_goRound_28 rfl c3 ?_
        by_cases c4 : 0 ≤ wr (gI M 36 (wr x7))
        · rw [if_pos c4] at h
          refine r_if_ge (tgt := 82) dX4_goRound_29 (by decide) (fun _ => ?_) (fun q => absurd c4 q)
          cases h
          cases k2 _ rfl
          exact hX1 _ _ _ _ hX
        · rw [if_neg c4] at h
          refine r_if_ge (tgt := 82) dX4_goRound_29 (by decide) (fun q => absurd q c4) (fun _ => ?_)
          refine r_aload_n dX4_goRound_32 rfl 0 rfl ?_
          refine r_getR (j := 1) (v := 36) dX4_goRound_33 f_X4_15 rfl rfl rfl ?_
          refine r_iload dX4_goRound_36 6 rfl ?_
          refine r_iload dX4_goRound_38 4 rfl ?_
          obtain ⟨M5, eM5, h⟩ := of_lt h
          refine r_iast dX4_goRound_40 rfl c3 ?_
          rw [← eM5]
          refine r_iinc (lv2 := [(6, vI (x6 + 1)), (0, vR 34), (1, vR 1), (2, vR p2), (3, vR p3), (5, vI p5), (7, vI x7), (8, vI x8)]) dX4_goRound_41 5 rfl (by decide) rfl ?_
          refine r_aload_n dX4_goRound_44 rfl 2 rfl ?_
          refine r_iload dX4_goRound_45 7 rfl ?_
          refine r_iconst dX4_goRound_47 ?_
          refine r_irem dX4_goRound_48 (by decide) ?_
          obtain ⟨v7, ev7, h⟩ := of_lt h
          have kJ : Ex G 3 cX4_goRound RX4 9 69 [(0, vR 34), (1, vR 1), (2, vR p2), (3, vR p3), (5, vI p5), (6, vI (x6 + 1)), (7, vI x7), (8, vI x8)] [vI v7, vR 1] M5 := by
            refine r_iload dX4_goRound_69 6 rfl ?_
            obtain ⟨r9, hc8, h⟩ := of_bd1 h
            refine r_callSI (st := []) dX4_goRound_71 v_X4_43 (run_X4_otherEnd hc8) (by decide) (by decide) rfl (Nat.le_of_ble_eq_true rfl) rfl ?_
            refine r_istore (lv2 := [(7, vI r9), (0, vR 34), (1, vR 1), (2, vR p2), (3, vR p3), (5, vI p5), (6, vI (x6 + 1)), (8, vI x8)]) dX4_goRound_74 (by decide) rfl ?_
            refine r_iinc (lv2 := [(8, vI (x8 + 1)), (7, vI r9), (0, vR 34), (1, vR 1), (2, vR p2), (3, vR p3), (5, vI p5), (6, vI (x6 + 1))]) dX4_goRound_76 7 rfl (by decide) rfl ?_
            refine r_goto (tgt := 10) dX4_goRound_79 (by decide) ?_
            refine r_sub (lv2 := [(0, vR 34), (1, vR 1), (2, vR p2), (3, vR p3), (5, vI p5), (6, vI (x6 + 1)), (7, vI r9), (8, vI (x8 + 1))]) [2, 3, 4, 5, 6, 7, 1, 0] rfl ?_
            cases h
            exact ih _ _ _ _  _ (k1 _ rfl) hX
          clear h
          by_cases c6 : wr (irm x8 2) = 0
          · skip
            refine r_if_ne (tgt := 62) dX4_goRound_49 (by decide) (fun q => absurd c6 q) (fun _ => ?_)
            refine r_aload_n dX4_goRound_52 rfl 3 rfl ?_
            refine r_getR (j := 1) (v := (p2 + 1)) dX4_goRound_53 f_X4_34 hp2 rfl (pav_on hp2).1 ?_
            refine r_iload dX4_goRound_56 6 rfl ?_
            refine r_iald dX4_goRound_58 (pav_on (M := M5) hp2).2 c3 ?_
            refine r_goto (tgt := 69) dX4_goRound_59 (by decide) ?_
            rw [show v7 = (gI M5 (p2 + 1) (wr x7)) from by rw [ev7, if_pos c6]] at kJ
            refine r_sub (lv2 := [(0, vR 34), (1, vR 1), (2, vR p2), (3, vR p3), (5, vI p5), (6, vI (x6 + 1)), (7, vI x7), (8, vI x8)]) [1, 2, 3, 4, 5, 0, 6, 7] rfl ?_
            exact kJ
          · skip
            refine r_if_ne (tgt := 62) dX4_goRound_49 (by decide) (fun _ => ?_) (fun q => absurd q c6)
            refine r_aload_n dX4_goRound_62 rfl 4 rfl ?_
            refine r_getR (j := 1) (v := (p3 + 1)) dX4_goRound_63 f_X4_34 hp3 rfl (pav_on hp3).1 ?_
            refine r_iload dX4_goRound_66 6 rfl ?_
            refine r_iald dX4_goRound_68 (pav_on (M := M5) hp3).2 c3 ?_
            rw [show v7 = (gI M5 (p3 + 1) (wr x7)) from by rw [ev7, if_neg c6]] at kJ
            refine r_sub (lv2 := [(0, vR 34), (1, vR 1), (2, vR p2), (3, vR p3), (5, vI p5), (6, vI (x6 + 1)), (7, vI x7), (8, vI x8)]) [1, 2, 3, 4, 5, 0, 6, 7] rfl ?_
            exact kJ

set_option maxRecDepth 10000 in
theorem run_X4_goRound {M : Mem} {M2 : Mem} {a2 : Nat} {a3 : Nat} {a4 : Int} {a5 : Int} {r : Int}  (ha2 : (ly a2).1 = 8) (ha3 : (ly a3).1 = 8) (h : m_X4_goRound M a2 a3 a4 a5 = some (r, M2)) : RunI 3 yX4_goRound cX4_goRound 9 (some .int) [vR 34, vR 1, vR a2, vR a3, vI a4, vI a5] M r M2 := by
  refine runI_of (lv := [(0, vR 34), (1, vR 1), (2, vR a2), (3, vR a3), (4, vI a4), (5, vI a5)]) (by decide +kernel) (Or.inl rfl) (Nat.le_of_ble_eq_true rfl) rfl ?_
  intro G hQ
  unfold m_X4_goRound at h
  refine r_iconst dX4_goRound_0 ?_
  refine r_istore (lv2 := [(6, vI 0), (0, vR 34), (1, vR 1), (2, vR a2), (3, vR a3), (4, vI a4), (5, vI a5)]) dX4_goRound_1 (by decide) rfl ?_
  refine r_iload dX4_goRound_3 5 rfl ?_
  refine r_istore (lv2 := [(7, vI a4), (6, vI 0), (0, vR 34), (1, vR 1), (2, vR a2), (3, vR a3), (4, vI a4), (5, vI a5)]) dX4_goRound_5 (by decide) rfl ?_
  refine r_iconst dX4_goRound_7 ?_
  refine r_istore (lv2 := [(8, vI 0), (7, vI a4), (6, vI 0), (0, vR 34), (1, vR 1), (2, vR a2), (3, vR a3), (4, vI a4), (5, vI a5)]) dX4_goRound_8 (by decide) rfl ?_
  obtain ⟨y10, y11, y12, M13, h9, h⟩ := of_bd4 h
  refine r_sub (lv2 := [(0, vR 34), (1, vR 1), (2, vR a2), (3, vR a3), (5, vI a5), (6, vI 0), (7, vI a4), (8, vI 0)]) [3, 4, 5, 6, 8, 2, 1, 0] rfl ?_
  refine lp_X4_goRound_L10 a2 a3 a5 ha2 ha3 (fun w => w = (y10, y11, y12, M13)) ?_ FU 0 a4 0 M _ h9 rfl
  intro z0 z1 z2 z3 hw
  cases hw
  refine r_iload dX4_goRound_82 5 rfl ?_
  cases h
  exact hQ _ _ dX4_goRound_84

def m_X4_trace_L14 (M : Mem) (p2 : Nat) (p3 : Nat) (x4 : Int) (x5 : Int) : Option ((Int × Int × Mem) ⊕ (Int × Int × Mem)) :=
  if wr (m_X10_cells M) ≤ wr x5 then
    some (.inr (x4, x5, M))
  else
    if 0 ≤ wr x5 ∧ wr x5 < 64 then
    bd2 (
      if wr (gI M 2 (wr x5)) = 0 then
        some (x4, M)
      else
        if 0 ≤ wr (gI M 36 (wr x5)) then
          some (x4, M)
        else
          if wr (gI M (p2 + 1) (wr x5)) = wr (gI M (p3 + 1) (wr x5)) then
            some (x4, M)
          else
            bd2 (m_X4_goRound M p2 p3 x5 x4) fun r9 M10 =>
            if 0 ≤ wr x4 ∧ wr x4 < 64 then
            lt (sI M10 35 (wr x4) r9) fun M12 =>
            some ((x4 + 1), M12)
            else none) fun (v13 : Int) (M14 : Mem) =>
    some (.inl (v13, (x5 + 1), M14))
    else none
def m_X4_trace (M : Mem) (a2 : Nat) (a3 : Nat) : Option (Int × Mem) :=
  bd1 (m_J7_fill_53178 M 36 (-1)) fun M2 =>
  bd3 (itr (fun s => m_X4_trace_L14 s.2.2 a2 a3 s.1 s.2.1) FU (0, 0, M2)) fun y15 y16 M17 =>
  some (y15, M17)
set_option maxRecDepth 10000 in
theorem lp_X4_trace_L14 {G : Gx} (p2 : Nat) (p3 : Nat)  (hp2 : (ly p2).1 = 8) (hp3 : (ly p3).1 = 8) (X : (Int × Int × Mem) → Prop) (hX1 : ∀ (x4 : Int) (x5 : Int) (M : Mem), X (x4, x5, M) → Ex G 4 cX4_trace RX4 6 90 [(0, vR 34), (1, vR 1), (2, vR p2), (3, vR p3), (4, vI x4), (5, vI x5)] [] M) : ∀ (nn : Nat) (x4 : Int) (x5 : Int) (M : Mem) (out : Int × Int × Mem), itr (fun s => m_X4_trace_L14 s.2.2 p2 p3 s.1 s.2.1) nn (x4, x5, M) = some out → X out → Ex G 4 cX4_trace RX4 6 14 [(0, vR 34), (1, vR 1), (2, vR p2), (3, vR p3), (4, vI x4), (5, vI x5)] [] M := by
  intro nn
  induction nn with
  | zero =>
    intro x4 x5 M out h _
    cases h
  | succ nn ih =>
    intro x4 x5 M out h0 hX
    obtain ⟨w, h, k1, k2⟩ := itr_inv h0
    have h : m_X4_trace_L14 M p2 p3 x4 x5 = some w := h
    unfold m_X4_trace_L14 at h
    refine r_iload dX4_trace_14 5 rfl ?_
    refine r_aload_n dX4_trace_16 rfl 1 rfl ?_
    refine r_callVI (st := [vI x5]) dX4_trace_17 v_X4_24 (run_X10_cells rfl) (by decide) (by decide) rfl rfl (Nat.le_of_ble_eq_true rfl) rfl ?_
    by_cases c3 : wr (m_X10_cells M) ≤ wr x5
    · rw [if_pos c3] at h
      refine r_icmp_ge (tgt := 90) dX4_trace_20 (by decide) (fun _ => ?_) (fun q => absurd c3 q)
      cases h
      cases k2 _ rfl
      exact hX1 _ _ _ hX
    · rw [if_neg c3] at h
      refine r_icmp_ge (tgt := 90) dX4_trace_20 (by decide) (fun q => absurd q c3) (fun _ => ?_)
      refine r_aload_n dX4_trace_23 rfl 1 rfl ?_
      refine r_getR (j := 2) (v := 2) dX4_trace_24 f_X4_30 rfl rfl rfl ?_
      refine r_iload dX4_trace_27 5 rfl ?_
      obtain ⟨c4, h⟩ := of_ck h
      refine r_zald dX4_trace_29 rfl c4 ?_
      obtain ⟨v13, M14, h9, h⟩ := of_bd2 h
      have kJ : Ex G 4 cX4_trace RX4 6 84 [(0, vR 34), (1, vR 1), (2, vR p2), (3, vR p3), (4, vI v13), (5, vI x5)] [] M14 := by
        refine r_iinc (lv2 := [(5, vI (x5 + 1)), (0, vR 34), (1, vR 1), (2, vR p2), (3, vR p3), (4, vI v13)]) dX4_trace_84 5 rfl (by decide) rfl ?_
        refine r_goto (tgt := 14) dX4_trace_87 (by decide) ?_
        refine r_sub (lv2 := [(0, vR 34), (1, vR 1), (2, vR p2), (3, vR p3), (4, vI v13), (5, vI (x5 + 1))]) [1, 2, 3, 4, 5, 0] rfl ?_
        cases h
        exact ih _ _ _  _ (k1 _ rfl) hX
      clear h
      have h := h9
      clear h9
      by_cases c5 : wr (gI M 2 (wr x5)) = 0
      · rw [if_pos c5] at h
        refine r_if_eq (tgt := 84) dX4_trace_30 (by decide) (fun _ => ?_) (fun q => absurd c5 q)
        cases h
        exact kJ
      · rw [if_neg c5] at h
        refine r_if_eq (tgt := 84) dX4_trace_30 (by decide) (fun q => absurd q c5) (fun _ => ?_)
        refine r_aload_n dX4_trace_33 rfl 0 rfl ?_
        refine r_getR (j := 1) (v := 36) dX4_trace_34 f_X4_15 rfl rfl rfl ?_
        refine r_iload dX4_trace_37 5 rfl ?_
        refine r_iald dX4_trace_39 rfl c4 ?_
        by_cases c6 : 0 ≤ wr (gI M 36 (wr x5))
        · rw [if_pos c6] at h
          refine r_if_ge (tgt := 84) dX4_trace_40 (by decide) (fun _ => ?_) (fun q => absurd c6 q)
          cases h
          exact kJ
        · rw [if_neg c6] at h
          refine r_if_ge (tgt := 84) dX4_trace_40 (by decide) (fun q => absurd q c6) (fun _ => ?_)
          refine r_aload_n dX4_trace_43 rfl 2 rfl ?_
          refine r_getR (j := 1) (v := (p2 + 1)) dX4_trace_44 f_X4_34 hp2 rfl (pav_on hp2).1 ?_
          refine r_iload dX4_trace_47 5 rfl ?_
          refine r_iald dX4_trace_49 (pav_on (M := M) hp2).2 c4 ?_
          refine r_aload_n dX4_trace_50 rfl 3 rfl ?_
          refine r_getR (j := 1) (v := (p3 + 1)) dX4_trace_51 f_X4_34 hp3 rfl (pav_on hp3).1 ?_
          refine r_iload dX4_trace_54 5 rfl ?_
          refine r_iald dX4_trace_56 (pav_on (M := M) hp3).2 c4 ?_
          by_cases c7 : wr (gI M (p2 + 1) (wr x5)) = wr (gI M (p3 + 1) (wr x5))
          · rw [if_pos c7] at h
            refine r_icmp_ne (tgt := 63) dX4_trace_57 (by decide) (fun q => absurd c7 q) (fun _ => ?_)
            refine r_goto (tgt := 84) dX4_trace_60 (by decide) ?_
            cases h
            exact kJ
          · rw [if_neg c7] at h
            refine r_icmp_ne (tgt := 63) dX4_trace_57 (by decide) (fun _ => ?_) (fun q => absurd q c7)
            refine r_aload_n dX4_trace_63 rfl 0 rfl ?_
            refine r_getR (j := 0) (v := 35) dX4_trace_64 f_X4_9 rfl rfl rfl ?_
            refine r_iload dX4_trace_67 4 rfl ?_
            refine r_aload_n dX4_trace_69 rfl 0 rfl ?_
            refine r_aload_n dX4_trace_70 rfl 1 rfl ?_
            refine r_aload_n dX4_trace_71 rfl 2 rfl ?_
            refine r_aload_n dX4_trace_72 rfl 3 rfl ?_
            refine r_iload dX4_trace_73 5 rfl ?_
            refine r_iload dX4_trace_75 4 rfl ?_
            obtain ⟨r9, M10, hc8, h⟩ := of_bd2 h
            refine r_callVI (st := [vI x4, vR 35]) dX4_trace_77 v_X4_39 (run_X4_goRound hp2 hp3 hc8) (by decide) (by decide) rfl rfl (Nat.le_of_ble_eq_true rfl) rfl ?_
            obtain ⟨c11, h⟩ := of_ck h
            obtain ⟨M12, eM12, h⟩ := of_lt h
            refine r_iast dX4_trace_80 rfl c11 ?_
            rw [← eM12]
            refine r_iinc (lv2 := [(4, vI (x4 + 1)), (0, vR 34), (1, vR 1), (2, vR p2), (3, vR p3), (5, vI x5)]) dX4_trace_81 4 rfl (by decide) rfl ?_
            refine r_sub (lv2 := [(0, vR 34), (1, vR 1), (2, vR p2), (3, vR p3), (4, vI (x4 + 1)), (5, vI x5)]) [1, 2, 3, 4, 0, 5] rfl ?_
            cases h
            exact kJ

set_option maxRecDepth 10000 in
theorem run_X4_trace {M : Mem} {M2 : Mem} {a2 : Nat} {a3 : Nat} {r : Int}  (ha2 : (ly a2).1 = 8) (ha3 : (ly a3).1 = 8) (h : m_X4_trace M a2 a3 = some (r, M2)) : RunI 4 yX4_trace cX4_trace 6 (some .int) [vR 34, vR 1, vR a2, vR a3] M r M2 := by
  refine runI_of (lv := [(0, vR 34), (1, vR 1), (2, vR a2), (3, vR a3)]) (by decide +kernel) (Or.inl rfl) (Nat.le_of_ble_eq_true rfl) rfl ?_
  intro G hQ
  unfold m_X4_trace at h
  refine r_iconst dX4_trace_0 ?_
  refine r_istore (lv2 := [(4, vI 0), (0, vR 34), (1, vR 1), (2, vR a2), (3, vR a3)]) dX4_trace_1 (by decide) rfl ?_
  refine r_aload_n dX4_trace_3 rfl 1 rfl ?_
  refine r_getR (j := 1) (v := 36) dX4_trace_4 f_X4_15 rfl rfl rfl ?_
  refine r_iconst dX4_trace_7 ?_
  obtain ⟨M2, hc1, h⟩ := of_bd1 h
  refine r_callSV (st := []) dX4_trace_8 v_X4_18 (run_J7_fill_53178 (congrArg Prod.fst rfl) hc1) (by decide) (by decide) rfl (Nat.le_of_ble_eq_true rfl) rfl ?_
  refine r_iconst dX4_trace_11 ?_
  refine r_istore (lv2 := [(5, vI 0), (4, vI 0), (0, vR 34), (1, vR 1), (2, vR a2), (3, vR a3)]) dX4_trace_12 (by decide) rfl ?_
  obtain ⟨y15, y16, M17, h9, h⟩ := of_bd3 h
  refine r_sub (lv2 := [(0, vR 34), (1, vR 1), (2, vR a2), (3, vR a3), (4, vI 0), (5, vI 0)]) [2, 3, 4, 5, 1, 0] rfl ?_
  refine lp_X4_trace_L14 a2 a3 ha2 ha3 (fun w => w = (y15, y16, M17)) ?_ FU 0 0 M2 _ h9 rfl
  intro z0 z1 z2 hw
  cases hw
  refine r_iload dX4_trace_90 4 rfl ?_
  cases h
  exact hQ _ _ dX4_trace_92

def m_X4_takeOver_L3 (M : Mem) (p2 : Nat) (p3 : Nat) (p4 : Int) (x5 : Int) : Option ((Int × Mem) ⊕ (Int × Mem)) :=
  if wr (m_X10_cells M) ≤ wr x5 then
    some (.inr (x5, M))
  else
    if 0 ≤ wr x5 ∧ wr x5 < 64 then
    bd1 (
      if wr (gI M 36 (wr x5)) = wr p4 then
        lt (sI M (p2 + 1) (wr x5) (gI M (p3 + 1) (wr x5))) fun M4 =>
        some (M4)
      else
        some (M)) fun (M5 : Mem) =>
    some (.inl ((x5 + 1), M5))
    else none
def m_X4_takeOver (M : Mem) (a2 : Nat) (a3 : Nat) (a4 : Int) : Option (Mem) :=
  bd2 (itr (fun s => m_X4_takeOver_L3 s.2 a2 a3 a4 s.1) FU (0, M)) fun y6 M7 =>
  some M7
set_option maxRecDepth 10000 in
theorem lp_X4_takeOver_L3 {G : Gx} (p2 : Nat) (p3 : Nat) (p4 : Int)  (hp2 : (ly p2).1 = 8) (hp3 : (ly p3).1 = 8) (X : (Int × Mem) → Prop) (hX1 : ∀ (x5 : Int) (M : Mem), X (x5, M) → Ex G 1 cX4_takeOver RX4 6 44 [(0, vR 34), (1, vR 1), (2, vR p2), (3, vR p3), (4, vI p4), (5, vI x5)] [] M) : ∀ (nn : Nat) (x5 : Int) (M : Mem) (out : Int × Mem), itr (fun s => m_X4_takeOver_L3 s.2 p2 p3 p4 s.1) nn (x5, M) = some out → X out → Ex G 1 cX4_takeOver RX4 6 3 [(0, vR 34), (1, vR 1), (2, vR p2), (3, vR p3), (4, vI p4), (5, vI x5)] [] M := by
  intro nn
  induction nn with
  | zero =>
    intro x5 M out h _
    cases h
  | succ nn ih =>
    intro x5 M out h0 hX
    obtain ⟨w, h, k1, k2⟩ := itr_inv h0
    have h : m_X4_takeOver_L3 M p2 p3 p4 x5 = some w := h
    unfold m_X4_takeOver_L3 at h
    refine r_iload dX4_takeOver_3 5 rfl ?_
    refine r_aload_n dX4_takeOver_5 rfl 1 rfl ?_
    refine r_callVI (st := [vI x5]) dX4_takeOver_6 v_X4_24 (run_X10_cells rfl) (by decide) (by decide) rfl rfl (Nat.le_of_ble_eq_true rfl) rfl ?_
    by_cases c1 : wr (m_X10_cells M) ≤ wr x5
    · rw [if_pos c1] at h
      refine r_icmp_ge (tgt := 44) dX4_takeOver_9 (by decide) (fun _ => ?_) (fun q => absurd c1 q)
      cases h
      cases k2 _ rfl
      exact hX1 _ _ hX
    · rw [if_neg c1] at h
      refine r_icmp_ge (tgt := 44) dX4_takeOver_9 (by decide) (fun q => absurd q c1) (fun _ => ?_)
      refine r_aload_n dX4_takeOver_12 rfl 0 rfl ?_
      refine r_getR (j := 1) (v := 36) dX4_takeOver_13 f_X4_15 rfl rfl rfl ?_
      refine r_iload dX4_takeOver_16 5 rfl ?_
      obtain ⟨c2, h⟩ := of_ck h
      refine r_iald dX4_takeOver_18 rfl c2 ?_
      refine r_iload dX4_takeOver_19 4 rfl ?_
      obtain ⟨M5, h9, h⟩ := of_bd1 h
      have kJ : Ex G 1 cX4_takeOver RX4 6 38 [(0, vR 34), (1, vR 1), (2, vR p2), (3, vR p3), (4, vI p4), (5, vI x5)] [] M5 := by
        refine r_iinc (lv2 := [(5, vI (x5 + 1)), (0, vR 34), (1, vR 1), (2, vR p2), (3, vR p3), (4, vI p4)]) dX4_takeOver_38 5 rfl (by decide) rfl ?_
        refine r_goto (tgt := 3) dX4_takeOver_41 (by decide) ?_
        refine r_sub (lv2 := [(0, vR 34), (1, vR 1), (2, vR p2), (3, vR p3), (4, vI p4), (5, vI (x5 + 1))]) [1, 2, 3, 4, 5, 0] rfl ?_
        cases h
        exact ih _ _  _ (k1 _ rfl) hX
      clear h
      have h := h9
      clear h9
      by_cases c3 : wr (gI M 36 (wr x5)) = wr p4
      · rw [if_pos c3] at h
        refine r_icmp_ne (tgt := 38) dX4_takeOver_21 (by decide) (fun q => absurd c3 q) (fun _ => ?_)
        refine r_aload_n dX4_takeOver_24 rfl 2 rfl ?_
        refine r_getR (j := 1) (v := (p2 + 1)) dX4_takeOver_25 f_X4_34 hp2 rfl (pav_on hp2).1 ?_
        refine r_iload dX4_takeOver_28 5 rfl ?_
        refine r_aload_n dX4_takeOver_30 rfl 3 rfl ?_
        refine r_getR (j := 1) (v := (p3 + 1)) dX4_takeOver_31 f_X4_34 hp3 rfl (pav_on hp3).1 ?_
        refine r_iload dX4_takeOver_34 5 rfl ?_
        refine r_iald dX4_takeOver_36 (pav_on (M := M) hp3).2 c2 ?_
        obtain ⟨M4, eM4, h⟩ := of_lt h
        refine r_iast dX4_takeOver_37 (pav_on (M := M) hp2).2 c2 ?_
        rw [← eM4]
        cases h
        exact kJ
      · rw [if_neg c3] at h
        refine r_icmp_ne (tgt := 38) dX4_takeOver_21 (by decide) (fun _ => ?_) (fun q => absurd q c3)
        cases h
        exact kJ

set_option maxRecDepth 10000 in
theorem run_X4_takeOver {M : Mem} {M2 : Mem} {a2 : Nat} {a3 : Nat} {a4 : Int}  (ha2 : (ly a2).1 = 8) (ha3 : (ly a3).1 = 8) (h : m_X4_takeOver M a2 a3 a4 = some (M2)) : RunV 1 yX4_takeOver cX4_takeOver 6 none [vR 34, vR 1, vR a2, vR a3, vI a4] M M2 := by
  refine runV_of (lv := [(0, vR 34), (1, vR 1), (2, vR a2), (3, vR a3), (4, vI a4)]) (by decide +kernel) rfl (Nat.le_of_ble_eq_true rfl) rfl ?_
  intro G hQ
  unfold m_X4_takeOver at h
  refine r_iconst dX4_takeOver_0 ?_
  refine r_istore (lv2 := [(5, vI 0), (0, vR 34), (1, vR 1), (2, vR a2), (3, vR a3), (4, vI a4)]) dX4_takeOver_1 (by decide) rfl ?_
  obtain ⟨y6, M7, h9, h⟩ := of_bd2 h
  refine r_sub (lv2 := [(0, vR 34), (1, vR 1), (2, vR a2), (3, vR a3), (4, vI a4), (5, vI 0)]) [1, 2, 3, 4, 5, 0] rfl ?_
  refine lp_X4_takeOver_L3 a2 a3 a4 ha2 ha3 (fun w => w = (y6, M7)) ?_ FU 0 M _ h9 rfl
  intro z0 z1 hw
  cases hw
  cases h
  exact hQ _ _ dX4_takeOver_44

def m_X5_openIsOne_L9 (M : Mem)  (x2 : Int) : Option ((Int × Mem) ⊕ (Int × Mem)) :=
  if wr (m_X10_cells M) ≤ wr x2 then
    some (.inr (x2, M))
  else
    if wr (gI M 25 2) = 0 then
      if 0 ≤ wr x2 ∧ wr x2 < 64 then
      bd1 (
        if wr (gI M 2 (wr x2)) = 0 then
          some (M)
        else
          bd2 (m_X9_reach M 25 x2) fun b8 M9 =>
          some (M9)) fun (M10 : Mem) =>
      some (.inl ((x2 + 1), M10))
      else none
    else
      some (.inr (x2, M))
def m_X5_openIsOne_L72 (M : Mem) (p2 : Int) (x3 : Int) : Option ((Int × Mem) ⊕ (Int × Mem)) :=
  if wr 4 ≤ wr x3 then
    some (.inr (x3, M))
  else
    if 0 ≤ wr p2 ∧ wr p2 < 100 then
    bd1 (m_X10_beside M (gI M 27 (wr p2)) x3) fun r18 =>
    bd2 (m_X9_reach M 25 r18) fun b20 M21 =>
    some (.inl ((x3 + 1), M21))
    else none
def m_X5_openIsOne_L53 (M : Mem)  (x2 : Int) : Option ((Int × Mem) ⊕ (Int × Mem)) :=
  if wr 100 ≤ wr x2 then
    some (.inr (x2, M))
  else
    if wr (gI M 25 2) ≤ wr x2 then
      some (.inr (x2, M))
    else
      bd2 (itr (fun s => m_X5_openIsOne_L72 s.2 x2 s.1) FU (0, M)) fun y22 M23 =>
      some (.inl ((x2 + 1), M23))
def m_X5_openIsOne (M : Mem) : Option (Bool × Mem) :=
  bd1 (m_X9_clear M 25) fun M2 =>
  bd2 (itr (fun s => m_X5_openIsOne_L9 s.2  s.1) FU (0, M2)) fun y11 M12 =>
  bd2 (itr (fun s => m_X5_openIsOne_L53 s.2  s.1) FU (0, M12)) fun y24 M25 =>
  bd1 (
    if wr (gI M25 25 2) ≤ 0 then
      some (0)
    else
      bd1 (m_X10_openCells M25) fun r28 =>
      if wr (gI M25 25 2) = wr r28 then
        some (1)
      else
        some (0)) fun (v30 : Int) =>
  if v30 = 0 ∨ v30 = 1 then some ((decide (v30 = 1)), M25) else none
set_option maxRecDepth 10000 in
theorem lp_X5_openIsOne_L9 {G : Gx}    (X : (Int × Mem) → Prop) (hX1 : ∀ (x2 : Int) (M : Mem), X (x2, M) → Ex G 2 cX5_openIsOne RX5 4 51 [(0, vR 24), (1, vR 1), (2, vI x2)] [] M) : ∀ (nn : Nat) (x2 : Int) (M : Mem) (out : Int × Mem), itr (fun s => m_X5_openIsOne_L9 s.2  s.1) nn (x2, M) = some out → X out → Ex G 2 cX5_openIsOne RX5 4 9 [(0, vR 24), (1, vR 1), (2, vI x2)] [] M := by
  intro nn
  induction nn with
  | zero =>
    intro x2 M out h _
    cases h
  | succ nn ih =>
    intro x2 M out h0 hX
    obtain ⟨w, h, k1, k2⟩ := itr_inv h0
    have h : m_X5_openIsOne_L9 M  x2 = some w := h
    unfold m_X5_openIsOne_L9 at h
    refine r_iload_n dX5_openIsOne_9 rfl 2 rfl ?_
    refine r_aload_n dX5_openIsOne_10 rfl 1 rfl ?_
    refine r_callVI (st := [vI x2]) dX5_openIsOne_11 v_X5_31 (run_X10_cells rfl) (by decide) (by decide) rfl rfl (Nat.le_of_ble_eq_true rfl) rfl ?_
    by_cases c3 : wr (m_X10_cells M) ≤ wr x2
    · rw [if_pos c3] at h
      refine r_icmp_ge (tgt := 51) dX5_openIsOne_14 (by decide) (fun _ => ?_) (fun q => absurd c3 q)
      cases h
      cases k2 _ rfl
      exact hX1 _ _ hX
    · rw [if_neg c3] at h
      refine r_icmp_ge (tgt := 51) dX5_openIsOne_14 (by decide) (fun q => absurd q c3) (fun _ => ?_)
      refine r_aload_n dX5_openIsOne_17 rfl 0 rfl ?_
      refine r_getR (j := 0) (v := 25) dX5_openIsOne_18 f_X5_12 rfl rfl rfl ?_
      refine r_getI (j := 2) (jz := 2) dX5_openIsOne_21 f_X5_37 rfl rfl rfl ?_
      by_cases c4 : wr (gI M 25 2) = 0
      · rw [if_pos c4] at h
        refine r_if_ne (tgt := 51) dX5_openIsOne_24 (by decide) (fun q => absurd c4 q) (fun _ => ?_)
        refine r_aload_n dX5_openIsOne_27 rfl 1 rfl ?_
        refine r_getR (j := 2) (v := 2) dX5_openIsOne_28 f_X5_41 rfl rfl rfl ?_
        refine r_iload_n dX5_openIsOne_31 rfl 2 rfl ?_
        obtain ⟨c5, h⟩ := of_ck h
        refine r_zald dX5_openIsOne_32 rfl c5 ?_
        obtain ⟨M10, h9, h⟩ := of_bd1 h
        have kJ : Ex G 2 cX5_openIsOne RX5 4 45 [(0, vR 24), (1, vR 1), (2, vI x2)] [] M10 := by
          refine r_iinc (lv2 := [(2, vI (x2 + 1)), (0, vR 24), (1, vR 1)]) dX5_openIsOne_45 2 rfl (by decide) rfl ?_
          refine r_goto (tgt := 9) dX5_openIsOne_48 (by decide) ?_
          refine r_sub (lv2 := [(0, vR 24), (1, vR 1), (2, vI (x2 + 1))]) [1, 2, 0] rfl ?_
          cases h
          exact ih _ _  _ (k1 _ rfl) hX
        clear h
        have h := h9
        clear h9
        by_cases c6 : wr (gI M 2 (wr x2)) = 0
        · rw [if_pos c6] at h
          refine r_if_eq (tgt := 45) dX5_openIsOne_33 (by decide) (fun _ => ?_) (fun q => absurd c6 q)
          cases h
          exact kJ
        · rw [if_neg c6] at h
          refine r_if_eq (tgt := 45) dX5_openIsOne_33 (by decide) (fun q => absurd q c6) (fun _ => ?_)
          refine r_aload_n dX5_openIsOne_36 rfl 0 rfl ?_
          refine r_getR (j := 0) (v := 25) dX5_openIsOne_37 f_X5_12 rfl rfl rfl ?_
          refine r_iload_n dX5_openIsOne_40 rfl 2 rfl ?_
          obtain ⟨b8, M9, hc7, h⟩ := of_bd2 h
          refine r_callVI (st := []) dX5_openIsOne_41 v_X5_45 (run_X9_reach rfl hc7) (by decide) (by decide) rfl rfl (Nat.le_of_ble_eq_true rfl) rfl ?_
          refine r_pop dX5_openIsOne_44 rfl ?_
          cases h
          exact kJ
      · rw [if_neg c4] at h
        refine r_if_ne (tgt := 51) dX5_openIsOne_24 (by decide) (fun _ => ?_) (fun q => absurd q c4)
        cases h
        cases k2 _ rfl
        exact hX1 _ _ hX

set_option maxRecDepth 10000 in
theorem lp_X5_openIsOne_L72 {G : Gx} (p2 : Int)   (X : (Int × Mem) → Prop) (hX1 : ∀ (x3 : Int) (M : Mem), X (x3, M) → Ex G 2 cX5_openIsOne RX5 4 105 [(0, vR 24), (1, vR 1), (2, vI p2), (3, vI x3)] [] M) : ∀ (nn : Nat) (x3 : Int) (M : Mem) (out : Int × Mem), itr (fun s => m_X5_openIsOne_L72 s.2 p2 s.1) nn (x3, M) = some out → X out → Ex G 2 cX5_openIsOne RX5 4 72 [(0, vR 24), (1, vR 1), (2, vI p2), (3, vI x3)] [] M := by
  intro nn
  induction nn with
  | zero =>
    intro x3 M out h _
    cases h
  | succ nn ih =>
    intro x3 M out h0 hX
    obtain ⟨w, h, k1, k2⟩ := itr_inv h0
    have h : m_X5_openIsOne_L72 M p2 x3 = some w := h
    unfold m_X5_openIsOne_L72 at h
    refine r_iload_n dX5_openIsOne_72 rfl 3 rfl ?_
    refine r_iconst dX5_openIsOne_73 ?_
    by_cases c15 : wr 4 ≤ wr x3
    · rw [if_pos c15] at h
      refine r_icmp_ge (tgt := 105) dX5_openIsOne_74 (by decide) (fun _ => ?_) (fun q => absurd c15 q)
      cases h
      cases k2 _ rfl
      exact hX1 _ _ hX
    · rw [if_neg c15] at h
      refine r_icmp_ge (tgt := 105) dX5_openIsOne_74 (by decide) (fun q => absurd q c15) (fun _ => ?_)
      refine r_aload_n dX5_openIsOne_77 rfl 0 rfl ?_
      refine r_getR (j := 0) (v := 25) dX5_openIsOne_78 f_X5_12 rfl rfl rfl ?_
      refine r_aload_n dX5_openIsOne_81 rfl 1 rfl ?_
      refine r_aload_n dX5_openIsOne_82 rfl 0 rfl ?_
      refine r_getR (j := 0) (v := 25) dX5_openIsOne_83 f_X5_12 rfl rfl rfl ?_
      refine r_getR (j := 1) (v := 27) dX5_openIsOne_86 f_X5_49 rfl rfl rfl ?_
      refine r_iload_n dX5_openIsOne_89 rfl 2 rfl ?_
      obtain ⟨c16, h⟩ := of_ck h
      refine r_iald dX5_openIsOne_90 rfl c16 ?_
      refine r_iload_n dX5_openIsOne_91 rfl 3 rfl ?_
      obtain ⟨r18, hc17, h⟩ := of_bd1 h
      refine r_callVI (st := [vR 25]) dX5_openIsOne_92 v_X5_53 (run_X10_beside hc17) (by decide) (by decide) rfl rfl (Nat.le_of_ble_eq_true rfl) rfl ?_
      obtain ⟨b20, M21, hc19, h⟩ := of_bd2 h
      refine r_callVI (st := []) dX5_openIsOne_95 v_X5_45 (run_X9_reach rfl hc19) (by decide) (by decide) rfl rfl (Nat.le_of_ble_eq_true rfl) rfl ?_
      refine r_pop dX5_openIsOne_98 rfl ?_
      refine r_iinc (lv2 := [(3, vI (x3 + 1)), (0, vR 24), (1, vR 1), (2, vI p2)]) dX5_openIsOne_99 3 rfl (by decide) rfl ?_
      refine r_goto (tgt := 72) dX5_openIsOne_102 (by decide) ?_
      refine r_sub (lv2 := [(0, vR 24), (1, vR 1), (2, vI p2), (3, vI (x3 + 1))]) [1, 2, 3, 0] rfl ?_
      cases h
      exact ih _ _  _ (k1 _ rfl) hX

set_option maxRecDepth 10000 in
theorem lp_X5_openIsOne_L53 {G : Gx}    (X : (Int × Mem) → Prop) (hX1 : ∀ (x2 : Int) (M : Mem), X (x2, M) → Ex G 2 cX5_openIsOne RX5 4 111 [(0, vR 24), (1, vR 1), (2, vI x2)] [] M) : ∀ (nn : Nat) (x2 : Int) (M : Mem) (out : Int × Mem), itr (fun s => m_X5_openIsOne_L53 s.2  s.1) nn (x2, M) = some out → X out → Ex G 2 cX5_openIsOne RX5 4 53 [(0, vR 24), (1, vR 1), (2, vI x2)] [] M := by
  intro nn
  induction nn with
  | zero =>
    intro x2 M out h _
    cases h
  | succ nn ih =>
    intro x2 M out h0 hX
    obtain ⟨w, h, k1, k2⟩ := itr_inv h0
    have h : m_X5_openIsOne_L53 M  x2 = some w := h
    unfold m_X5_openIsOne_L53 at h
    refine r_iload_n dX5_openIsOne_53 rfl 2 rfl ?_
    refine r_bipush dX5_openIsOne_54 (by decide) ?_
    by_cases c13 : wr 100 ≤ wr x2
    · rw [if_pos c13] at h
      refine r_icmp_ge (tgt := 111) dX5_openIsOne_56 (by decide) (fun _ => ?_) (fun q => absurd c13 q)
      cases h
      cases k2 _ rfl
      exact hX1 _ _ hX
    · rw [if_neg c13] at h
      refine r_icmp_ge (tgt := 111) dX5_openIsOne_56 (by decide) (fun q => absurd q c13) (fun _ => ?_)
      refine r_iload_n dX5_openIsOne_59 rfl 2 rfl ?_
      refine r_aload_n dX5_openIsOne_60 rfl 0 rfl ?_
      refine r_getR (j := 0) (v := 25) dX5_openIsOne_61 f_X5_12 rfl rfl rfl ?_
      refine r_getI (j := 2) (jz := 2) dX5_openIsOne_64 f_X5_37 rfl rfl rfl ?_
      by_cases c14 : wr (gI M 25 2) ≤ wr x2
      · rw [if_pos c14] at h
        refine r_icmp_ge (tgt := 111) dX5_openIsOne_67 (by decide) (fun _ => ?_) (fun q => absurd c14 q)
        cases h
        cases k2 _ rfl
        exact hX1 _ _ hX
      · rw [if_neg c14] at h
        refine r_icmp_ge (tgt := 111) dX5_openIsOne_67 (by decide) (fun q => absurd q c14) (fun _ => ?_)
        refine r_iconst dX5_openIsOne_70 ?_
        refine r_istore_n (lv2 := [(3, vI 0), (0, vR 24), (1, vR 1), (2, vI x2)]) dX5_openIsOne_71 rfl (by decide) rfl ?_
        obtain ⟨y22, M23, h9, h⟩ := of_bd2 h
        refine r_sub (lv2 := [(0, vR 24), (1, vR 1), (2, vI x2), (3, vI 0)]) [1, 2, 3, 0] rfl ?_
        refine lp_X5_openIsOne_L72 x2  (fun w => w = (y22, M23)) ?_ FU 0 M _ h9 rfl
        intro z0 z1 hw
        cases hw
        refine r_iinc (lv2 := [(2, vI (x2 + 1)), (0, vR 24), (1, vR 1), (3, vI y22)]) dX5_openIsOne_105 2 rfl (by decide) rfl ?_
        refine r_goto (tgt := 53) dX5_openIsOne_108 (by decide) ?_
        refine r_sub (lv2 := [(0, vR 24), (1, vR 1), (2, vI (x2 + 1))]) [1, 2, 0] rfl ?_
        cases h
        exact ih _ _  _ (k1 _ rfl) hX

set_option maxRecDepth 10000 in
theorem run_X5_openIsOne {M : Mem} {M2 : Mem} {r : Bool}   (h : m_X5_openIsOne M = some (r, M2)) : RunI 2 yX5_openIsOne cX5_openIsOne 4 (some .boolean) [vR 24, vR 1] M (bI r) M2 := by
  refine runI_of (lv := [(0, vR 24), (1, vR 1)]) (by decide +kernel) (Or.inr ⟨rfl, bI_01 r⟩) (Nat.le_of_ble_eq_true rfl) rfl ?_
  intro G hQ
  unfold m_X5_openIsOne at h
  refine r_aload_n dX5_openIsOne_0 rfl 0 rfl ?_
  refine r_getR (j := 0) (v := 25) dX5_openIsOne_1 f_X5_12 rfl rfl rfl ?_
  obtain ⟨M2, hc1, h⟩ := of_bd1 h
  refine r_callVV (st := []) dX5_openIsOne_4 v_X5_28 (run_X9_clear rfl hc1) (by decide) (by decide) rfl rfl (Nat.le_of_ble_eq_true rfl) rfl ?_
  refine r_iconst dX5_openIsOne_7 ?_
  refine r_istore_n (lv2 := [(2, vI 0), (0, vR 24), (1, vR 1)]) dX5_openIsOne_8 rfl (by decide) rfl ?_
  obtain ⟨y11, M12, h9, h⟩ := of_bd2 h
  refine r_sub (lv2 := [(0, vR 24), (1, vR 1), (2, vI 0)]) [1, 2, 0] rfl ?_
  refine lp_X5_openIsOne_L9   (fun w => w = (y11, M12)) ?_ FU 0 M2 _ h9 rfl
  intro z0 z1 hw
  cases hw
  refine r_iconst dX5_openIsOne_51 ?_
  refine r_istore_n (lv2 := [(2, vI 0), (0, vR 24), (1, vR 1)]) dX5_openIsOne_52 rfl (by decide) rfl ?_
  obtain ⟨y24, M25, h9, h⟩ := of_bd2 h
  refine r_sub (lv2 := [(0, vR 24), (1, vR 1), (2, vI 0)]) [1, 2, 0] rfl ?_
  refine lp_X5_openIsOne_L53   (fun w => w = (y24, M25)) ?_ FU 0 M12 _ h9 rfl
  intro z0 z1 hw
  cases hw
  refine r_aload_n dX5_openIsOne_111 rfl 0 rfl ?_
  refine r_getR (j := 0) (v := 25) dX5_openIsOne_112 f_X5_12 rfl rfl rfl ?_
  refine r_getI (j := 2) (jz := 2) dX5_openIsOne_115 f_X5_37 rfl rfl rfl ?_
  obtain ⟨v30, h9, h⟩ := of_bd1 h
  have kJ : Ex G 2 cX5_openIsOne RX5 4 140 [] [vI v30] M25 := by
    obtain ⟨cz, h⟩ := of_ck h
    rw [← bI_dec cz]
    cases h
    exact hQ _ _ dX5_openIsOne_140
  clear h
  have h := h9
  clear h9
  by_cases c26 : wr (gI M25 25 2) ≤ 0
  · rw [if_pos c26] at h
    refine r_if_le (tgt := 139) dX5_openIsOne_118 (by decide) (fun _ => ?_) (fun q => absurd c26 q)
    refine r_iconst dX5_openIsOne_139 ?_
    refine r_sub (lv2 := []) [] rfl ?_
    cases h
    exact kJ
  · rw [if_neg c26] at h
    refine r_if_le (tgt := 139) dX5_openIsOne_118 (by decide) (fun q => absurd q c26) (fun _ => ?_)
    refine r_aload_n dX5_openIsOne_121 rfl 0 rfl ?_
    refine r_getR (j := 0) (v := 25) dX5_openIsOne_122 f_X5_12 rfl rfl rfl ?_
    refine r_getI (j := 2) (jz := 2) dX5_openIsOne_125 f_X5_37 rfl rfl rfl ?_
    refine r_aload_n dX5_openIsOne_128 rfl 1 rfl ?_
    obtain ⟨r28, hc27, h⟩ := of_bd1 h
    refine r_callVI (st := [vI (gI M25 25 2)]) dX5_openIsOne_129 v_X5_57 (run_X10_openCells hc27) (by decide) (by decide) rfl rfl (Nat.le_of_ble_eq_true rfl) rfl ?_
    by_cases c29 : wr (gI M25 25 2) = wr r28
    · rw [if_pos c29] at h
      refine r_icmp_ne (tgt := 139) dX5_openIsOne_132 (by decide) (fun q => absurd c29 q) (fun _ => ?_)
      refine r_iconst dX5_openIsOne_135 ?_
      refine r_goto (tgt := 140) dX5_openIsOne_136 (by decide) ?_
      refine r_sub (lv2 := []) [] rfl ?_
      cases h
      exact kJ
    · rw [if_neg c29] at h
      refine r_icmp_ne (tgt := 139) dX5_openIsOne_132 (by decide) (fun _ => ?_) (fun q => absurd q c29)
      refine r_iconst dX5_openIsOne_139 ?_
      refine r_sub (lv2 := []) [] rfl ?_
      cases h
      exact kJ

def m_X5_isClosed (M : Mem) (a1 : Int) (a2 : Int) : Option (Bool) :=
  if wr a1 < 0 then
    some false
  else
    if wr ((gI M 1 0) + 1) < wr a1 then
      some false
    else
      if wr a2 < 0 then
        some false
      else
        if wr a2 ≤ wr ((gI M 1 1) + 1) then
          bd1 (m_X10_openAt M (a1 - 1) (a2 - 1)) fun r6 =>
          lt (if 0 ≤ wr r6 then 0 else 1) fun (v8 : Int) =>
          if v8 = 0 ∨ v8 = 1 then some (decide (v8 = 1)) else none
        else
          some false
set_option maxRecDepth 10000 in
theorem run_X5_isClosed {M : Mem} {a1 : Int} {a2 : Int} {r : Bool}   (h : m_X5_isClosed M a1 a2 = some r) : RunI 1 yX5_isClosed cX5_isClosed 3 (some .boolean) [vR 1, vI a1, vI a2] M (bI r) M := by
  refine runI_of (lv := [(0, vR 1), (1, vI a1), (2, vI a2)]) (by decide +kernel) (Or.inr ⟨rfl, bI_01 r⟩) (Nat.le_of_ble_eq_true rfl) rfl ?_
  intro G hQ
  unfold m_X5_isClosed at h
  refine r_iload_n dX5_isClosed_0 rfl 1 rfl ?_
  by_cases c1 : wr a1 < 0
  · rw [if_pos c1] at h
    refine r_if_lt (tgt := 28) dX5_isClosed_1 (by decide) (fun _ => ?_) (fun q => absurd c1 q)
    refine r_iconst dX5_isClosed_28 ?_
    cases h
    exact hQ _ _ dX5_isClosed_29
  · rw [if_neg c1] at h
    refine r_if_lt (tgt := 28) dX5_isClosed_1 (by decide) (fun q => absurd q c1) (fun _ => ?_)
    refine r_iload_n dX5_isClosed_4 rfl 1 rfl ?_
    refine r_aload_n dX5_isClosed_5 rfl 0 rfl ?_
    refine r_getI (j := 0) (jz := 0) dX5_isClosed_6 f_X5_64 rfl rfl rfl ?_
    refine r_iconst dX5_isClosed_9 ?_
    refine r_iadd dX5_isClosed_10 ?_
    by_cases c2 : wr ((gI M 1 0) + 1) < wr a1
    · rw [if_pos c2] at h
      refine r_icmp_gt (tgt := 28) dX5_isClosed_11 (by decide) (fun _ => ?_) (fun q => absurd c2 q)
      refine r_iconst dX5_isClosed_28 ?_
      cases h
      exact hQ _ _ dX5_isClosed_29
    · rw [if_neg c2] at h
      refine r_icmp_gt (tgt := 28) dX5_isClosed_11 (by decide) (fun q => absurd q c2) (fun _ => ?_)
      refine r_iload_n dX5_isClosed_14 rfl 2 rfl ?_
      by_cases c3 : wr a2 < 0
      · rw [if_pos c3] at h
        refine r_if_lt (tgt := 28) dX5_isClosed_15 (by decide) (fun _ => ?_) (fun q => absurd c3 q)
        refine r_iconst dX5_isClosed_28 ?_
        cases h
        exact hQ _ _ dX5_isClosed_29
      · rw [if_neg c3] at h
        refine r_if_lt (tgt := 28) dX5_isClosed_15 (by decide) (fun q => absurd q c3) (fun _ => ?_)
        refine r_iload_n dX5_isClosed_18 rfl 2 rfl ?_
        refine r_aload_n dX5_isClosed_19 rfl 0 rfl ?_
        refine r_getI (j := 1) (jz := 1) dX5_isClosed_20 f_X5_67 rfl rfl rfl ?_
        refine r_iconst dX5_isClosed_23 ?_
        refine r_iadd dX5_isClosed_24 ?_
        by_cases c4 : wr a2 ≤ wr ((gI M 1 1) + 1)
        · rw [if_pos c4] at h
          refine r_icmp_le (tgt := 30) dX5_isClosed_25 (by decide) (fun _ => ?_) (fun q => absurd c4 q)
          refine r_aload_n dX5_isClosed_30 rfl 0 rfl ?_
          refine r_iload_n dX5_isClosed_31 rfl 1 rfl ?_
          refine r_iconst dX5_isClosed_32 ?_
          refine r_isub dX5_isClosed_33 ?_
          refine r_iload_n dX5_isClosed_34 rfl 2 rfl ?_
          refine r_iconst dX5_isClosed_35 ?_
          refine r_isub dX5_isClosed_36 ?_
          obtain ⟨r6, hc5, h⟩ := of_bd1 h
          refine r_callVI (st := []) dX5_isClosed_37 v_X5_70 (run_X10_openAt hc5) (by decide) (by decide) rfl rfl (Nat.le_of_ble_eq_true rfl) rfl ?_
          obtain ⟨v8, ev8, h⟩ := of_lt h
          have kJ : Ex G 1 cX5_isClosed RX5 3 48 [] [vI v8] M := by
            obtain ⟨cz, h⟩ := of_ck h
            rw [← bI_dec cz]
            cases h
            exact hQ _ _ dX5_isClosed_48
          clear h
          by_cases c7 : 0 ≤ wr r6
          · skip
            refine r_if_ge (tgt := 47) dX5_isClosed_40 (by decide) (fun _ => ?_) (fun q => absurd c7 q)
            refine r_iconst dX5_isClosed_47 ?_
            rw [show v8 = 0 from by rw [ev8, if_pos c7]] at kJ
            refine r_sub (lv2 := []) [] rfl ?_
            exact kJ
          · skip
            refine r_if_ge (tgt := 47) dX5_isClosed_40 (by decide) (fun q => absurd q c7) (fun _ => ?_)
            refine r_iconst dX5_isClosed_43 ?_
            refine r_goto (tgt := 48) dX5_isClosed_44 (by decide) ?_
            rw [show v8 = 1 from by rw [ev8, if_neg c7]] at kJ
            refine r_sub (lv2 := []) [] rfl ?_
            exact kJ
        · rw [if_neg c4] at h
          refine r_icmp_le (tgt := 30) dX5_isClosed_25 (by decide) (fun q => absurd q c4) (fun _ => ?_)
          refine r_iconst dX5_isClosed_28 ?_
          cases h
          exact hQ _ _ dX5_isClosed_29

def m_X5_closedIsOne_L37 (M : Mem) (p2 : Int) (x3 : Int) : Option ((Int × Mem) ⊕ (Int × Mem)) :=
  if wr 9 ≤ wr x3 then
    some (.inr (x3, M))
  else
    if 0 ≤ wr p2 ∧ wr p2 < 100 then
    bd1 (m_X5_isClosed M (((irm (gI M 27 (wr p2)) 10) + (irm x3 3)) - 1) (((idv (gI M 27 (wr p2)) 10) + (idv x3 3)) - 1)) fun b11 =>
    bd1 (
      if wr (bI b11) = 0 then
        some (M)
      else
        bd2 (m_X9_reach M 25 (((((idv (gI M 27 (wr p2)) 10) + (idv x3 3)) - 1) * 10) + (((irm (gI M 27 (wr p2)) 10) + (irm x3 3)) - 1))) fun b14 M15 =>
        some (M15)) fun (M16 : Mem) =>
    some (.inl ((x3 + 1), M16))
    else none
def m_X5_closedIsOne_L18 (M : Mem)  (x2 : Int) : Option ((Int × Mem) ⊕ (Int × Mem)) :=
  if wr 100 ≤ wr x2 then
    some (.inr (x2, M))
  else
    if wr (gI M 25 2) ≤ wr x2 then
      some (.inr (x2, M))
    else
      bd2 (itr (fun s => m_X5_closedIsOne_L37 s.2 x2 s.1) FU (0, M)) fun y17 M18 =>
      some (.inl ((x2 + 1), M18))
def m_X5_closedIsOne (M : Mem) : Option (Bool × Mem) :=
  bd1 (m_X9_clear M 25) fun M2 =>
  bd2 (m_X9_reach M2 25 0) fun b4 M5 =>
  bd2 (itr (fun s => m_X5_closedIsOne_L18 s.2  s.1) FU (0, M5)) fun y19 M20 =>
  bd1 (m_X10_openCells M20) fun r22 =>
  lt (if wr (gI M20 25 2) = wr ((((gI M20 1 0) + 2) * ((gI M20 1 1) + 2)) - r22) then 1 else 0) fun (v24 : Int) =>
  if v24 = 0 ∨ v24 = 1 then some ((decide (v24 = 1)), M20) else none
set_option maxRecDepth 10000 in
theorem lp_X5_closedIsOne_L37 {G : Gx} (p2 : Int)   (X : (Int × Mem) → Prop) (hX1 : ∀ (x3 : Int) (M : Mem), X (x3, M) → Ex G 2 cX5_closedIsOne RX5 6 116 [(0, vR 24), (1, vR 1), (2, vI p2), (3, vI x3)] [] M) : ∀ (nn : Nat) (x3 : Int) (M : Mem) (out : Int × Mem), itr (fun s => m_X5_closedIsOne_L37 s.2 p2 s.1) nn (x3, M) = some out → X out → Ex G 2 cX5_closedIsOne RX5 6 37 [(0, vR 24), (1, vR 1), (2, vI p2), (3, vI x3)] [] M := by
  intro nn
  induction nn with
  | zero =>
    intro x3 M out h _
    cases h
  | succ nn ih =>
    intro x3 M out h0 hX
    obtain ⟨w, h, k1, k2⟩ := itr_inv h0
    have h : m_X5_closedIsOne_L37 M p2 x3 = some w := h
    unfold m_X5_closedIsOne_L37 at h
    refine r_iload_n dX5_closedIsOne_37 rfl 3 rfl ?_
    refine r_bipush dX5_closedIsOne_38 (by decide) ?_
    by_cases c8 : wr 9 ≤ wr x3
    · rw [if_pos c8] at h
      refine r_icmp_ge (tgt := 116) dX5_closedIsOne_40 (by decide) (fun _ => ?_) (fun q => absurd c8 q)
      cases h
      cases k2 _ rfl
      exact hX1 _ _ hX
    · rw [if_neg c8] at h
      refine r_icmp_ge (tgt := 116) dX5_closedIsOne_40 (by decide) (fun q => absurd q c8) (fun _ => ?_)
      refine r_aload_n dX5_closedIsOne_43 rfl 0 rfl ?_
      refine r_getR (j := 0) (v := 25) dX5_closedIsOne_44 f_X5_12 rfl rfl rfl ?_
      refine r_getR (j := 1) (v := 27) dX5_closedIsOne_47 f_X5_49 rfl rfl rfl ?_
      refine r_iload_n dX5_closedIsOne_50 rfl 2 rfl ?_
      obtain ⟨c9, h⟩ := of_ck h
      refine r_iald dX5_closedIsOne_51 rfl c9 ?_
      refine r_bipush dX5_closedIsOne_52 (by decide) ?_
      refine r_irem dX5_closedIsOne_54 (by decide) ?_
      refine r_iload_n dX5_closedIsOne_55 rfl 3 rfl ?_
      refine r_iconst dX5_closedIsOne_56 ?_
      refine r_irem dX5_closedIsOne_57 (by decide) ?_
      refine r_iadd dX5_closedIsOne_58 ?_
      refine r_iconst dX5_closedIsOne_59 ?_
      refine r_isub dX5_closedIsOne_60 ?_
      refine r_istore (lv2 := [(4, vI (((irm (gI M 27 (wr p2)) 10) + (irm x3 3)) - 1)), (0, vR 24), (1, vR 1), (2, vI p2), (3, vI x3)]) dX5_closedIsOne_61 (by decide) rfl ?_
      refine r_aload_n dX5_closedIsOne_63 rfl 1 rfl ?_
      refine r_getR (j := 0) (v := 25) dX5_closedIsOne_64 f_X5_12 rfl rfl rfl ?_
      refine r_getR (j := 1) (v := 27) dX5_closedIsOne_67 f_X5_49 rfl rfl rfl ?_
      refine r_iload_n dX5_closedIsOne_70 rfl 3 rfl ?_
      refine r_iald dX5_closedIsOne_71 rfl c9 ?_
      refine r_bipush dX5_closedIsOne_72 (by decide) ?_
      refine r_idiv dX5_closedIsOne_74 (by decide) ?_
      refine r_iload_n dX5_closedIsOne_75 rfl 4 rfl ?_
      refine r_iconst dX5_closedIsOne_76 ?_
      refine r_idiv dX5_closedIsOne_77 (by decide) ?_
      refine r_iadd dX5_closedIsOne_78 ?_
      refine r_iconst dX5_closedIsOne_79 ?_
      refine r_isub dX5_closedIsOne_80 ?_
      refine r_istore (lv2 := [(5, vI (((idv (gI M 27 (wr p2)) 10) + (idv x3 3)) - 1)), (4, vI (((irm (gI M 27 (wr p2)) 10) + (irm x3 3)) - 1)), (0, vR 24), (1, vR 1), (2, vI p2), (3, vI x3)]) dX5_closedIsOne_81 (by decide) rfl ?_
      refine r_aload_n dX5_closedIsOne_83 rfl 3 rfl ?_
      refine r_iload dX5_closedIsOne_84 1 rfl ?_
      refine r_iload dX5_closedIsOne_86 0 rfl ?_
      obtain ⟨b11, hc10, h⟩ := of_bd1 h
      refine r_callSI (st := []) dX5_closedIsOne_88 v_X5_60 (run_X5_isClosed hc10) (by decide) (by decide) rfl (Nat.le_of_ble_eq_true rfl) rfl ?_
      obtain ⟨M16, h9, h⟩ := of_bd1 h
      have kJ : Ex G 2 cX5_closedIsOne RX5 6 110 [(0, vR 24), (1, vR 1), (2, vI p2), (3, vI x3)] [] M16 := by
        refine r_iinc (lv2 := [(3, vI (x3 + 1)), (0, vR 24), (1, vR 1), (2, vI p2)]) dX5_closedIsOne_110 3 rfl (by decide) rfl ?_
        refine r_goto (tgt := 37) dX5_closedIsOne_113 (by decide) ?_
        refine r_sub (lv2 := [(0, vR 24), (1, vR 1), (2, vI p2), (3, vI (x3 + 1))]) [1, 2, 3, 0] rfl ?_
        cases h
        exact ih _ _  _ (k1 _ rfl) hX
      clear h
      have h := h9
      clear h9
      by_cases c12 : wr (bI b11) = 0
      · rw [if_pos c12] at h
        refine r_if_eq (tgt := 110) dX5_closedIsOne_91 (by decide) (fun _ => ?_) (fun q => absurd c12 q)
        refine r_sub (lv2 := [(0, vR 24), (1, vR 1), (2, vI p2), (3, vI x3)]) [2, 3, 4, 5] rfl ?_
        cases h
        exact kJ
      · rw [if_neg c12] at h
        refine r_if_eq (tgt := 110) dX5_closedIsOne_91 (by decide) (fun q => absurd q c12) (fun _ => ?_)
        refine r_aload_n dX5_closedIsOne_94 rfl 2 rfl ?_
        refine r_getR (j := 0) (v := 25) dX5_closedIsOne_95 f_X5_12 rfl rfl rfl ?_
        refine r_iload dX5_closedIsOne_98 0 rfl ?_
        refine r_bipush dX5_closedIsOne_100 (by decide) ?_
        refine r_imul dX5_closedIsOne_102 ?_
        refine r_iload dX5_closedIsOne_103 1 rfl ?_
        refine r_iadd dX5_closedIsOne_105 ?_
        obtain ⟨b14, M15, hc13, h⟩ := of_bd2 h
        refine r_callVI (st := []) dX5_closedIsOne_106 v_X5_45 (run_X9_reach rfl hc13) (by decide) (by decide) rfl rfl (Nat.le_of_ble_eq_true rfl) rfl ?_
        refine r_pop dX5_closedIsOne_109 rfl ?_
        refine r_sub (lv2 := [(0, vR 24), (1, vR 1), (2, vI p2), (3, vI x3)]) [2, 3, 4, 5] rfl ?_
        cases h
        exact kJ

set_option maxRecDepth 10000 in
theorem lp_X5_closedIsOne_L18 {G : Gx}    (X : (Int × Mem) → Prop) (hX1 : ∀ (x2 : Int) (M : Mem), X (x2, M) → Ex G 2 cX5_closedIsOne RX5 6 122 [(0, vR 24), (1, vR 1), (2, vI x2)] [] M) : ∀ (nn : Nat) (x2 : Int) (M : Mem) (out : Int × Mem), itr (fun s => m_X5_closedIsOne_L18 s.2  s.1) nn (x2, M) = some out → X out → Ex G 2 cX5_closedIsOne RX5 6 18 [(0, vR 24), (1, vR 1), (2, vI x2)] [] M := by
  intro nn
  induction nn with
  | zero =>
    intro x2 M out h _
    cases h
  | succ nn ih =>
    intro x2 M out h0 hX
    obtain ⟨w, h, k1, k2⟩ := itr_inv h0
    have h : m_X5_closedIsOne_L18 M  x2 = some w := h
    unfold m_X5_closedIsOne_L18 at h
    refine r_iload_n dX5_closedIsOne_18 rfl 2 rfl ?_
    refine r_bipush dX5_closedIsOne_19 (by decide) ?_
    by_cases c6 : wr 100 ≤ wr x2
    · rw [if_pos c6] at h
      refine r_icmp_ge (tgt := 122) dX5_closedIsOne_21 (by decide) (fun _ => ?_) (fun q => absurd c6 q)
      cases h
      cases k2 _ rfl
      exact hX1 _ _ hX
    · rw [if_neg c6] at h
      refine r_icmp_ge (tgt := 122) dX5_closedIsOne_21 (by decide) (fun q => absurd q c6) (fun _ => ?_)
      refine r_iload_n dX5_closedIsOne_24 rfl 2 rfl ?_
      refine r_aload_n dX5_closedIsOne_25 rfl 0 rfl ?_
      refine r_getR (j := 0) (v := 25) dX5_closedIsOne_26 f_X5_12 rfl rfl rfl ?_
      refine r_getI (j := 2) (jz := 2) dX5_closedIsOne_29 f_X5_37 rfl rfl rfl ?_
      by_cases c7 : wr (gI M 25 2) ≤ wr x2
      · rw [if_pos c7] at h
        refine r_icmp_ge (tgt := 122) dX5_closedIsOne_32 (by decide) (fun _ => ?_) (fun q => absurd c7 q)
        cases h
        cases k2 _ rfl
        exact hX1 _ _ hX
      · rw [if_neg c7] at h
        refine r_icmp_ge (tgt := 122) dX5_closedIsOne_32 (by decide) (fun q => absurd q c7) (fun _ => ?_)
        refine r_iconst dX5_closedIsOne_35 ?_
        refine r_istore_n (lv2 := [(3, vI 0), (0, vR 24), (1, vR 1), (2, vI x2)]) dX5_closedIsOne_36 rfl (by decide) rfl ?_
        obtain ⟨y17, M18, h9, h⟩ := of_bd2 h
        refine r_sub (lv2 := [(0, vR 24), (1, vR 1), (2, vI x2), (3, vI 0)]) [1, 2, 3, 0] rfl ?_
        refine lp_X5_closedIsOne_L37 x2  (fun w => w = (y17, M18)) ?_ FU 0 M _ h9 rfl
        intro z0 z1 hw
        cases hw
        refine r_iinc (lv2 := [(2, vI (x2 + 1)), (0, vR 24), (1, vR 1), (3, vI y17)]) dX5_closedIsOne_116 2 rfl (by decide) rfl ?_
        refine r_goto (tgt := 18) dX5_closedIsOne_119 (by decide) ?_
        refine r_sub (lv2 := [(0, vR 24), (1, vR 1), (2, vI (x2 + 1))]) [1, 2, 0] rfl ?_
        cases h
        exact ih _ _  _ (k1 _ rfl) hX

set_option maxRecDepth 10000 in
theorem run_X5_closedIsOne {M : Mem} {M2 : Mem} {r : Bool}   (h : m_X5_closedIsOne M = some (r, M2)) : RunI 2 yX5_closedIsOne cX5_closedIsOne 6 (some .boolean) [vR 24, vR 1] M (bI r) M2 := by
  refine runI_of (lv := [(0, vR 24), (1, vR 1)]) (by decide +kernel) (Or.inr ⟨rfl, bI_01 r⟩) (Nat.le_of_ble_eq_true rfl) rfl ?_
  intro G hQ
  unfold m_X5_closedIsOne at h
  refine r_aload_n dX5_closedIsOne_0 rfl 0 rfl ?_
  refine r_getR (j := 0) (v := 25) dX5_closedIsOne_1 f_X5_12 rfl rfl rfl ?_
  obtain ⟨M2, hc1, h⟩ := of_bd1 h
  refine r_callVV (st := []) dX5_closedIsOne_4 v_X5_28 (run_X9_clear rfl hc1) (by decide) (by decide) rfl rfl (Nat.le_of_ble_eq_true rfl) rfl ?_
  refine r_aload_n dX5_closedIsOne_7 rfl 0 rfl ?_
  refine r_getR (j := 0) (v := 25) dX5_closedIsOne_8 f_X5_12 rfl rfl rfl ?_
  refine r_iconst dX5_closedIsOne_11 ?_
  obtain ⟨b4, M5, hc3, h⟩ := of_bd2 h
  refine r_callVI (st := []) dX5_closedIsOne_12 v_X5_45 (run_X9_reach rfl hc3) (by decide) (by decide) rfl rfl (Nat.le_of_ble_eq_true rfl) rfl ?_
  refine r_pop dX5_closedIsOne_15 rfl ?_
  refine r_iconst dX5_closedIsOne_16 ?_
  refine r_istore_n (lv2 := [(2, vI 0), (0, vR 24), (1, vR 1)]) dX5_closedIsOne_17 rfl (by decide) rfl ?_
  obtain ⟨y19, M20, h9, h⟩ := of_bd2 h
  refine r_sub (lv2 := [(0, vR 24), (1, vR 1), (2, vI 0)]) [1, 2, 0] rfl ?_
  refine lp_X5_closedIsOne_L18   (fun w => w = (y19, M20)) ?_ FU 0 M5 _ h9 rfl
  intro z0 z1 hw
  cases hw
  refine r_aload_n dX5_closedIsOne_122 rfl 0 rfl ?_
  refine r_getR (j := 0) (v := 25) dX5_closedIsOne_123 f_X5_12 rfl rfl rfl ?_
  refine r_getI (j := 2) (jz := 2) dX5_closedIsOne_126 f_X5_37 rfl rfl rfl ?_
  refine r_aload_n dX5_closedIsOne_129 rfl 1 rfl ?_
  refine r_getI (j := 0) (jz := 0) dX5_closedIsOne_130 f_X5_64 rfl rfl rfl ?_
  refine r_iconst dX5_closedIsOne_133 ?_
  refine r_iadd dX5_closedIsOne_134 ?_
  refine r_aload_n dX5_closedIsOne_135 rfl 1 rfl ?_
  refine r_getI (j := 1) (jz := 1) dX5_closedIsOne_136 f_X5_67 rfl rfl rfl ?_
  refine r_iconst dX5_closedIsOne_139 ?_
  refine r_iadd dX5_closedIsOne_140 ?_
  refine r_imul dX5_closedIsOne_141 ?_
  refine r_aload_n dX5_closedIsOne_142 rfl 1 rfl ?_
  obtain ⟨r22, hc21, h⟩ := of_bd1 h
  refine r_callVI (st := [vI (((gI M20 1 0) + 2) * ((gI M20 1 1) + 2)), vI (gI M20 25 2)]) dX5_closedIsOne_143 v_X5_57 (run_X10_openCells hc21) (by decide) (by decide) rfl rfl (Nat.le_of_ble_eq_true rfl) rfl ?_
  refine r_isub dX5_closedIsOne_146 ?_
  obtain ⟨v24, ev24, h⟩ := of_lt h
  have kJ : Ex G 2 cX5_closedIsOne RX5 6 155 [] [vI v24] M20 := by
    obtain ⟨cz, h⟩ := of_ck h
    rw [← bI_dec cz]
    cases h
    exact hQ _ _ dX5_closedIsOne_155
  clear h
  by_cases c23 : wr (gI M20 25 2) = wr ((((gI M20 1 0) + 2) * ((gI M20 1 1) + 2)) - r22)
  · skip
    refine r_icmp_ne (tgt := 154) dX5_closedIsOne_147 (by decide) (fun q => absurd c23 q) (fun _ => ?_)
    refine r_iconst dX5_closedIsOne_150 ?_
    refine r_goto (tgt := 155) dX5_closedIsOne_151 (by decide) ?_
    rw [show v24 = 1 from by rw [ev24, if_pos c23]] at kJ
    refine r_sub (lv2 := []) [] rfl ?_
    exact kJ
  · skip
    refine r_icmp_ne (tgt := 154) dX5_closedIsOne_147 (by decide) (fun _ => ?_) (fun q => absurd q c23)
    refine r_iconst dX5_closedIsOne_154 ?_
    rw [show v24 = 0 from by rw [ev24, if_neg c23]] at kJ
    refine r_sub (lv2 := []) [] rfl ?_
    exact kJ

