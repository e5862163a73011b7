def m_X12_next_L0 (M : Mem)   : Option ((Mem) ⊕ (Mem)) :=
  if wr (gI M 55 8) ≤ wr (gI M 55 9) then
    some (.inr (M))
  else
    if 0 ≤ wr (gI M 55 9) ∧ wr (gI M 55 9) < 90 then
    if wr (gI M 61 (wr (gI M 55 9))) = wr 32 then
      lt (sI M 55 9 ((gI M 55 9) + 1)) fun M4 =>
      some (.inl (M4))
    else
      some (.inr (M))
    else none
def m_X12_next (M : Mem) : Option (Int × Mem) :=
  bd1 (itr (fun s => m_X12_next_L0 s  ) FU (M)) fun M5 =>
  bd1 (
    if wr (gI M5 55 8) ≤ wr (gI M5 55 9) then
      some (0)
    else
      if 0 ≤ wr (gI M5 55 9) ∧ wr (gI M5 55 9) < 90 then
      some ((gI M5 61 (wr (gI M5 55 9))))
      else none) fun (v8 : Int) =>
  some (v8, M5)
set_option maxRecDepth 10000 in
theorem lp_X12_next_L0 {G : Gx}    (X : (Mem) → Prop) (hX1 : ∀  (M : Mem), X (M) → Ex G 0 cX12_next RX12 1 38 [(0, vR 55)] [] M) : ∀ (nn : Nat)  (M : Mem) (out : Mem), itr (fun s => m_X12_next_L0 s  ) nn (M) = some out → X out → Ex G 0 cX12_next RX12 1 0 [(0, vR 55)] [] M := by
  intro nn
  induction nn with
  | zero =>
    intro M out h _
    cases h
  | succ nn ih =>
    intro M out h0 hX
    obtain ⟨w, h, k1, k2⟩ := itr_inv h0
    have h : m_X12_next_L0 M   = some w := h
    unfold m_X12_next_L0 at h
    refine r_aload_n dX12_next_0 rfl 0 rfl ?_
    refine r_getI (j := 9) (jz := 9) dX12_next_1 f_X12_133 rfl rfl rfl ?_
    refine r_aload_n dX12_next_4 rfl 0 rfl ?_
    refine r_getI (j := 8) (jz := 8) dX12_next_5 f_X12_130 rfl rfl rfl ?_
    by_cases c1 : wr (gI M 55 8) ≤ wr (gI M 55 9)
    · rw [if_pos c1] at h
      refine r_icmp_ge (tgt := 38) dX12_next_8 (by decide) (fun _ => ?_) (fun q => absurd c1 q)
      cases h
      cases k2 _ rfl
      exact hX1 _ hX
    · rw [if_neg c1] at h
      refine r_icmp_ge (tgt := 38) dX12_next_8 (by decide) (fun q => absurd q c1) (fun _ => ?_)
      refine r_aload_n dX12_next_11 rfl 0 rfl ?_
      refine r_getR (j := 7) (v := 61) dX12_next_12 f_X12_26 rfl rfl rfl ?_
      refine r_aload_n dX12_next_15 rfl 0 rfl ?_
      refine r_getI (j := 9) (jz := 9) dX12_next_16 f_X12_133 rfl rfl rfl ?_
      obtain ⟨c2, h⟩ := of_ck h
      refine r_iald dX12_next_19 rfl c2 ?_
      refine r_bipush dX12_next_20 (by decide) ?_
      by_cases c3 : wr (gI M 61 (wr (gI M 55 9))) = wr 32
      · rw [if_pos c3] at h
        refine r_icmp_ne (tgt := 38) dX12_next_22 (by decide) (fun q => absurd c3 q) (fun _ => ?_)
        refine r_aload_n dX12_next_25 rfl 0 rfl ?_
        refine r_dup dX12_next_26 rfl ?_
        refine r_getI (j := 9) (jz := 9) dX12_next_27 f_X12_133 rfl rfl rfl ?_
        refine r_iconst dX12_next_30 ?_
        refine r_iadd dX12_next_31 ?_
        obtain ⟨M4, eM4, h⟩ := of_lt h
        refine r_putI (j := 9) (jz := 9) dX12_next_32 p_X12_133 rfl rfl rfl rfl rfl ?_
        rw [← eM4]
        refine r_goto (tgt := 0) dX12_next_35 (by decide) ?_
        cases h
        exact ih _  _ (k1 _ rfl) hX
      · rw [if_neg c3] at h
        refine r_icmp_ne (tgt := 38) dX12_next_22 (by decide) (fun _ => ?_) (fun q => absurd q c3)
        cases h
        cases k2 _ rfl
        exact hX1 _ hX

set_option maxRecDepth 10000 in
theorem run_X12_next {M : Mem} {M2 : Mem} {r : Int}   (h : m_X12_next M = some (r, M2)) : RunI 0 yX12_next cX12_next 1 (some .int) [vR 55] M r M2 := by
  refine runI_of (lv := [(0, vR 55)]) (by decide +kernel) (Or.inl rfl) (Nat.le_of_ble_eq_true rfl) rfl ?_
  intro G hQ
  unfold m_X12_next at h
  obtain ⟨M5, h9, h⟩ := of_bd1 h
  refine lp_X12_next_L0   (fun w => w = (M5)) ?_ FU M _ h9 rfl
  intro z0 hw
  cases hw
  refine r_aload_n dX12_next_38 rfl 0 rfl ?_
  refine r_getI (j := 9) (jz := 9) dX12_next_39 f_X12_133 rfl rfl rfl ?_
  refine r_aload_n dX12_next_42 rfl 0 rfl ?_
  refine r_getI (j := 8) (jz := 8) dX12_next_43 f_X12_130 rfl rfl rfl ?_
  obtain ⟨v8, h9, h⟩ := of_bd1 h
  have kJ : Ex G 0 cX12_next RX12 1 62 [] [vI v8] M5 := by
    cases h
    exact hQ _ _ dX12_next_62
  clear h
  have h := h9
  clear h9
  by_cases c6 : wr (gI M5 55 8) ≤ wr (gI M5 55 9)
  · rw [if_pos c6] at h
    refine r_icmp_ge (tgt := 61) dX12_next_46 (by decide) (fun _ => ?_) (fun q => absurd c6 q)
    refine r_iconst dX12_next_61 ?_
    refine r_sub (lv2 := []) [] rfl ?_
    cases h
    exact kJ
  · rw [if_neg c6] at h
    refine r_icmp_ge (tgt := 61) dX12_next_46 (by decide) (fun q => absurd q c6) (fun _ => ?_)
    refine r_aload_n dX12_next_49 rfl 0 rfl ?_
    refine r_getR (j := 7) (v := 61) dX12_next_50 f_X12_26 rfl rfl rfl ?_
    refine r_aload_n dX12_next_53 rfl 0 rfl ?_
    refine r_getI (j := 9) (jz := 9) dX12_next_54 f_X12_133 rfl rfl rfl ?_
    obtain ⟨c7, h⟩ := of_ck h
    refine r_iald dX12_next_57 rfl c7 ?_
    refine r_goto (tgt := 62) dX12_next_58 (by decide) ?_
    refine r_sub (lv2 := []) [] rfl ?_
    cases h
    exact kJ

def m_X12_openMany_L4 (M : Mem)  (x1 : Int) (x2 : Int) : Option ((Int × Int) ⊕ (Int × Int)) :=
  if wr ((gI M 55 0) * (gI M 55 1)) ≤ wr x2 then
    some (.inr (x1, x2))
  else
    if 0 ≤ wr x2 ∧ wr x2 < 64 then
    lt (if wr (gI M 56 (wr x2)) = 0 then 0 else 1) fun (v4 : Int) =>
    some (.inl ((x1 + v4), (x2 + 1)))
    else none
def m_X12_openMany (M : Mem) : Option (Int) :=
  bd2 (itr (fun s => m_X12_openMany_L4 M  s.1 s.2) FU (0, 0)) fun y5 y6 =>
  some y5
set_option maxRecDepth 10000 in
theorem lp_X12_openMany_L4 {G : Gx} (M : Mem)    (X : (Int × Int) → Prop) (hX1 : ∀ (x1 : Int) (x2 : Int), X (x1, x2) → Ex G 0 cX12_openMany RX12 3 40 [(0, vR 55), (1, vI x1), (2, vI x2)] [] M) : ∀ (nn : Nat) (x1 : Int) (x2 : Int) (out : Int × Int), itr (fun s => m_X12_openMany_L4 M  s.1 s.2) nn (x1, x2) = some out → X out → Ex G 0 cX12_openMany RX12 3 4 [(0, vR 55), (1, vI x1), (2, vI x2)] [] M := by
  intro nn
  induction nn with
  | zero =>
    intro x1 x2 out h _
    cases h
  | succ nn ih =>
    intro x1 x2 out h0 hX
    obtain ⟨w, h, k1, k2⟩ := itr_inv h0
    have h : m_X12_openMany_L4 M  x1 x2 = some w := h
    unfold m_X12_openMany_L4 at h
    refine r_iload_n dX12_openMany_4 rfl 2 rfl ?_
    refine r_aload_n dX12_openMany_5 rfl 0 rfl ?_
    refine r_getI (j := 0) (jz := 0) dX12_openMany_6 f_X12_88 rfl rfl rfl ?_
    refine r_aload_n dX12_openMany_9 rfl 0 rfl ?_
    refine r_getI (j := 1) (jz := 1) dX12_openMany_10 f_X12_92 rfl rfl rfl ?_
    refine r_imul dX12_openMany_13 ?_
    by_cases c1 : wr ((gI M 55 0) * (gI M 55 1)) ≤ wr x2
    · rw [if_pos c1] at h
      refine r_icmp_ge (tgt := 40) dX12_openMany_14 (by decide) (fun _ => ?_) (fun q => absurd c1 q)
      cases h
      cases k2 _ rfl
      exact hX1 _ _ hX
    · rw [if_neg c1] at h
      refine r_icmp_ge (tgt := 40) dX12_openMany_14 (by decide) (fun q => absurd q c1) (fun _ => ?_)
      refine r_iload_n dX12_openMany_17 rfl 1 rfl ?_
      refine r_aload_n dX12_openMany_18 rfl 0 rfl ?_
      refine r_getR (j := 2) (v := 56) dX12_openMany_19 f_X12_7 rfl rfl rfl ?_
      refine r_iload_n dX12_openMany_22 rfl 2 rfl ?_
      obtain ⟨c2, h⟩ := of_ck h
      refine r_zald dX12_openMany_23 rfl c2 ?_
      obtain ⟨v4, ev4, h⟩ := of_lt h
      have kJ : Ex G 0 cX12_openMany RX12 3 32 [(0, vR 55), (2, vI x2)] [vI v4, vI x1] M := by
        refine r_iadd dX12_openMany_32 ?_
        refine r_istore_n (lv2 := [(1, vI (x1 + v4)), (0, vR 55), (2, vI x2)]) dX12_openMany_33 rfl (by decide) rfl ?_
        refine r_iinc (lv2 := [(2, vI (x2 + 1)), (1, vI (x1 + v4)), (0, vR 55)]) dX12_openMany_34 2 rfl (by decide) rfl ?_
        refine r_goto (tgt := 4) dX12_openMany_37 (by decide) ?_
        refine r_sub (lv2 := [(0, vR 55), (1, vI (x1 + v4)), (2, vI (x2 + 1))]) [2, 1, 0] rfl ?_
        cases h
        exact ih _ _  _ (k1 _ rfl) hX
      clear h
      by_cases c3 : wr (gI M 56 (wr x2)) = 0
      · skip
        refine r_if_eq (tgt := 31) dX12_openMany_24 (by decide) (fun _ => ?_) (fun q => absurd c3 q)
        refine r_iconst dX12_openMany_31 ?_
        rw [show v4 = 0 from by rw [ev4, if_pos c3]] at kJ
        refine r_sub (lv2 := [(0, vR 55), (2, vI x2)]) [0, 2] rfl ?_
        exact kJ
      · skip
        refine r_if_eq (tgt := 31) dX12_openMany_24 (by decide) (fun q => absurd q c3) (fun _ => ?_)
        refine r_iconst dX12_openMany_27 ?_
        refine r_goto (tgt := 32) dX12_openMany_28 (by decide) ?_
        rw [show v4 = 1 from by rw [ev4, if_neg c3]] at kJ
        refine r_sub (lv2 := [(0, vR 55), (2, vI x2)]) [0, 2] rfl ?_
        exact kJ

set_option maxRecDepth 10000 in
theorem run_X12_openMany {M : Mem} {r : Int}   (h : m_X12_openMany M = some r) : RunI 0 yX12_openMany cX12_openMany 3 (some .int) [vR 55] M r M := by
  refine runI_of (lv := [(0, vR 55)]) (by decide +kernel) (Or.inl rfl) (Nat.le_of_ble_eq_true rfl) rfl ?_
  intro G hQ
  unfold m_X12_openMany at h
  refine r_iconst dX12_openMany_0 ?_
  refine r_istore_n (lv2 := [(1, vI 0), (0, vR 55)]) dX12_openMany_1 rfl (by decide) rfl ?_
  refine r_iconst dX12_openMany_2 ?_
  refine r_istore_n (lv2 := [(2, vI 0), (1, vI 0), (0, vR 55)]) dX12_openMany_3 rfl (by decide) rfl ?_
  obtain ⟨y5, y6, h9, h⟩ := of_bd2 h
  refine r_sub (lv2 := [(0, vR 55), (1, vI 0), (2, vI 0)]) [2, 1, 0] rfl ?_
  refine lp_X12_openMany_L4 M   (fun w => w = (y5, y6)) ?_ FU 0 0 _ h9 rfl
  intro z0 z1 hw
  cases hw
  refine r_iload_n dX12_openMany_40 rfl 1 rfl ?_
  cases h
  exact hQ _ _ dX12_openMany_41

def m_X12_read_L38 (M : Mem) (p1 : Int) (p2 : Int) (p6 : Int) (x5 : Int) : Option ((Int × Mem) ⊕ (Int × Mem)) :=
  if wr p6 ≤ wr x5 then
    some (.inr (x5, M))
  else
    bd2 (m_X12_next M) fun r8 M9 =>
    if wr r8 = wr 46 then
      bd2 (m_X12_next M9) fun r12 M13 =>
      lt (if wr r12 = wr 46 then 1 else 0) fun (v15 : Int) =>
      if 0 ≤ wr ((8 * p2) + x5) ∧ wr ((8 * p2) + x5) < 64 then
      if v15 = 0 ∨ v15 = 1 then
      lt (sI M13 62 (wr ((8 * p2) + x5)) v15) fun M18 =>
      lt (sI M18 55 9 ((gI M18 55 9) + 1)) fun M19 =>
      some (.inl ((x5 + 1), M19))
      else none
      else none
    else
      bd2 (m_X12_next M9) fun r21 M22 =>
      if wr r21 = wr 35 then
        bd2 (m_X12_next M22) fun r25 M26 =>
        lt (if wr r25 = wr 46 then 1 else 0) fun (v28 : Int) =>
        if 0 ≤ wr ((8 * p2) + x5) ∧ wr ((8 * p2) + x5) < 64 then
        if v28 = 0 ∨ v28 = 1 then
        lt (sI M26 62 (wr ((8 * p2) + x5)) v28) fun M31 =>
        lt (sI M31 55 9 ((gI M31 55 9) + 1)) fun M32 =>
        some (.inl ((x5 + 1), M32))
        else none
        else none
      else
        some (.inr (x5, M22))
def m_X12_read_L14 (M : Mem)  (x1 : Int) (x2 : Int) (x3 : Int) (x4 : Int) : Option ((Int × Int × Int × Int × Mem) ⊕ (Int × Int × Int × Int × Mem)) :=
  if wr x4 = 0 then
    some (.inr (x1, x2, x3, x4, M))
  else
    if wr x3 = 0 then
      lt (if wr x2 = 0 then 8 else x1) fun (v5 : Int) =>
      bd2 (itr (fun s => m_X12_read_L38 s.2 x1 x2 v5 s.1) FU (0, M)) fun y33 M34 =>
      lt (if wr y33 = 0 then 1 else (if wr x2 ≤ 0 then 0 else (if wr x1 ≤ wr y33 then 0 else 1))) fun (v38 : Int) =>
      lt (if wr x2 = 0 then y33 else x1) fun (v40 : Int) =>
      lt (if wr v38 = 0 then 1 else 0) fun (v42 : Int) =>
      bd2 (
        if wr v38 = 0 then
          if wr 8 ≤ wr (x2 + v42) then
            some (0, M34)
          else
            bd2 (m_X12_next M34) fun r46 M47 =>
            if wr r46 = wr 59 then
              some (1, M47)
            else
              some (0, M47)
        else
          some (0, M34)) fun (v49 : Int) (M50 : Mem) =>
      lt (if wr v49 = 0 then 0 else 1) fun (v52 : Int) =>
      lt (sI M50 55 9 ((gI M50 55 9) + v52)) fun M53 =>
      some (.inl (v40, (x2 + v42), v38, v49, M53))
    else
      some (.inr (x1, x2, x3, x4, M))
def m_X12_read_L240 (M : Mem)  (x5 : Int) : Option ((Int × Mem) ⊕ (Int × Mem)) :=
  if wr ((gI M 55 0) * (gI M 55 1)) ≤ wr x5 then
    some (.inr (x5, M))
  else
    if ¬ wr (gI M 55 0) = 0 then
    if 0 ≤ wr ((8 * (idv x5 (gI M 55 0))) + (irm x5 (gI M 55 0))) ∧ wr ((8 * (idv x5 (gI M 55 0))) + (irm x5 (gI M 55 0))) < 64 then
    if 0 ≤ wr x5 ∧ wr x5 < 64 then
    if (gI M 62 (wr ((8 * (idv x5 (gI M 55 0))) + (irm x5 (gI M 55 0))))) = 0 ∨ (gI M 62 (wr ((8 * (idv x5 (gI M 55 0))) + (irm x5 (gI M 55 0))))) = 1 then
    lt (sI M 56 (wr x5) (gI M 62 (wr ((8 * (idv x5 (gI M 55 0))) + (irm x5 (gI M 55 0)))))) fun M75 =>
    some (.inl ((x5 + 1), M75))
    else none
    else none
    else none
    else none
def m_X12_read (M : Mem) : Option (Int × Mem) :=
  lt (sI M 55 9 0) fun M1 =>
  bd5 (itr (fun s => m_X12_read_L14 s.2.2.2.2  s.1 s.2.1 s.2.2.1 s.2.2.2.1) FU (0, 0, 0, 1, M1)) fun y54 y55 y56 y57 M58 =>
  bd2 (
    if wr y56 = 0 then
      bd2 (m_X12_next M58) fun r61 M62 =>
      if wr r61 = 0 then
        some (0, M62)
      else
        some (1, M62)
    else
      some (1, M58)) fun (v64 : Int) (M65 : Mem) =>
  lt (sI M65 55 8 0) fun M66 =>
  if wr v64 = 0 then
    bd1 (m_X12_begins M66 y54 y55) fun M69 =>
    bd2 (itr (fun s => m_X12_read_L240 s.2  s.1) FU (0, M69)) fun y76 M77 =>
    bd1 (m_X12_openMany M77) fun r79 =>
    some (r79, M77)
  else
    some (((-20) - (gI M66 55 9)), M66)
set_option maxRecDepth 10000 in
theorem lp_X12_read_L38 {G : Gx} (p1 : Int) (p2 : Int) (p6 : Int)   (X : (Int × Mem) → Prop) (hX1 : ∀ (x5 : Int) (M : Mem), X (x5, M) → Ex G 2 cX12_read RX12 7 105 [(0, vR 55), (1, vI p1), (2, vI p2), (5, vI x5), (6, vI p6)] [] M) : ∀ (nn : Nat) (x5 : Int) (M : Mem) (out : Int × Mem), itr (fun s => m_X12_read_L38 s.2 p1 p2 p6 s.1) nn (x5, M) = some out → X out → Ex G 2 cX12_read RX12 7 38 [(0, vR 55), (1, vI p1), (2, vI p2), (5, vI x5), (6, vI p6)] [] M := by
  intro nn
  induction nn with
  | zero =>
    intro x5 M out h _
    cases h
  | succ nn ih =>
    intro x5 M out h0 hX
    obtain ⟨w, h, k1, k2⟩ := itr_inv h0
    have h : m_X12_read_L38 M p1 p2 p6 x5 = some w := h
    unfold m_X12_read_L38 at h
    refine r_iload dX12_read_38 3 rfl ?_
    refine r_iload dX12_read_40 4 rfl ?_
    by_cases c6 : wr p6 ≤ wr x5
    · rw [if_pos c6] at h
      refine r_icmp_ge (tgt := 105) dX12_read_42 (by decide) (fun _ => ?_) (fun q => absurd c6 q)
      cases h
      cases k2 _ rfl
      exact hX1 _ _ hX
    · rw [if_neg c6] at h
      refine r_icmp_ge (tgt := 105) dX12_read_42 (by decide) (fun q => absurd q c6) (fun _ => ?_)
      refine r_aload_n dX12_read_45 rfl 0 rfl ?_
      obtain ⟨r8, M9, hc7, h⟩ := of_bd2 h
      refine r_callVI (st := []) dX12_read_46 v_X12_136 (run_X12_next hc7) (by decide) (by decide) rfl rfl (Nat.le_of_ble_eq_true rfl) rfl ?_
      refine r_bipush dX12_read_49 (by decide) ?_
      by_cases c10 : wr r8 = wr 46
      · rw [if_pos c10] at h
        refine r_icmp_eq (tgt := 63) dX12_read_51 (by decide) (fun _ => ?_) (fun q => absurd c10 q)
        refine r_aload_n dX12_read_63 rfl 0 rfl ?_
        refine r_getR (j := 10) (v := 62) dX12_read_64 f_X12_29 rfl rfl rfl ?_
        refine r_bipush dX12_read_67 (by decide) ?_
        refine r_iload_n dX12_read_69 rfl 2 rfl ?_
        refine r_imul dX12_read_70 ?_
        refine r_iload dX12_read_71 3 rfl ?_
        refine r_iadd dX12_read_73 ?_
        refine r_aload_n dX12_read_74 rfl 0 rfl ?_
        obtain ⟨r12, M13, hc11, h⟩ := of_bd2 h
        refine r_callVI (st := [vI ((8 * p2) + x5), vR 62]) dX12_read_75 v_X12_136 (run_X12_next hc11) (by decide) (by decide) rfl rfl (Nat.le_of_ble_eq_true rfl) rfl ?_
        refine r_bipush dX12_read_78 (by decide) ?_
        obtain ⟨v15, ev15, h⟩ := of_lt h
        have kJ : Ex G 2 cX12_read RX12 7 88 [(0, vR 55), (1, vI p1), (2, vI p2), (5, vI x5), (6, vI p6)] [vI v15, vI ((8 * p2) + x5), vR 62] M13 := by
          obtain ⟨c16, h⟩ := of_ck h
          obtain ⟨c17, h⟩ := of_ck h
          obtain ⟨M18, eM18, h⟩ := of_lt h
          refine r_zast dX12_read_88 rfl c16 c17 ?_
          rw [← eM18]
          refine r_iinc (lv2 := [(5, vI (x5 + 1)), (0, vR 55), (1, vI p1), (2, vI p2), (6, vI p6)]) dX12_read_89 3 rfl (by decide) rfl ?_
          refine r_aload_n dX12_read_92 rfl 1 rfl ?_
          refine r_dup dX12_read_93 rfl ?_
          refine r_getI (j := 9) (jz := 9) dX12_read_94 f_X12_133 rfl rfl rfl ?_
          refine r_iconst dX12_read_97 ?_
          refine r_iadd dX12_read_98 ?_
          obtain ⟨M19, eM19, h⟩ := of_lt h
          refine r_putI (j := 9) (jz := 9) dX12_read_99 p_X12_133 rfl rfl rfl rfl rfl ?_
          rw [← eM19]
          refine r_goto (tgt := 38) dX12_read_102 (by decide) ?_
          refine r_sub (lv2 := [(0, vR 55), (1, vI p1), (2, vI p2), (5, vI (x5 + 1)), (6, vI p6)]) [1, 2, 3, 0, 4] rfl ?_
          cases h
          exact ih _ _  _ (k1 _ rfl) hX
        clear h
        by_cases c14 : wr r12 = wr 46
        · skip
          refine r_icmp_ne (tgt := 87) dX12_read_80 (by decide) (fun q => absurd c14 q) (fun _ => ?_)
          refine r_iconst dX12_read_83 ?_
          refine r_goto (tgt := 88) dX12_read_84 (by decide) ?_
          rw [show v15 = 1 from by rw [ev15, if_pos c14]] at kJ
          exact kJ
        · skip
          refine r_icmp_ne (tgt := 87) dX12_read_80 (by decide) (fun _ => ?_) (fun q => absurd q c14)
          refine r_iconst dX12_read_87 ?_
          rw [show v15 = 0 from by rw [ev15, if_neg c14]] at kJ
          exact kJ
      · rw [if_neg c10] at h
        refine r_icmp_eq (tgt := 63) dX12_read_51 (by decide) (fun q => absurd q c10) (fun _ => ?_)
        refine r_aload_n dX12_read_54 rfl 0 rfl ?_
        obtain ⟨r21, M22, hc20, h⟩ := of_bd2 h
        refine r_callVI (st := []) dX12_read_55 v_X12_136 (run_X12_next hc20) (by decide) (by decide) rfl rfl (Nat.le_of_ble_eq_true rfl) rfl ?_
        refine r_bipush dX12_read_58 (by decide) ?_
        by_cases c23 : wr r21 = wr 35
        · rw [if_pos c23] at h
          refine r_icmp_ne (tgt := 105) dX12_read_60 (by decide) (fun q => absurd c23 q) (fun _ => ?_)
          refine r_aload_n dX12_read_63 rfl 0 rfl ?_
          refine r_getR (j := 10) (v := 62) dX12_read_64 f_X12_29 rfl rfl rfl ?_
          refine r_bipush dX12_read_67 (by decide) ?_
          refine r_iload_n dX12_read_69 rfl 2 rfl ?_
          refine r_imul dX12_read_70 ?_
          refine r_iload dX12_read_71 3 rfl ?_
          refine r_iadd dX12_read_73 ?_
          refine r_aload_n dX12_read_74 rfl 0 rfl ?_
          obtain ⟨r25, M26, hc24, h⟩ := of_bd2 h
          refine r_callVI (st := [vI ((8 * p2) + x5), vR 62]) dX12_read_75 v_X12_136 (run_X12_next hc24) (by decide) (by decide) rfl rfl (Nat.le_of_ble_eq_true rfl) rfl ?_
          refine r_bipush dX12_read_78 (by decide) ?_
          obtain ⟨v28, ev28, h⟩ := of_lt h
          have kJ : Ex G 2 cX12_read RX12 7 88 [(0, vR 55), (1, vI p1), (2, vI p2), (5, vI x5), (6, vI p6)] [vI v28, vI ((8 * p2) + x5), vR 62] M26 := by
            obtain ⟨c29, h⟩ := of_ck h
            obtain ⟨c30, h⟩ := of_ck h
            obtain ⟨M31, eM31, h⟩ := of_lt h
            refine r_zast dX12_read_88 rfl c29 c30 ?_
            rw [← eM31]
            refine r_iinc (lv2 := [(5, vI (x5 + 1)), (0, vR 55), (1, vI p1), (2, vI p2), (6, vI p6)]) dX12_read_89 3 rfl (by decide) rfl ?_
            refine r_aload_n dX12_read_92 rfl 1 rfl ?_
            refine r_dup dX12_read_93 rfl ?_
            refine r_getI (j := 9) (jz := 9) dX12_read_94 f_X12_133 rfl rfl rfl ?_
            refine r_iconst dX12_read_97 ?_
            refine r_iadd dX12_read_98 ?_
            obtain ⟨M32, eM32, h⟩ := of_lt h
            refine r_putI (j := 9) (jz := 9) dX12_read_99 p_X12_133 rfl rfl rfl rfl rfl ?_
            rw [← eM32]
            refine r_goto (tgt := 38) dX12_read_102 (by decide) ?_
            refine r_sub (lv2 := [(0, vR 55), (1, vI p1), (2, vI p2), (5, vI (x5 + 1)), (6, vI p6)]) [1, 2, 3, 0, 4] rfl ?_
            cases h
            exact ih _ _  _ (k1 _ rfl) hX
          clear h
          by_cases c27 : wr r25 = wr 46
          · skip
            refine r_icmp_ne (tgt := 87) dX12_read_80 (by decide) (fun q => absurd c27 q) (fun _ => ?_)
            refine r_iconst dX12_read_83 ?_
            refine r_goto (tgt := 88) dX12_read_84 (by decide) ?_
            rw [show v28 = 1 from by rw [ev28, if_pos c27]] at kJ
            exact kJ
          · skip
            refine r_icmp_ne (tgt := 87) dX12_read_80 (by decide) (fun _ => ?_) (fun q => absurd q c27)
            refine r_iconst dX12_read_87 ?_
            rw [show v28 = 0 from by rw [ev28, if_neg c27]] at kJ
            exact kJ
        · rw [if_neg c23] at h
          refine r_icmp_ne (tgt := 105) dX12_read_60 (by decide) (fun _ => ?_) (fun q => absurd q c23)
          cases h
          cases k2 _ rfl
          exact hX1 _ _ hX

set_option maxRecDepth 10000 in
theorem lp_X12_read_L14 {G : Gx}    (X : (Int × Int × Int × Int × Mem) → Prop) (hX1 : ∀ (x1 : Int) (x2 : Int) (x3 : Int) (x4 : Int) (M : Mem), X (x1, x2, x3, x4, M) → Ex G 2 cX12_read RX12 7 197 [(0, vR 55), (1, vI x1), (2, vI x2), (3, vI x3), (4, vI x4)] [] M) : ∀ (nn : Nat) (x1 : Int) (x2 : Int) (x3 : Int) (x4 : Int) (M : Mem) (out : Int × Int × Int × Int × Mem), itr (fun s => m_X12_read_L14 s.2.2.2.2  s.1 s.2.1 s.2.2.1 s.2.2.2.1) nn (x1, x2, x3, x4, M) = some out → X out → Ex G 2 cX12_read RX12 7 14 [(0, vR 55), (1, vI x1), (2, vI x2), (3, vI x3), (4, vI x4)] [] M := by
  intro nn
  induction nn with
  | zero =>
    intro x1 x2 x3 x4 M out h _
    cases h
  | succ nn ih =>
    intro x1 x2 x3 x4 M out h0 hX
    obtain ⟨w, h, k1, k2⟩ := itr_inv h0
    have h : m_X12_read_L14 M  x1 x2 x3 x4 = some w := h
    unfold m_X12_read_L14 at h
    refine r_iload dX12_read_14 4 rfl ?_
    by_cases c2 : wr x4 = 0
    · rw [if_pos c2] at h
      refine r_if_eq (tgt := 197) dX12_read_16 (by decide) (fun _ => ?_) (fun q => absurd c2 q)
      cases h
      cases k2 _ rfl
      exact hX1 _ _ _ _ _ hX
    · rw [if_neg c2] at h
      refine r_if_eq (tgt := 197) dX12_read_16 (by decide) (fun q => absurd q c2) (fun _ => ?_)
      refine r_iload_n dX12_read_19 rfl 3 rfl ?_
      by_cases c3 : wr x3 = 0
      · rw [if_pos c3] at h
        refine r_if_ne (tgt := 197) dX12_read_20 (by decide) (fun q => absurd c3 q) (fun _ => ?_)
        refine r_iconst dX12_read_23 ?_
        refine r_istore (lv2 := [(5, vI 0), (0, vR 55), (1, vI x1), (2, vI x2), (3, vI x3), (4, vI x4)]) dX12_read_24 (by decide) rfl ?_
        refine r_iload_n dX12_read_26 rfl 3 rfl ?_
        obtain ⟨v5, ev5, h⟩ := of_lt h
        have kJ : Ex G 2 cX12_read RX12 7 36 [(0, vR 55), (1, vI x1), (2, vI x2), (5, vI 0)] [vI v5] M := by
          refine r_istore (lv2 := [(6, vI v5), (0, vR 55), (1, vI x1), (2, vI x2), (5, vI 0)]) dX12_read_36 (by decide) rfl ?_
          obtain ⟨y33, M34, h9, h⟩ := of_bd2 h
          refine r_sub (lv2 := [(0, vR 55), (1, vI x1), (2, vI x2), (5, vI 0), (6, vI v5)]) [1, 2, 3, 4, 0] rfl ?_
          refine lp_X12_read_L38 x1 x2 v5  (fun w => w = (y33, M34)) ?_ FU 0 M _ h9 rfl
          intro z0 z1 hw
          cases hw
          refine r_iload dX12_read_105 3 rfl ?_
          obtain ⟨v38, ev38, h⟩ := of_lt h
          have kJ : Ex G 2 cX12_read RX12 7 125 [(0, vR 55), (1, vI x1), (2, vI x2), (5, vI y33)] [vI v38] M34 := by
            refine r_istore_n (lv2 := [(3, vI v38), (0, vR 55), (1, vI x1), (2, vI x2), (5, vI y33)]) dX12_read_125 rfl (by decide) rfl ?_
            refine r_iload_n dX12_read_126 rfl 3 rfl ?_
            obtain ⟨v40, ev40, h⟩ := of_lt h
            have kJ : Ex G 2 cX12_read RX12 7 136 [(0, vR 55), (2, vI x2), (3, vI v38)] [vI v40] M34 := by
              refine r_istore_n (lv2 := [(1, vI v40), (0, vR 55), (2, vI x2), (3, vI v38)]) dX12_read_136 rfl (by decide) rfl ?_
              refine r_iload_n dX12_read_137 rfl 2 rfl ?_
              refine r_iload_n dX12_read_138 rfl 3 rfl ?_
              obtain ⟨v42, ev42, h⟩ := of_lt h
              have kJ : Ex G 2 cX12_read RX12 7 147 [(0, vR 55), (1, vI v40), (3, vI v38)] [vI v42, vI x2] M34 := by
                refine r_iadd dX12_read_147 ?_
                refine r_istore_n (lv2 := [(2, vI (x2 + v42)), (0, vR 55), (1, vI v40), (3, vI v38)]) dX12_read_148 rfl (by decide) rfl ?_
                refine r_iload_n dX12_read_149 rfl 3 rfl ?_
                obtain ⟨v49, M50, h9, h⟩ := of_bd2 h
                have kJ : Ex G 2 cX12_read RX12 7 173 [(0, vR 55), (1, vI v40), (2, vI (x2 + v42)), (3, vI v38)] [vI v49] M50 := by
                  refine r_istore (lv2 := [(4, vI v49), (0, vR 55), (1, vI v40), (2, vI (x2 + v42)), (3, vI v38)]) dX12_read_173 (by decide) rfl ?_
                  refine r_aload_n dX12_read_175 rfl 1 rfl ?_
                  refine r_dup dX12_read_176 rfl ?_
                  refine r_getI (j := 9) (jz := 9) dX12_read_177 f_X12_133 rfl rfl rfl ?_
                  refine r_iload dX12_read_180 0 rfl ?_
                  obtain ⟨v52, ev52, h⟩ := of_lt h
                  have kJ : Ex G 2 cX12_read RX12 7 190 [(0, vR 55), (1, vI v40), (2, vI (x2 + v42)), (3, vI v38), (4, vI v49)] [vI v52, vI (gI M50 55 9), vR 55] M50 := by
                    refine r_iadd dX12_read_190 ?_
                    obtain ⟨M53, eM53, h⟩ := of_lt h
                    refine r_putI (j := 9) (jz := 9) dX12_read_191 p_X12_133 rfl rfl rfl rfl rfl ?_
                    rw [← eM53]
                    refine r_goto (tgt := 14) dX12_read_194 (by decide) ?_
                    cases h
                    exact ih _ _ _ _ _  _ (k1 _ rfl) hX
                  clear h
                  by_cases c51 : wr v49 = 0
                  · skip
                    refine r_if_eq (tgt := 189) dX12_read_182 (by decide) (fun _ => ?_) (fun q => absurd c51 q)
                    refine r_iconst dX12_read_189 ?_
                    rw [show v52 = 0 from by rw [ev52, if_pos c51]] at kJ
                    refine r_sub (lv2 := [(0, vR 55), (1, vI v40), (2, vI (x2 + v42)), (3, vI v38), (4, vI v49)]) [1, 2, 3, 4, 0] rfl ?_
                    exact kJ
                  · skip
                    refine r_if_eq (tgt := 189) dX12_read_182 (by decide) (fun q => absurd q c51) (fun _ => ?_)
                    refine r_iconst dX12_read_185 ?_
                    refine r_goto (tgt := 190) dX12_read_186 (by decide) ?_
                    rw [show v52 = 1 from by rw [ev52, if_neg c51]] at kJ
                    refine r_sub (lv2 := [(0, vR 55), (1, vI v40), (2, vI (x2 + v42)), (3, vI v38), (4, vI v49)]) [1, 2, 3, 4, 0] rfl ?_
                    exact kJ
                clear h
                have h := h9
                clear h9
                by_cases c43 : wr v38 = 0
                · rw [if_pos c43] at h
                  refine r_if_ne (tgt := 172) dX12_read_150 (by decide) (fun q => absurd c43 q) (fun _ => ?_)
                  refine r_iload_n dX12_read_153 rfl 0 rfl ?_
                  refine r_bipush dX12_read_154 (by decide) ?_
                  by_cases c44 : wr 8 ≤ wr (x2 + v42)
                  · rw [if_pos c44] at h
                    refine r_icmp_ge (tgt := 172) dX12_read_156 (by decide) (fun _ => ?_) (fun q => absurd c44 q)
                    refine r_iconst dX12_read_172 ?_
                    refine r_sub (lv2 := [(0, vR 55), (1, vI v40), (2, vI (x2 + v42)), (3, vI v38)]) [1, 2, 0, 3] rfl ?_
                    cases h
                    exact kJ
                  · rw [if_neg c44] at h
                    refine r_icmp_ge (tgt := 172) dX12_read_156 (by decide) (fun q => absurd q c44) (fun _ => ?_)
                    refine r_aload_n dX12_read_159 rfl 1 rfl ?_
                    obtain ⟨r46, M47, hc45, h⟩ := of_bd2 h
                    refine r_callVI (st := []) dX12_read_160 v_X12_136 (run_X12_next hc45) (by decide) (by decide) rfl rfl (Nat.le_of_ble_eq_true rfl) rfl ?_
                    refine r_bipush dX12_read_163 (by decide) ?_
                    by_cases c48 : wr r46 = wr 59
                    · rw [if_pos c48] at h
                      refine r_icmp_ne (tgt := 172) dX12_read_165 (by decide) (fun q => absurd c48 q) (fun _ => ?_)
                      refine r_iconst dX12_read_168 ?_
                      refine r_goto (tgt := 173) dX12_read_169 (by decide) ?_
                      refine r_sub (lv2 := [(0, vR 55), (1, vI v40), (2, vI (x2 + v42)), (3, vI v38)]) [1, 2, 0, 3] rfl ?_
                      cases h
                      exact kJ
                    · rw [if_neg c48] at h
                      refine r_icmp_ne (tgt := 172) dX12_read_165 (by decide) (fun _ => ?_) (fun q => absurd q c48)
                      refine r_iconst dX12_read_172 ?_
                      refine r_sub (lv2 := [(0, vR 55), (1, vI v40), (2, vI (x2 + v42)), (3, vI v38)]) [1, 2, 0, 3] rfl ?_
                      cases h
                      exact kJ
                · rw [if_neg c43] at h
                  refine r_if_ne (tgt := 172) dX12_read_150 (by decide) (fun _ => ?_) (fun q => absurd q c43)
                  refine r_iconst dX12_read_172 ?_
                  refine r_sub (lv2 := [(0, vR 55), (1, vI v40), (2, vI (x2 + v42)), (3, vI v38)]) [1, 2, 0, 3] rfl ?_
                  cases h
                  exact kJ
              clear h
              by_cases c41 : wr v38 = 0
              · skip
                refine r_if_eq (tgt := 146) dX12_read_139 (by decide) (fun _ => ?_) (fun q => absurd c41 q)
                refine r_iconst dX12_read_146 ?_
                rw [show v42 = 1 from by rw [ev42, if_pos c41]] at kJ
                refine r_sub (lv2 := [(0, vR 55), (1, vI v40), (3, vI v38)]) [1, 0, 3] rfl ?_
                exact kJ
              · skip
                refine r_if_eq (tgt := 146) dX12_read_139 (by decide) (fun q => absurd q c41) (fun _ => ?_)
                refine r_iconst dX12_read_142 ?_
                refine r_goto (tgt := 147) dX12_read_143 (by decide) ?_
                rw [show v42 = 0 from by rw [ev42, if_neg c41]] at kJ
                refine r_sub (lv2 := [(0, vR 55), (1, vI v40), (3, vI v38)]) [1, 0, 3] rfl ?_
                exact kJ
            clear h
            by_cases c39 : wr x2 = 0
            · skip
              refine r_if_ne (tgt := 135) dX12_read_127 (by decide) (fun q => absurd c39 q) (fun _ => ?_)
              refine r_iload dX12_read_130 4 rfl ?_
              refine r_goto (tgt := 136) dX12_read_132 (by decide) ?_
              rw [show v40 = y33 from by rw [ev40, if_pos c39]] at kJ
              refine r_sub (lv2 := [(0, vR 55), (2, vI x2), (3, vI v38)]) [1, 3, 0] rfl ?_
              exact kJ
            · skip
              refine r_if_ne (tgt := 135) dX12_read_127 (by decide) (fun _ => ?_) (fun q => absurd q c39)
              refine r_iload_n dX12_read_135 rfl 2 rfl ?_
              rw [show v40 = x1 from by rw [ev40, if_neg c39]] at kJ
              refine r_sub (lv2 := [(0, vR 55), (2, vI x2), (3, vI v38)]) [1, 3, 0] rfl ?_
              exact kJ
          clear h
          by_cases c35 : wr y33 = 0
          · skip
            refine r_if_eq (tgt := 120) dX12_read_107 (by decide) (fun _ => ?_) (fun q => absurd c35 q)
            refine r_iconst dX12_read_120 ?_
            refine r_goto (tgt := 125) dX12_read_121 (by decide) ?_
            rw [show v38 = 1 from by rw [ev38, if_pos c35]] at kJ
            refine r_sub (lv2 := [(0, vR 55), (1, vI x1), (2, vI x2), (5, vI y33)]) [0, 1, 2, 3] rfl ?_
            exact kJ
          · skip
            refine r_if_eq (tgt := 120) dX12_read_107 (by decide) (fun q => absurd q c35) (fun _ => ?_)
            refine r_iload_n dX12_read_110 rfl 2 rfl ?_
            by_cases c36 : wr x2 ≤ 0
            · skip
              refine r_if_le (tgt := 124) dX12_read_111 (by decide) (fun _ => ?_) (fun q => absurd c36 q)
              refine r_iconst dX12_read_124 ?_
              rw [show v38 = 0 from by rw [ev38, if_neg c35, if_pos c36]] at kJ
              refine r_sub (lv2 := [(0, vR 55), (1, vI x1), (2, vI x2), (5, vI y33)]) [0, 1, 2, 3] rfl ?_
              exact kJ
            · skip
              refine r_if_le (tgt := 124) dX12_read_111 (by decide) (fun q => absurd q c36) (fun _ => ?_)
              refine r_iload dX12_read_114 3 rfl ?_
              refine r_iload_n dX12_read_116 rfl 1 rfl ?_
              by_cases c37 : wr x1 ≤ wr y33
              · skip
                refine r_icmp_ge (tgt := 124) dX12_read_117 (by decide) (fun _ => ?_) (fun q => absurd c37 q)
                refine r_iconst dX12_read_124 ?_
                rw [show v38 = 0 from by rw [ev38, if_neg c35, if_neg c36, if_pos c37]] at kJ
                refine r_sub (lv2 := [(0, vR 55), (1, vI x1), (2, vI x2), (5, vI y33)]) [0, 1, 2, 3] rfl ?_
                exact kJ
              · skip
                refine r_icmp_ge (tgt := 124) dX12_read_117 (by decide) (fun q => absurd q c37) (fun _ => ?_)
                refine r_iconst dX12_read_120 ?_
                refine r_goto (tgt := 125) dX12_read_121 (by decide) ?_
                rw [show v38 = 1 from by rw [ev38, if_neg c35, if_neg c36, if_neg c37]] at kJ
                refine r_sub (lv2 := [(0, vR 55), (1, vI x1), (2, vI x2), (5, vI y33)]) [0, 1, 2, 3] rfl ?_
                exact kJ
        clear h
        by_cases c4 : wr x2 = 0
        · skip
          refine r_if_ne (tgt := 35) dX12_read_27 (by decide) (fun q => absurd c4 q) (fun _ => ?_)
          refine r_bipush dX12_read_30 (by decide) ?_
          refine r_goto (tgt := 36) dX12_read_32 (by decide) ?_
          rw [show v5 = 8 from by rw [ev5, if_pos c4]] at kJ
          refine r_sub (lv2 := [(0, vR 55), (1, vI x1), (2, vI x2), (5, vI 0)]) [1, 2, 3, 0] rfl ?_
          exact kJ
        · skip
          refine r_if_ne (tgt := 35) dX12_read_27 (by decide) (fun _ => ?_) (fun q => absurd q c4)
          refine r_iload_n dX12_read_35 rfl 2 rfl ?_
          rw [show v5 = x1 from by rw [ev5, if_neg c4]] at kJ
          refine r_sub (lv2 := [(0, vR 55), (1, vI x1), (2, vI x2), (5, vI 0)]) [1, 2, 3, 0] rfl ?_
          exact kJ
      · rw [if_neg c3] at h
        refine r_if_ne (tgt := 197) dX12_read_20 (by decide) (fun _ => ?_) (fun q => absurd q c3)
        cases h
        cases k2 _ rfl
        exact hX1 _ _ _ _ _ hX

set_option maxRecDepth 10000 in
theorem lp_X12_read_L240 {G : Gx}    (X : (Int × Mem) → Prop) (hX1 : ∀ (x5 : Int) (M : Mem), X (x5, M) → Ex G 2 cX12_read RX12 7 290 [(0, vR 55), (5, vI x5)] [] M) : ∀ (nn : Nat) (x5 : Int) (M : Mem) (out : Int × Mem), itr (fun s => m_X12_read_L240 s.2  s.1) nn (x5, M) = some out → X out → Ex G 2 cX12_read RX12 7 240 [(0, vR 55), (5, vI x5)] [] M := by
  intro nn
  induction nn with
  | zero =>
    intro x5 M out h _
    cases h
  | succ nn ih =>
    intro x5 M out h0 hX
    obtain ⟨w, h, k1, k2⟩ := itr_inv h0
    have h : m_X12_read_L240 M  x5 = some w := h
    unfold m_X12_read_L240 at h
    refine r_iload dX12_read_240 1 rfl ?_
    refine r_aload_n dX12_read_242 rfl 0 rfl ?_
    refine r_getI (j := 0) (jz := 0) dX12_read_243 f_X12_88 rfl rfl rfl ?_
    refine r_aload_n dX12_read_246 rfl 0 rfl ?_
    refine r_getI (j := 1) (jz := 1) dX12_read_247 f_X12_92 rfl rfl rfl ?_
    refine r_imul dX12_read_250 ?_
    by_cases c70 : wr ((gI M 55 0) * (gI M 55 1)) ≤ wr x5
    · rw [if_pos c70] at h
      refine r_icmp_ge (tgt := 290) dX12_read_251 (by decide) (fun _ => ?_) (fun q => absurd c70 q)
      cases h
      cases k2 _ rfl
      exact hX1 _ _ hX
    · rw [if_neg c70] at h
      refine r_icmp_ge (tgt := 290) dX12_read_251 (by decide) (fun q => absurd q c70) (fun _ => ?_)
      refine r_aload_n dX12_read_254 rfl 0 rfl ?_
      refine r_getR (j := 2) (v := 56) dX12_read_255 f_X12_7 rfl rfl rfl ?_
      refine r_iload dX12_read_258 1 rfl ?_
      refine r_aload_n dX12_read_260 rfl 0 rfl ?_
      refine r_getR (j := 10) (v := 62) dX12_read_261 f_X12_29 rfl rfl rfl ?_
      refine r_bipush dX12_read_264 (by decide) ?_
      refine r_iload dX12_read_266 1 rfl ?_
      refine r_aload_n dX12_read_268 rfl 0 rfl ?_
      refine r_getI (j := 0) (jz := 0) dX12_read_269 f_X12_88 rfl rfl rfl ?_
      obtain ⟨c71, h⟩ := of_ck h
      refine r_idiv dX12_read_272 c71 ?_
      refine r_imul dX12_read_273 ?_
      refine r_iload dX12_read_274 1 rfl ?_
      refine r_aload_n dX12_read_276 rfl 0 rfl ?_
      refine r_getI (j := 0) (jz := 0) dX12_read_277 f_X12_88 rfl rfl rfl ?_
      refine r_irem dX12_read_280 c71 ?_
      refine r_iadd dX12_read_281 ?_
      obtain ⟨c72, h⟩ := of_ck h
      refine r_zald dX12_read_282 rfl c72 ?_
      obtain ⟨c73, h⟩ := of_ck h
      obtain ⟨c74, h⟩ := of_ck h
      obtain ⟨M75, eM75, h⟩ := of_lt h
      refine r_zast dX12_read_283 rfl c73 c74 ?_
      rw [← eM75]
      refine r_iinc (lv2 := [(5, vI (x5 + 1)), (0, vR 55)]) dX12_read_284 1 rfl (by decide) rfl ?_
      refine r_goto (tgt := 240) dX12_read_287 (by decide) ?_
      refine r_sub (lv2 := [(0, vR 55), (5, vI (x5 + 1))]) [1, 0] rfl ?_
      cases h
      exact ih _ _  _ (k1 _ rfl) hX

set_option maxRecDepth 10000 in
theorem run_X12_read {M : Mem} {M2 : Mem} {r : Int}   (h : m_X12_read M = some (r, M2)) : RunI 2 yX12_read cX12_read 7 (some .int) [vR 55] M r M2 := by
  refine runI_of (lv := [(0, vR 55)]) (by decide +kernel) (Or.inl rfl) (Nat.le_of_ble_eq_true rfl) rfl ?_
  intro G hQ
  unfold m_X12_read at h
  refine r_aload_n dX12_read_0 rfl 0 rfl ?_
  refine r_iconst dX12_read_1 ?_
  obtain ⟨M1, eM1, h⟩ := of_lt h
  refine r_putI (j := 9) (jz := 9) dX12_read_2 p_X12_133 rfl rfl rfl rfl rfl ?_
  rw [← eM1]
  refine r_iconst dX12_read_5 ?_
  refine r_istore_n (lv2 := [(1, vI 0), (0, vR 55)]) dX12_read_6 rfl (by decide) rfl ?_
  refine r_iconst dX12_read_7 ?_
  refine r_istore_n (lv2 := [(2, vI 0), (1, vI 0), (0, vR 55)]) dX12_read_8 rfl (by decide) rfl ?_
  refine r_iconst dX12_read_9 ?_
  refine r_istore_n (lv2 := [(3, vI 0), (2, vI 0), (1, vI 0), (0, vR 55)]) dX12_read_10 rfl (by decide) rfl ?_
  refine r_iconst dX12_read_11 ?_
  refine r_istore (lv2 := [(4, vI 1), (3, vI 0), (2, vI 0), (1, vI 0), (0, vR 55)]) dX12_read_12 (by decide) rfl ?_
  obtain ⟨y54, y55, y56, y57, M58, h9, h⟩ := of_bd5 h
  refine r_sub (lv2 := [(0, vR 55), (1, vI 0), (2, vI 0), (3, vI 0), (4, vI 1)]) [4, 3, 2, 1, 0] rfl ?_
  refine lp_X12_read_L14   (fun w => w = (y54, y55, y56, y57, M58)) ?_ FU 0 0 0 1 M1 _ h9 rfl
  intro z0 z1 z2 z3 z4 hw
  cases hw
  refine r_iload_n dX12_read_197 rfl 3 rfl ?_
  obtain ⟨v64, M65, h9, h⟩ := of_bd2 h
  have kJ : Ex G 2 cX12_read RX12 7 213 [(0, vR 55), (1, vI y54), (2, vI y55)] [vI v64] M65 := by
    refine r_istore_n (lv2 := [(3, vI v64), (0, vR 55), (1, vI y54), (2, vI y55)]) dX12_read_213 rfl (by decide) rfl ?_
    refine r_aload_n dX12_read_214 rfl 1 rfl ?_
    refine r_iconst dX12_read_215 ?_
    obtain ⟨M66, eM66, h⟩ := of_lt h
    refine r_putI (j := 8) (jz := 8) dX12_read_216 p_X12_130 rfl rfl rfl rfl rfl ?_
    rw [← eM66]
    refine r_iload_n dX12_read_219 rfl 0 rfl ?_
    by_cases c67 : wr v64 = 0
    · rw [if_pos c67] at h
      refine r_if_eq (tgt := 231) dX12_read_220 (by decide) (fun _ => ?_) (fun q => absurd c67 q)
      refine r_aload_n dX12_read_231 rfl 1 rfl ?_
      refine r_iload_n dX12_read_232 rfl 2 rfl ?_
      refine r_iload_n dX12_read_233 rfl 3 rfl ?_
      obtain ⟨M69, hc68, h⟩ := of_bd1 h
      refine r_callVV (st := []) dX12_read_234 v_X12_84 (run_X12_begins hc68) (by decide) (by decide) rfl rfl (Nat.le_of_ble_eq_true rfl) rfl ?_
      refine r_iconst dX12_read_237 ?_
      refine r_istore (lv2 := [(5, vI 0), (3, vI v64), (0, vR 55), (1, vI y54), (2, vI y55)]) dX12_read_238 (by decide) rfl ?_
      obtain ⟨y76, M77, h9, h⟩ := of_bd2 h
      refine r_sub (lv2 := [(0, vR 55), (5, vI 0)]) [2, 0] rfl ?_
      refine lp_X12_read_L240   (fun w => w = (y76, M77)) ?_ FU 0 M69 _ h9 rfl
      intro z0 z1 hw
      cases hw
      refine r_aload_n dX12_read_290 rfl 0 rfl ?_
      obtain ⟨r79, hc78, h⟩ := of_bd1 h
      refine r_callVI (st := []) dX12_read_291 v_X12_140 (run_X12_openMany hc78) (by decide) (by decide) rfl rfl (Nat.le_of_ble_eq_true rfl) rfl ?_
      cases h
      exact hQ _ _ dX12_read_294
    · rw [if_neg c67] at h
      refine r_if_eq (tgt := 231) dX12_read_220 (by decide) (fun q => absurd q c67) (fun _ => ?_)
      refine r_bipush dX12_read_223 (by decide) ?_
      refine r_aload_n dX12_read_225 rfl 1 rfl ?_
      refine r_getI (j := 9) (jz := 9) dX12_read_226 f_X12_133 rfl rfl rfl ?_
      refine r_isub dX12_read_229 ?_
      cases h
      exact hQ _ _ dX12_read_230
  clear h
  have h := h9
  clear h9
  by_cases c59 : wr y56 = 0
  · rw [if_pos c59] at h
    refine r_if_ne (tgt := 208) dX12_read_198 (by decide) (fun q => absurd c59 q) (fun _ => ?_)
    refine r_aload_n dX12_read_201 rfl 0 rfl ?_
    obtain ⟨r61, M62, hc60, h⟩ := of_bd2 h
    refine r_callVI (st := []) dX12_read_202 v_X12_136 (run_X12_next hc60) (by decide) (by decide) rfl rfl (Nat.le_of_ble_eq_true rfl) rfl ?_
    by_cases c63 : wr r61 = 0
    · rw [if_pos c63] at h
      refine r_if_eq (tgt := 212) dX12_read_205 (by decide) (fun _ => ?_) (fun q => absurd c63 q)
      refine r_iconst dX12_read_212 ?_
      refine r_sub (lv2 := [(0, vR 55), (1, vI y54), (2, vI y55)]) [0, 1, 2] rfl ?_
      cases h
      exact kJ
    · rw [if_neg c63] at h
      refine r_if_eq (tgt := 212) dX12_read_205 (by decide) (fun q => absurd q c63) (fun _ => ?_)
      refine r_iconst dX12_read_208 ?_
      refine r_goto (tgt := 213) dX12_read_209 (by decide) ?_
      refine r_sub (lv2 := [(0, vR 55), (1, vI y54), (2, vI y55)]) [0, 1, 2] rfl ?_
      cases h
      exact kJ
  · rw [if_neg c59] at h
    refine r_if_ne (tgt := 208) dX12_read_198 (by decide) (fun _ => ?_) (fun q => absurd q c59)
    refine r_iconst dX12_read_208 ?_
    refine r_goto (tgt := 213) dX12_read_209 (by decide) ?_
    refine r_sub (lv2 := [(0, vR 55), (1, vI y54), (2, vI y55)]) [0, 1, 2] rfl ?_
    cases h
    exact kJ

def m_X12_isSheet (a0 : Int) : Option (Bool) :=
  bd1 (m_X12_in (i2l a0) (0 : Int64) (3)) fun b2 =>
  some b2
set_option maxRecDepth 10000 in
theorem run_X12_isSheet {M : Mem} {a0 : Int} {r : Bool}   (h : m_X12_isSheet a0 = some r) : RunI 1 yX12_isSheet cX12_isSheet 1 (some .boolean) [vI a0] M (bI r) M := by
  refine runI_of (lv := [(0, vI a0)]) (by decide +kernel) (Or.inr ⟨rfl, bI_01 r⟩) (Nat.le_of_ble_eq_true rfl) rfl ?_
  intro G hQ
  unfold m_X12_isSheet at h
  refine r_iload_n dX12_isSheet_0 rfl 0 rfl ?_
  refine r_i2l dX12_isSheet_1 ?_
  refine r_lconst (v := 0) dX12_isSheet_2 rfl ?_
  refine r_ldc2 (v := (3)) dX12_isSheet_3 kl_X12_186 ?_
  obtain ⟨b2, hc1, h⟩ := of_bd1 h
  refine r_callSI (st := []) dX12_isSheet_6 v_X12_100 (run_X12_in hc1) (by decide) (by decide) rfl (Nat.le_of_ble_eq_true rfl) rfl ?_
  cases h
  exact hQ _ _ dX12_isSheet_9

def m_X12_finds (M : Mem) (a1 : Int) (a2 : Int) (a3 : Int) (a4 : Int) : Option (Int) :=
  if 0 ≤ wr a1 ∧ wr a1 < 4 then
  if 0 ≤ wr (gI M 76 (wr a1)) then
    if wr (gI M 76 (wr a1)) = wr a2 then
      lt (if wr a3 < 0 then (-13) else (if ((i2l a3) + (i2l a4)) ≤ (i2l (gI M 77 (wr a1))) then 0 else (-13))) fun (v6 : Int) =>
      some v6
    else
      some (-12)
  else
    some (-11)
  else none
set_option maxRecDepth 10000 in
theorem run_X12_finds {M : Mem} {a1 : Int} {a2 : Int} {a3 : Int} {a4 : Int} {r : Int}   (h : m_X12_finds M a1 a2 a3 a4 = some r) : RunI 0 yX12_finds cX12_finds 5 (some .int) [vR 55, vI a1, vI a2, vI a3, vI a4] M r M := by
  refine runI_of (lv := [(0, vR 55), (1, vI a1), (2, vI a2), (3, vI a3), (4, vI a4)]) (by decide +kernel) (Or.inl rfl) (Nat.le_of_ble_eq_true rfl) rfl ?_
  intro G hQ
  unfold m_X12_finds at h
  refine r_aload_n dX12_finds_0 rfl 0 rfl ?_
  refine r_getR (j := 24) (v := 76) dX12_finds_1 f_X12_72 rfl rfl rfl ?_
  refine r_iload_n dX12_finds_4 rfl 1 rfl ?_
  obtain ⟨c1, h⟩ := of_ck h
  refine r_iald dX12_finds_5 rfl c1 ?_
  by_cases c2 : 0 ≤ wr (gI M 76 (wr a1))
  · rw [if_pos c2] at h
    refine r_if_ge (tgt := 12) dX12_finds_6 (by decide) (fun _ => ?_) (fun q => absurd c2 q)
    refine r_aload_n dX12_finds_12 rfl 0 rfl ?_
    refine r_getR (j := 24) (v := 76) dX12_finds_13 f_X12_72 rfl rfl rfl ?_
    refine r_iload_n dX12_finds_16 rfl 1 rfl ?_
    refine r_iald dX12_finds_17 rfl c1 ?_
    refine r_iload_n dX12_finds_18 rfl 2 rfl ?_
    by_cases c3 : wr (gI M 76 (wr a1)) = wr a2
    · rw [if_pos c3] at h
      refine r_icmp_eq (tgt := 25) dX12_finds_19 (by decide) (fun _ => ?_) (fun q => absurd c3 q)
      refine r_iload_n dX12_finds_25 rfl 3 rfl ?_
      obtain ⟨v6, ev6, h⟩ := of_lt h
      have kJ : Ex G 0 cX12_finds RX12 5 52 [] [vI v6] M := by
        cases h
        exact hQ _ _ dX12_finds_52
      clear h
      by_cases c4 : wr a3 < 0
      · skip
        refine r_if_lt (tgt := 46) dX12_finds_26 (by decide) (fun _ => ?_) (fun q => absurd c4 q)
        refine r_bipush dX12_finds_46 (by decide) ?_
        refine r_goto (tgt := 52) dX12_finds_48 (by decide) ?_
        rw [show v6 = (-13) from by rw [ev6, if_pos c4]] at kJ
        refine r_sub (lv2 := []) [] rfl ?_
        exact kJ
      · skip
        refine r_if_lt (tgt := 46) dX12_finds_26 (by decide) (fun q => absurd q c4) (fun _ => ?_)
        refine r_iload_n dX12_finds_29 rfl 3 rfl ?_
        refine r_i2l dX12_finds_30 ?_
        refine r_iload dX12_finds_31 4 rfl ?_
        refine r_i2l dX12_finds_33 ?_
        refine r_ladd dX12_finds_34 ?_
        refine r_aload_n dX12_finds_35 rfl 0 rfl ?_
        refine r_getR (j := 25) (v := 77) dX12_finds_36 f_X12_75 rfl rfl rfl ?_
        refine r_iload_n dX12_finds_39 rfl 1 rfl ?_
        refine r_iald dX12_finds_40 rfl c1 ?_
        refine r_i2l dX12_finds_41 ?_
        by_cases c5 : ((i2l a3) + (i2l a4)) ≤ (i2l (gI M 77 (wr a1)))
        · skip
          refine r_lcmp_le (tgt := 51) dX12_finds_42 dX12_finds_43 (by decide) (fun _ => ?_) (fun q => absurd c5 q)
          refine r_iconst dX12_finds_51 ?_
          rw [show v6 = 0 from by rw [ev6, if_neg c4, if_pos c5]] at kJ
          refine r_sub (lv2 := []) [] rfl ?_
          exact kJ
        · skip
          refine r_lcmp_le (tgt := 51) dX12_finds_42 dX12_finds_43 (by decide) (fun q => absurd q c5) (fun _ => ?_)
          refine r_bipush dX12_finds_46 (by decide) ?_
          refine r_goto (tgt := 52) dX12_finds_48 (by decide) ?_
          rw [show v6 = (-13) from by rw [ev6, if_neg c4, if_neg c5]] at kJ
          refine r_sub (lv2 := []) [] rfl ?_
          exact kJ
    · rw [if_neg c3] at h
      refine r_icmp_eq (tgt := 25) dX12_finds_19 (by decide) (fun q => absurd q c3) (fun _ => ?_)
      refine r_bipush dX12_finds_22 (by decide) ?_
      cases h
      exact hQ _ _ dX12_finds_24
  · rw [if_neg c2] at h
    refine r_if_ge (tgt := 12) dX12_finds_6 (by decide) (fun q => absurd q c2) (fun _ => ?_)
    refine r_bipush dX12_finds_9 (by decide) ?_
    cases h
    exact hQ _ _ dX12_finds_11

def m_X12_lay_L77 (M : Mem) (p1 : Int) (p2 : Int) (p3 : Int) (p5 : Int) (x6 : Int) : Option ((Int × Mem) ⊕ (Int × Mem)) :=
  if wr p5 ≤ wr x6 then
    some (.inr (x6, M))
  else
    if 0 ≤ wr (((64 * p2) + p3) + x6) ∧ wr (((64 * p2) + p3) + x6) < 256 then
    lt (if wr (gI M 78 (wr (((64 * p2) + p3) + x6))) = 0 then 0 else 1) fun (v15 : Int) =>
    bd1 (m_X12_sets M (p1 + x6) v15) fun M17 =>
    some (.inl ((x6 + 1), M17))
    else none
def m_X12_lay (M : Mem) (a1 : Int) (a2 : Int) (a3 : Int) : Option (Int × Mem) :=
  bd1 (m_X12_in (i2l a1) (0 : Int64) (i2l ((gI M 55 0) * (gI M 55 1)))) fun b2 =>
  if wr (bI b2) = 0 then
    some ((-1), M)
  else
    bd1 (m_X12_isSheet a2) fun b5 =>
    if wr (bI b5) = 0 then
      some ((-1), M)
    else
      bd1 (m_X12_finds M a2 0 a3 0) fun r8 =>
      if 0 ≤ wr r8 then
        if 0 ≤ wr a2 ∧ wr a2 < 4 then
        if wr (a1 + ((gI M 77 (wr a2)) - a3)) ≤ wr ((gI M 55 0) * (gI M 55 1)) then
          bd2 (itr (fun s => m_X12_lay_L77 s.2 a1 a2 a3 ((gI M 77 (wr a2)) - a3) s.1) FU (0, M)) fun y18 M19 =>
          some (((gI M 77 (wr a2)) - a3), M19)
        else
          some ((-1), M)
        else none
      else
        some (r8, M)
set_option maxRecDepth 10000 in
theorem lp_X12_lay_L77 {G : Gx} (p1 : Int) (p2 : Int) (p3 : Int) (p5 : Int)   (X : (Int × Mem) → Prop) (hX1 : ∀ (x6 : Int) (M : Mem), X (x6, M) → Ex G 2 cX12_lay RX12 7 120 [(0, vR 55), (1, vI p1), (2, vI p2), (3, vI p3), (5, vI p5), (6, vI x6)] [] M) : ∀ (nn : Nat) (x6 : Int) (M : Mem) (out : Int × Mem), itr (fun s => m_X12_lay_L77 s.2 p1 p2 p3 p5 s.1) nn (x6, M) = some out → X out → Ex G 2 cX12_lay RX12 7 77 [(0, vR 55), (1, vI p1), (2, vI p2), (3, vI p3), (5, vI p5), (6, vI x6)] [] M := by
  intro nn
  induction nn with
  | zero =>
    intro x6 M out h _
    cases h
  | succ nn ih =>
    intro x6 M out h0 hX
    obtain ⟨w, h, k1, k2⟩ := itr_inv h0
    have h : m_X12_lay_L77 M p1 p2 p3 p5 x6 = some w := h
    unfold m_X12_lay_L77 at h
    refine r_iload dX12_lay_77 5 rfl ?_
    refine r_iload dX12_lay_79 4 rfl ?_
    by_cases c12 : wr p5 ≤ wr x6
    · rw [if_pos c12] at h
      refine r_icmp_ge (tgt := 120) dX12_lay_81 (by decide) (fun _ => ?_) (fun q => absurd c12 q)
      cases h
      cases k2 _ rfl
      exact hX1 _ _ hX
    · rw [if_neg c12] at h
      refine r_icmp_ge (tgt := 120) dX12_lay_81 (by decide) (fun q => absurd q c12) (fun _ => ?_)
      refine r_aload_n dX12_lay_84 rfl 0 rfl ?_
      refine r_iload_n dX12_lay_85 rfl 1 rfl ?_
      refine r_iload dX12_lay_86 5 rfl ?_
      refine r_iadd dX12_lay_88 ?_
      refine r_aload_n dX12_lay_89 rfl 0 rfl ?_
      refine r_getR (j := 26) (v := 78) dX12_lay_90 f_X12_78 rfl rfl rfl ?_
      refine r_bipush dX12_lay_93 (by decide) ?_
      refine r_iload_n dX12_lay_95 rfl 2 rfl ?_
      refine r_imul dX12_lay_96 ?_
      refine r_iload_n dX12_lay_97 rfl 3 rfl ?_
      refine r_iadd dX12_lay_98 ?_
      refine r_iload dX12_lay_99 5 rfl ?_
      refine r_iadd dX12_lay_101 ?_
      obtain ⟨c13, h⟩ := of_ck h
      refine r_iald dX12_lay_102 rfl c13 ?_
      obtain ⟨v15, ev15, h⟩ := of_lt h
      have kJ : Ex G 2 cX12_lay RX12 7 111 [(0, vR 55), (1, vI p1), (2, vI p2), (3, vI p3), (5, vI p5), (6, vI x6)] [vI v15, vI (p1 + x6), vR 55] M := by
        obtain ⟨M17, hc16, h⟩ := of_bd1 h
        refine r_callVV (st := []) dX12_lay_111 v_X12_120 (run_X12_sets hc16) (by decide) (by decide) rfl rfl (Nat.le_of_ble_eq_true rfl) rfl ?_
        refine r_iinc (lv2 := [(6, vI (x6 + 1)), (0, vR 55), (1, vI p1), (2, vI p2), (3, vI p3), (5, vI p5)]) dX12_lay_114 5 rfl (by decide) rfl ?_
        refine r_goto (tgt := 77) dX12_lay_117 (by decide) ?_
        refine r_sub (lv2 := [(0, vR 55), (1, vI p1), (2, vI p2), (3, vI p3), (5, vI p5), (6, vI (x6 + 1))]) [1, 2, 3, 4, 5, 0] rfl ?_
        cases h
        exact ih _ _  _ (k1 _ rfl) hX
      clear h
      by_cases c14 : wr (gI M 78 (wr (((64 * p2) + p3) + x6))) = 0
      · skip
        refine r_if_eq (tgt := 110) dX12_lay_103 (by decide) (fun _ => ?_) (fun q => absurd c14 q)
        refine r_iconst dX12_lay_110 ?_
        rw [show v15 = 0 from by rw [ev15, if_pos c14]] at kJ
        exact kJ
      · skip
        refine r_if_eq (tgt := 110) dX12_lay_103 (by decide) (fun q => absurd q c14) (fun _ => ?_)
        refine r_iconst dX12_lay_106 ?_
        refine r_goto (tgt := 111) dX12_lay_107 (by decide) ?_
        rw [show v15 = 1 from by rw [ev15, if_neg c14]] at kJ
        exact kJ

set_option maxRecDepth 10000 in
theorem run_X12_lay {M : Mem} {M2 : Mem} {a1 : Int} {a2 : Int} {a3 : Int} {r : Int}   (h : m_X12_lay M a1 a2 a3 = some (r, M2)) : RunI 2 yX12_lay cX12_lay 7 (some .int) [vR 55, vI a1, vI a2, vI a3] M r M2 := by
  refine runI_of (lv := [(0, vR 55), (1, vI a1), (2, vI a2), (3, vI a3)]) (by decide +kernel) (Or.inl rfl) (Nat.le_of_ble_eq_true rfl) rfl ?_
  intro G hQ
  unfold m_X12_lay at h
  refine r_iload_n dX12_lay_0 rfl 1 rfl ?_
  refine r_i2l dX12_lay_1 ?_
  refine r_lconst (v := 0) dX12_lay_2 rfl ?_
  refine r_aload_n dX12_lay_3 rfl 0 rfl ?_
  refine r_getI (j := 0) (jz := 0) dX12_lay_4 f_X12_88 rfl rfl rfl ?_
  refine r_aload_n dX12_lay_7 rfl 0 rfl ?_
  refine r_getI (j := 1) (jz := 1) dX12_lay_8 f_X12_92 rfl rfl rfl ?_
  refine r_imul dX12_lay_11 ?_
  refine r_i2l dX12_lay_12 ?_
  obtain ⟨b2, hc1, h⟩ := of_bd1 h
  refine r_callSI (st := []) dX12_lay_13 v_X12_100 (run_X12_in hc1) (by decide) (by decide) rfl (Nat.le_of_ble_eq_true rfl) rfl ?_
  by_cases c3 : wr (bI b2) = 0
  · rw [if_pos c3] at h
    refine r_if_eq (tgt := 26) dX12_lay_16 (by decide) (fun _ => ?_) (fun q => absurd c3 q)
    refine r_iconst dX12_lay_26 ?_
    cases h
    exact hQ _ _ dX12_lay_27
  · rw [if_neg c3] at h
    refine r_if_eq (tgt := 26) dX12_lay_16 (by decide) (fun q => absurd q c3) (fun _ => ?_)
    refine r_iload_n dX12_lay_19 rfl 2 rfl ?_
    obtain ⟨b5, hc4, h⟩ := of_bd1 h
    refine r_callSI (st := []) dX12_lay_20 v_X12_143 (run_X12_isSheet hc4) (by decide) (by decide) rfl (Nat.le_of_ble_eq_true rfl) rfl ?_
    by_cases c6 : wr (bI b5) = 0
    · rw [if_pos c6] at h
      refine r_if_ne (tgt := 28) dX12_lay_23 (by decide) (fun q => absurd c6 q) (fun _ => ?_)
      refine r_iconst dX12_lay_26 ?_
      cases h
      exact hQ _ _ dX12_lay_27
    · rw [if_neg c6] at h
      refine r_if_ne (tgt := 28) dX12_lay_23 (by decide) (fun _ => ?_) (fun q => absurd q c6)
      refine r_aload_n dX12_lay_28 rfl 0 rfl ?_
      refine r_iload_n dX12_lay_29 rfl 2 rfl ?_
      refine r_iconst dX12_lay_30 ?_
      refine r_iload_n dX12_lay_31 rfl 3 rfl ?_
      refine r_iconst dX12_lay_32 ?_
      obtain ⟨r8, hc7, h⟩ := of_bd1 h
      refine r_callVI (st := []) dX12_lay_33 v_X12_146 (run_X12_finds hc7) (by decide) (by decide) rfl rfl (Nat.le_of_ble_eq_true rfl) rfl ?_
      refine r_istore (lv2 := [(4, vI r8), (0, vR 55), (1, vI a1), (2, vI a2), (3, vI a3)]) dX12_lay_36 (by decide) rfl ?_
      refine r_iload dX12_lay_38 0 rfl ?_
      by_cases c9 : 0 ≤ wr r8
      · rw [if_pos c9] at h
        refine r_if_ge (tgt := 46) dX12_lay_40 (by decide) (fun _ => ?_) (fun q => absurd c9 q)
        refine r_aload_n dX12_lay_46 rfl 1 rfl ?_
        refine r_getR (j := 25) (v := 77) dX12_lay_47 f_X12_75 rfl rfl rfl ?_
        refine r_iload_n dX12_lay_50 rfl 3 rfl ?_
        obtain ⟨c10, h⟩ := of_ck h
        refine r_iald dX12_lay_51 rfl c10 ?_
        refine r_iload_n dX12_lay_52 rfl 4 rfl ?_
        refine r_isub dX12_lay_53 ?_
        refine r_istore (lv2 := [(5, vI ((gI M 77 (wr a2)) - a3)), (4, vI r8), (0, vR 55), (1, vI a1), (2, vI a2), (3, vI a3)]) dX12_lay_54 (by decide) rfl ?_
        refine r_iload_n dX12_lay_56 rfl 3 rfl ?_
        refine r_iload dX12_lay_57 0 rfl ?_
        refine r_iadd dX12_lay_59 ?_
        refine r_aload_n dX12_lay_60 rfl 2 rfl ?_
        refine r_getI (j := 0) (jz := 0) dX12_lay_61 f_X12_88 rfl rfl rfl ?_
        refine r_aload_n dX12_lay_64 rfl 2 rfl ?_
        refine r_getI (j := 1) (jz := 1) dX12_lay_65 f_X12_92 rfl rfl rfl ?_
        refine r_imul dX12_lay_68 ?_
        by_cases c11 : wr (a1 + ((gI M 77 (wr a2)) - a3)) ≤ wr ((gI M 55 0) * (gI M 55 1))
        · rw [if_pos c11] at h
          refine r_icmp_le (tgt := 74) dX12_lay_69 (by decide) (fun _ => ?_) (fun q => absurd c11 q)
          refine r_iconst dX12_lay_74 ?_
          refine r_istore (lv2 := [(6, vI 0), (5, vI ((gI M 77 (wr a2)) - a3)), (4, vI r8), (0, vR 55), (1, vI a1), (2, vI a2), (3, vI a3)]) dX12_lay_75 (by decide) rfl ?_
          obtain ⟨y18, M19, h9, h⟩ := of_bd2 h
          refine r_sub (lv2 := [(0, vR 55), (1, vI a1), (2, vI a2), (3, vI a3), (5, vI ((gI M 77 (wr a2)) - a3)), (6, vI 0)]) [3, 4, 5, 6, 1, 0] rfl ?_
          refine lp_X12_lay_L77 a1 a2 a3 ((gI M 77 (wr a2)) - a3)  (fun w => w = (y18, M19)) ?_ FU 0 M _ h9 rfl
          intro z0 z1 hw
          cases hw
          refine r_iload dX12_lay_120 4 rfl ?_
          cases h
          exact hQ _ _ dX12_lay_122
        · rw [if_neg c11] at h
          refine r_icmp_le (tgt := 74) dX12_lay_69 (by decide) (fun q => absurd q c11) (fun _ => ?_)
          refine r_iconst dX12_lay_72 ?_
          cases h
          exact hQ _ _ dX12_lay_73
      · rw [if_neg c9] at h
        refine r_if_ge (tgt := 46) dX12_lay_40 (by decide) (fun q => absurd q c9) (fun _ => ?_)
        refine r_iload dX12_lay_43 0 rfl ?_
        cases h
        exact hQ _ _ dX12_lay_45

def m_X12_count_L4 (M : Mem) (p1 : Int) (x2 : Int) (x3 : Int) : Option ((Int × Int) ⊕ (Int × Int)) :=
  if wr ((gI M 55 0) * (gI M 55 1)) ≤ wr x3 then
    some (.inr (x2, x3))
  else
    if 0 ≤ wr x3 ∧ wr x3 < 64 then
    bd1 (
      if wr (gI M 56 (wr x3)) = 0 then
        some (0)
      else
        bd1 (m_X12_isDarkCell M x3) fun b5 =>
        if wr (bI b5) = 0 then
          some (0)
        else
          some (1)) fun (v7 : Int) =>
    some (.inl ((x2 + v7), (x3 + 1)))
    else none
def m_X12_count_L59 (M : Mem) (p1 : Int) (p2 : Int) (x3 : Int) (x4 : Int) (x5 : Int) (x6 : Int) : Option ((Int × Int × Int × Int) ⊕ (Int × Int × Int × Int)) :=
  if wr ((2 * (gI M 55 0)) * (gI M 55 1)) ≤ wr x6 then
    some (.inr (x3, x4, x5, x6))
  else
    bd1 (m_X12_isBrick M x6) fun b12 =>
    lt (if wr (bI b12) = 0 then 0 else 1) fun (v14 : Int) =>
    if 0 ≤ wr x6 ∧ wr x6 < 128 then
    lt (if wr (gI M 57 (wr x6)) = wr 1 then 1 else 0) fun (v17 : Int) =>
    lt (if wr (gI M 57 (wr x6)) = wr 2 then 1 else 0) fun (v19 : Int) =>
    some (.inl ((x3 + v14), (x4 + v17), (x5 + v19), (x6 + 1)))
    else none
def m_X12_count_L146 (M : Mem) (p1 : Int) (p2 : Int) (p3 : Int) (p4 : Int) (p5 : Int) (x6 : Int) (x7 : Int) : Option ((Int × Int) ⊕ (Int × Int)) :=
  if wr 4 ≤ wr x7 then
    some (.inr (x6, x7))
  else
    if 0 ≤ wr x7 ∧ wr x7 < 4 then
    lt (if wr (gI M 59 (wr x7)) = 0 then 0 else 1) fun (v27 : Int) =>
    some (.inl ((x6 + v27), (x7 + 1)))
    else none
def m_X12_count (M : Mem) (a1 : Int) : Option (Int) :=
  bd2 (itr (fun s => m_X12_count_L4 M a1 s.1 s.2) FU (0, 0)) fun y8 y9 =>
  bd4 (itr (fun s => m_X12_count_L59 M a1 y8 s.1 s.2.1 s.2.2.1 s.2.2.2) FU (0, 0, 0, 0)) fun y20 y21 y22 y23 =>
  bd2 (itr (fun s => m_X12_count_L146 M a1 y8 y20 y21 y22 s.1 s.2) FU (0, 0)) fun y28 y29 =>
  if wr a1 = 0 then
    some (gI M 55 0)
  else
    if wr a1 = 1 then
      some (gI M 55 1)
    else
      if wr a1 = 2 then
        bd1 (m_X12_openMany M) fun r34 =>
        some r34
      else
        if wr a1 = 3 then
          some y8
        else
          if wr a1 = 4 then
            some y20
          else
            if wr a1 = 5 then
              some y21
            else
              if wr a1 = 6 then
                some y22
              else
                if wr a1 = 7 then
                  some y28
                else
                  some (-1)
set_option maxRecDepth 10000 in
theorem lp_X12_count_L4 {G : Gx} (M : Mem) (p1 : Int)   (X : (Int × Int) → Prop) (hX1 : ∀ (x2 : Int) (x3 : Int), X (x2, x3) → Ex G 2 cX12_count RX12 8 48 [(0, vR 55), (1, vI p1), (2, vI x2), (3, vI x3)] [] M) : ∀ (nn : Nat) (x2 : Int) (x3 : Int) (out : Int × Int), itr (fun s => m_X12_count_L4 M p1 s.1 s.2) nn (x2, x3) = some out → X out → Ex G 2 cX12_count RX12 8 4 [(0, vR 55), (1, vI p1), (2, vI x2), (3, vI x3)] [] M := by
  intro nn
  induction nn with
  | zero =>
    intro x2 x3 out h _
    cases h
  | succ nn ih =>
    intro x2 x3 out h0 hX
    obtain ⟨w, h, k1, k2⟩ := itr_inv h0
    have h : m_X12_count_L4 M p1 x2 x3 = some w := h
    unfold m_X12_count_L4 at h
    refine r_iload_n dX12_count_4 rfl 3 rfl ?_
    refine r_aload_n dX12_count_5 rfl 0 rfl ?_
    refine r_getI (j := 0) (jz := 0) dX12_count_6 f_X12_88 rfl rfl rfl ?_
    refine r_aload_n dX12_count_9 rfl 0 rfl ?_
    refine r_getI (j := 1) (jz := 1) dX12_count_10 f_X12_92 rfl rfl rfl ?_
    refine r_imul dX12_count_13 ?_
    by_cases c1 : wr ((gI M 55 0) * (gI M 55 1)) ≤ wr x3
    · rw [if_pos c1] at h
      refine r_icmp_ge (tgt := 48) dX12_count_14 (by decide) (fun _ => ?_) (fun q => absurd c1 q)
      cases h
      cases k2 _ rfl
      exact hX1 _ _ hX
    · rw [if_neg c1] at h
      refine r_icmp_ge (tgt := 48) dX12_count_14 (by decide) (fun q => absurd q c1) (fun _ => ?_)
      refine r_iload_n dX12_count_17 rfl 2 rfl ?_
      refine r_aload_n dX12_count_18 rfl 0 rfl ?_
      refine r_getR (j := 2) (v := 56) dX12_count_19 f_X12_7 rfl rfl rfl ?_
      refine r_iload_n dX12_count_22 rfl 3 rfl ?_
      obtain ⟨c2, h⟩ := of_ck h
      refine r_zald dX12_count_23 rfl c2 ?_
      obtain ⟨v7, h9, h⟩ := of_bd1 h
      have kJ : Ex G 2 cX12_count RX12 8 40 [(0, vR 55), (1, vI p1), (3, vI x3)] [vI v7, vI x2] M := by
        refine r_iadd dX12_count_40 ?_
        refine r_istore_n (lv2 := [(2, vI (x2 + v7)), (0, vR 55), (1, vI p1), (3, vI x3)]) dX12_count_41 rfl (by decide) rfl ?_
        refine r_iinc (lv2 := [(3, vI (x3 + 1)), (2, vI (x2 + v7)), (0, vR 55), (1, vI p1)]) dX12_count_42 3 rfl (by decide) rfl ?_
        refine r_goto (tgt := 4) dX12_count_45 (by decide) ?_
        refine r_sub (lv2 := [(0, vR 55), (1, vI p1), (2, vI (x2 + v7)), (3, vI (x3 + 1))]) [2, 3, 1, 0] rfl ?_
        cases h
        exact ih _ _  _ (k1 _ rfl) hX
      clear h
      have h := h9
      clear h9
      by_cases c3 : wr (gI M 56 (wr x3)) = 0
      · rw [if_pos c3] at h
        refine r_if_eq (tgt := 39) dX12_count_24 (by decide) (fun _ => ?_) (fun q => absurd c3 q)
        refine r_iconst dX12_count_39 ?_
        refine r_sub (lv2 := [(0, vR 55), (1, vI p1), (3, vI x3)]) [0, 1, 3] rfl ?_
        cases h
        exact kJ
      · rw [if_neg c3] at h
        refine r_if_eq (tgt := 39) dX12_count_24 (by decide) (fun q => absurd q c3) (fun _ => ?_)
        refine r_aload_n dX12_count_27 rfl 0 rfl ?_
        refine r_iload_n dX12_count_28 rfl 3 rfl ?_
        obtain ⟨b5, hc4, h⟩ := of_bd1 h
        refine r_callVI (st := [vI x2]) dX12_count_29 v_X12_150 (run_X12_isDarkCell hc4) (by decide) (by decide) rfl rfl (Nat.le_of_ble_eq_true rfl) rfl ?_
        by_cases c6 : wr (bI b5) = 0
        · rw [if_pos c6] at h
          refine r_if_eq (tgt := 39) dX12_count_32 (by decide) (fun _ => ?_) (fun q => absurd c6 q)
          refine r_iconst dX12_count_39 ?_
          refine r_sub (lv2 := [(0, vR 55), (1, vI p1), (3, vI x3)]) [0, 1, 3] rfl ?_
          cases h
          exact kJ
        · rw [if_neg c6] at h
          refine r_if_eq (tgt := 39) dX12_count_32 (by decide) (fun q => absurd q c6) (fun _ => ?_)
          refine r_iconst dX12_count_35 ?_
          refine r_goto (tgt := 40) dX12_count_36 (by decide) ?_
          refine r_sub (lv2 := [(0, vR 55), (1, vI p1), (3, vI x3)]) [0, 1, 3] rfl ?_
          cases h
          exact kJ

set_option maxRecDepth 10000 in
theorem lp_X12_count_L59 {G : Gx} (M : Mem) (p1 : Int) (p2 : Int)   (X : (Int × Int × Int × Int) → Prop) (hX1 : ∀ (x3 : Int) (x4 : Int) (x5 : Int) (x6 : Int), X (x3, x4, x5, x6) → Ex G 2 cX12_count RX12 8 140 [(0, vR 55), (1, vI p1), (2, vI p2), (3, vI x3), (4, vI x4), (5, vI x5), (6, vI x6)] [] M) : ∀ (nn : Nat) (x3 : Int) (x4 : Int) (x5 : Int) (x6 : Int) (out : Int × Int × Int × Int), itr (fun s => m_X12_count_L59 M p1 p2 s.1 s.2.1 s.2.2.1 s.2.2.2) nn (x3, x4, x5, x6) = some out → X out → Ex G 2 cX12_count RX12 8 59 [(0, vR 55), (1, vI p1), (2, vI p2), (3, vI x3), (4, vI x4), (5, vI x5), (6, vI x6)] [] M := by
  intro nn
  induction nn with
  | zero =>
    intro x3 x4 x5 x6 out h _
    cases h
  | succ nn ih =>
    intro x3 x4 x5 x6 out h0 hX
    obtain ⟨w, h, k1, k2⟩ := itr_inv h0
    have h : m_X12_count_L59 M p1 p2 x3 x4 x5 x6 = some w := h
    unfold m_X12_count_L59 at h
    refine r_iload dX12_count_59 6 rfl ?_
    refine r_iconst dX12_count_61 ?_
    refine r_aload_n dX12_count_62 rfl 0 rfl ?_
    refine r_getI (j := 0) (jz := 0) dX12_count_63 f_X12_88 rfl rfl rfl ?_
    refine r_imul dX12_count_66 ?_
    refine r_aload_n dX12_count_67 rfl 0 rfl ?_
    refine r_getI (j := 1) (jz := 1) dX12_count_68 f_X12_92 rfl rfl rfl ?_
    refine r_imul dX12_count_71 ?_
    by_cases c10 : wr ((2 * (gI M 55 0)) * (gI M 55 1)) ≤ wr x6
    · rw [if_pos c10] at h
      refine r_icmp_ge (tgt := 140) dX12_count_72 (by decide) (fun _ => ?_) (fun q => absurd c10 q)
      cases h
      cases k2 _ rfl
      exact hX1 _ _ _ _ hX
    · rw [if_neg c10] at h
      refine r_icmp_ge (tgt := 140) dX12_count_72 (by decide) (fun q => absurd q c10) (fun _ => ?_)
      refine r_iload_n dX12_count_75 rfl 3 rfl ?_
      refine r_aload_n dX12_count_76 rfl 0 rfl ?_
      refine r_iload dX12_count_77 6 rfl ?_
      obtain ⟨b12, hc11, h⟩ := of_bd1 h
      refine r_callVI (st := [vI x3]) dX12_count_79 v_X12_153 (run_X12_isBrick hc11) (by decide) (by decide) rfl rfl (Nat.le_of_ble_eq_true rfl) rfl ?_
      obtain ⟨v14, ev14, h⟩ := of_lt h
      have kJ : Ex G 2 cX12_count RX12 8 90 [(0, vR 55), (1, vI p1), (2, vI p2), (4, vI x4), (5, vI x5), (6, vI x6)] [vI v14, vI x3] M := by
        refine r_iadd dX12_count_90 ?_
        refine r_istore_n (lv2 := [(3, vI (x3 + v14)), (0, vR 55), (1, vI p1), (2, vI p2), (4, vI x4), (5, vI x5), (6, vI x6)]) dX12_count_91 rfl (by decide) rfl ?_
        refine r_iload dX12_count_92 4 rfl ?_
        refine r_aload_n dX12_count_94 rfl 1 rfl ?_
        refine r_getR (j := 3) (v := 57) dX12_count_95 f_X12_13 rfl rfl rfl ?_
        refine r_iload dX12_count_98 6 rfl ?_
        obtain ⟨c15, h⟩ := of_ck h
        refine r_iald dX12_count_100 rfl c15 ?_
        refine r_iconst dX12_count_101 ?_
        obtain ⟨v17, ev17, h⟩ := of_lt h
        have kJ : Ex G 2 cX12_count RX12 8 110 [(0, vR 55), (1, vI p1), (2, vI p2), (3, vI (x3 + v14)), (5, vI x5), (6, vI x6)] [vI v17, vI x4] M := by
          refine r_iadd dX12_count_110 ?_
          refine r_istore (lv2 := [(4, vI (x4 + v17)), (0, vR 55), (1, vI p1), (2, vI p2), (3, vI (x3 + v14)), (5, vI x5), (6, vI x6)]) dX12_count_111 (by decide) rfl ?_
          refine r_iload dX12_count_113 5 rfl ?_
          refine r_aload_n dX12_count_115 rfl 1 rfl ?_
          refine r_getR (j := 3) (v := 57) dX12_count_116 f_X12_13 rfl rfl rfl ?_
          refine r_iload dX12_count_119 6 rfl ?_
          refine r_iald dX12_count_121 rfl c15 ?_
          refine r_iconst dX12_count_122 ?_
          obtain ⟨v19, ev19, h⟩ := of_lt h
          have kJ : Ex G 2 cX12_count RX12 8 131 [(0, vR 55), (1, vI p1), (2, vI p2), (3, vI (x3 + v14)), (4, vI (x4 + v17)), (6, vI x6)] [vI v19, vI x5] M := by
            refine r_iadd dX12_count_131 ?_
            refine r_istore (lv2 := [(5, vI (x5 + v19)), (0, vR 55), (1, vI p1), (2, vI p2), (3, vI (x3 + v14)), (4, vI (x4 + v17)), (6, vI x6)]) dX12_count_132 (by decide) rfl ?_
            refine r_iinc (lv2 := [(6, vI (x6 + 1)), (5, vI (x5 + v19)), (0, vR 55), (1, vI p1), (2, vI p2), (3, vI (x3 + v14)), (4, vI (x4 + v17))]) dX12_count_134 6 rfl (by decide) rfl ?_
            refine r_goto (tgt := 59) dX12_count_137 (by decide) ?_
            refine r_sub (lv2 := [(0, vR 55), (1, vI p1), (2, vI p2), (3, vI (x3 + v14)), (4, vI (x4 + v17)), (5, vI (x5 + v19)), (6, vI (x6 + 1))]) [2, 3, 4, 5, 6, 1, 0] rfl ?_
            cases h
            exact ih _ _ _ _  _ (k1 _ rfl) hX
          clear h
          by_cases c18 : wr (gI M 57 (wr x6)) = wr 2
          · skip
            refine r_icmp_ne (tgt := 130) dX12_count_123 (by decide) (fun q => absurd c18 q) (fun _ => ?_)
            refine r_iconst dX12_count_126 ?_
            refine r_goto (tgt := 131) dX12_count_127 (by decide) ?_
            rw [show v19 = 1 from by rw [ev19, if_pos c18]] at kJ
            refine r_sub (lv2 := [(0, vR 55), (1, vI p1), (2, vI p2), (3, vI (x3 + v14)), (4, vI (x4 + v17)), (6, vI x6)]) [1, 2, 3, 4, 0, 6] rfl ?_
            exact kJ
          · skip
            refine r_icmp_ne (tgt := 130) dX12_count_123 (by decide) (fun _ => ?_) (fun q => absurd q c18)
            refine r_iconst dX12_count_130 ?_
            rw [show v19 = 0 from by rw [ev19, if_neg c18]] at kJ
            refine r_sub (lv2 := [(0, vR 55), (1, vI p1), (2, vI p2), (3, vI (x3 + v14)), (4, vI (x4 + v17)), (6, vI x6)]) [1, 2, 3, 4, 0, 6] rfl ?_
            exact kJ
        clear h
        by_cases c16 : wr (gI M 57 (wr x6)) = wr 1
        · skip
          refine r_icmp_ne (tgt := 109) dX12_count_102 (by decide) (fun q => absurd c16 q) (fun _ => ?_)
          refine r_iconst dX12_count_105 ?_
          refine r_goto (tgt := 110) dX12_count_106 (by decide) ?_
          rw [show v17 = 1 from by rw [ev17, if_pos c16]] at kJ
          refine r_sub (lv2 := [(0, vR 55), (1, vI p1), (2, vI p2), (3, vI (x3 + v14)), (5, vI x5), (6, vI x6)]) [1, 2, 3, 0, 5, 6] rfl ?_
          exact kJ
        · skip
          refine r_icmp_ne (tgt := 109) dX12_count_102 (by decide) (fun _ => ?_) (fun q => absurd q c16)
          refine r_iconst dX12_count_109 ?_
          rw [show v17 = 0 from by rw [ev17, if_neg c16]] at kJ
          refine r_sub (lv2 := [(0, vR 55), (1, vI p1), (2, vI p2), (3, vI (x3 + v14)), (5, vI x5), (6, vI x6)]) [1, 2, 3, 0, 5, 6] rfl ?_
          exact kJ
      clear h
      by_cases c13 : wr (bI b12) = 0
      · skip
        refine r_if_eq (tgt := 89) dX12_count_82 (by decide) (fun _ => ?_) (fun q => absurd c13 q)
        refine r_iconst dX12_count_89 ?_
        rw [show v14 = 0 from by rw [ev14, if_pos c13]] at kJ
        refine r_sub (lv2 := [(0, vR 55), (1, vI p1), (2, vI p2), (4, vI x4), (5, vI x5), (6, vI x6)]) [0, 1, 2, 4, 5, 6] rfl ?_
        exact kJ
      · skip
        refine r_if_eq (tgt := 89) dX12_count_82 (by decide) (fun q => absurd q c13) (fun _ => ?_)
        refine r_iconst dX12_count_85 ?_
        refine r_goto (tgt := 90) dX12_count_86 (by decide) ?_
        rw [show v14 = 1 from by rw [ev14, if_neg c13]] at kJ
        refine r_sub (lv2 := [(0, vR 55), (1, vI p1), (2, vI p2), (4, vI x4), (5, vI x5), (6, vI x6)]) [0, 1, 2, 4, 5, 6] rfl ?_
        exact kJ

set_option maxRecDepth 10000 in
theorem lp_X12_count_L146 {G : Gx} (M : Mem) (p1 : Int) (p2 : Int) (p3 : Int) (p4 : Int) (p5 : Int)   (X : (Int × Int) → Prop) (hX1 : ∀ (x6 : Int) (x7 : Int), X (x6, x7) → Ex G 2 cX12_count RX12 8 178 [(0, vR 55), (1, vI p1), (2, vI p2), (3, vI p3), (4, vI p4), (5, vI p5), (6, vI x6), (7, vI x7)] [] M) : ∀ (nn : Nat) (x6 : Int) (x7 : Int) (out : Int × Int), itr (fun s => m_X12_count_L146 M p1 p2 p3 p4 p5 s.1 s.2) nn (x6, x7) = some out → X out → Ex G 2 cX12_count RX12 8 146 [(0, vR 55), (1, vI p1), (2, vI p2), (3, vI p3), (4, vI p4), (5, vI p5), (6, vI x6), (7, vI x7)] [] M := by
  intro nn
  induction nn with
  | zero =>
    intro x6 x7 out h _
    cases h
  | succ nn ih =>
    intro x6 x7 out h0 hX
    obtain ⟨w, h, k1, k2⟩ := itr_inv h0
    have h : m_X12_count_L146 M p1 p2 p3 p4 p5 x6 x7 = some w := h
    unfold m_X12_count_L146 at h
    refine r_iload dX12_count_146 7 rfl ?_
    refine r_iconst dX12_count_148 ?_
    by_cases c24 : wr 4 ≤ wr x7
    · rw [if_pos c24] at h
      refine r_icmp_ge (tgt := 178) dX12_count_149 (by decide) (fun _ => ?_) (fun q => absurd c24 q)
      cases h
      cases k2 _ rfl
      exact hX1 _ _ hX
    · rw [if_neg c24] at h
      refine r_icmp_ge (tgt := 178) dX12_count_149 (by decide) (fun q => absurd q c24) (fun _ => ?_)
      refine r_iload dX12_count_152 6 rfl ?_
      refine r_aload_n dX12_count_154 rfl 0 rfl ?_
      refine r_getR (j := 5) (v := 59) dX12_count_155 f_X12_20 rfl rfl rfl ?_
      refine r_iload dX12_count_158 7 rfl ?_
      obtain ⟨c25, h⟩ := of_ck h
      refine r_zald dX12_count_160 rfl c25 ?_
      obtain ⟨v27, ev27, h⟩ := of_lt h
      have kJ : Ex G 2 cX12_count RX12 8 169 [(0, vR 55), (1, vI p1), (2, vI p2), (3, vI p3), (4, vI p4), (5, vI p5), (7, vI x7)] [vI v27, vI x6] M := by
        refine r_iadd dX12_count_169 ?_
        refine r_istore (lv2 := [(6, vI (x6 + v27)), (0, vR 55), (1, vI p1), (2, vI p2), (3, vI p3), (4, vI p4), (5, vI p5), (7, vI x7)]) dX12_count_170 (by decide) rfl ?_
        refine r_iinc (lv2 := [(7, vI (x7 + 1)), (6, vI (x6 + v27)), (0, vR 55), (1, vI p1), (2, vI p2), (3, vI p3), (4, vI p4), (5, vI p5)]) dX12_count_172 7 rfl (by decide) rfl ?_
        refine r_goto (tgt := 146) dX12_count_175 (by decide) ?_
        refine r_sub (lv2 := [(0, vR 55), (1, vI p1), (2, vI p2), (3, vI p3), (4, vI p4), (5, vI p5), (6, vI (x6 + v27)), (7, vI (x7 + 1))]) [2, 3, 4, 5, 6, 7, 1, 0] rfl ?_
        cases h
        exact ih _ _  _ (k1 _ rfl) hX
      clear h
      by_cases c26 : wr (gI M 59 (wr x7)) = 0
      · skip
        refine r_if_eq (tgt := 168) dX12_count_161 (by decide) (fun _ => ?_) (fun q => absurd c26 q)
        refine r_iconst dX12_count_168 ?_
        rw [show v27 = 0 from by rw [ev27, if_pos c26]] at kJ
        refine r_sub (lv2 := [(0, vR 55), (1, vI p1), (2, vI p2), (3, vI p3), (4, vI p4), (5, vI p5), (7, vI x7)]) [0, 1, 2, 3, 4, 5, 7] rfl ?_
        exact kJ
      · skip
        refine r_if_eq (tgt := 168) dX12_count_161 (by decide) (fun q => absurd q c26) (fun _ => ?_)
        refine r_iconst dX12_count_164 ?_
        refine r_goto (tgt := 169) dX12_count_165 (by decide) ?_
        rw [show v27 = 1 from by rw [ev27, if_neg c26]] at kJ
        refine r_sub (lv2 := [(0, vR 55), (1, vI p1), (2, vI p2), (3, vI p3), (4, vI p4), (5, vI p5), (7, vI x7)]) [0, 1, 2, 3, 4, 5, 7] rfl ?_
        exact kJ

set_option maxRecDepth 10000 in
theorem run_X12_count {M : Mem} {a1 : Int} {r : Int}   (h : m_X12_count M a1 = some r) : RunI 2 yX12_count cX12_count 8 (some .int) [vR 55, vI a1] M r M := by
  refine runI_of (lv := [(0, vR 55), (1, vI a1)]) (by decide +kernel) (Or.inl rfl) (Nat.le_of_ble_eq_true rfl) rfl ?_
  intro G hQ
  unfold m_X12_count at h
  refine r_iconst dX12_count_0 ?_
  refine r_istore_n (lv2 := [(2, vI 0), (0, vR 55), (1, vI a1)]) dX12_count_1 rfl (by decide) rfl ?_
  refine r_iconst dX12_count_2 ?_
  refine r_istore_n (lv2 := [(3, vI 0), (2, vI 0), (0, vR 55), (1, vI a1)]) dX12_count_3 rfl (by decide) rfl ?_
  obtain ⟨y8, y9, h9, h⟩ := of_bd2 h
  refine r_sub (lv2 := [(0, vR 55), (1, vI a1), (2, vI 0), (3, vI 0)]) [2, 3, 1, 0] rfl ?_
  refine lp_X12_count_L4 M a1  (fun w => w = (y8, y9)) ?_ FU 0 0 _ h9 rfl
  intro z0 z1 hw
  cases hw
  refine r_iconst dX12_count_48 ?_
  refine r_istore_n (lv2 := [(3, vI 0), (0, vR 55), (1, vI a1), (2, vI y8)]) dX12_count_49 rfl (by decide) rfl ?_
  refine r_iconst dX12_count_50 ?_
  refine r_istore (lv2 := [(4, vI 0), (3, vI 0), (0, vR 55), (1, vI a1), (2, vI y8)]) dX12_count_51 (by decide) rfl ?_
  refine r_iconst dX12_count_53 ?_
  refine r_istore (lv2 := [(5, vI 0), (4, vI 0), (3, vI 0), (0, vR 55), (1, vI a1), (2, vI y8)]) dX12_count_54 (by decide) rfl ?_
  refine r_iconst dX12_count_56 ?_
  refine r_istore (lv2 := [(6, vI 0), (5, vI 0), (4, vI 0), (3, vI 0), (0, vR 55), (1, vI a1), (2, vI y8)]) dX12_count_57 (by decide) rfl ?_
  obtain ⟨y20, y21, y22, y23, h9, h⟩ := of_bd4 h
  refine r_sub (lv2 := [(0, vR 55), (1, vI a1), (2, vI y8), (3, vI 0), (4, vI 0), (5, vI 0), (6, vI 0)]) [4, 5, 6, 3, 2, 1, 0] rfl ?_
  refine lp_X12_count_L59 M a1 y8  (fun w => w = (y20, y21, y22, y23)) ?_ FU 0 0 0 0 _ h9 rfl
  intro z0 z1 z2 z3 hw
  cases hw
  refine r_iconst dX12_count_140 ?_
  refine r_istore (lv2 := [(6, vI 0), (0, vR 55), (1, vI a1), (2, vI y8), (3, vI y20), (4, vI y21), (5, vI y22)]) dX12_count_141 (by decide) rfl ?_
  refine r_iconst dX12_count_143 ?_
  refine r_istore (lv2 := [(7, vI 0), (6, vI 0), (0, vR 55), (1, vI a1), (2, vI y8), (3, vI y20), (4, vI y21), (5, vI y22)]) dX12_count_144 (by decide) rfl ?_
  obtain ⟨y28, y29, h9, h⟩ := of_bd2 h
  refine r_sub (lv2 := [(0, vR 55), (1, vI a1), (2, vI y8), (3, vI y20), (4, vI y21), (5, vI y22), (6, vI 0), (7, vI 0)]) [2, 3, 4, 5, 6, 7, 1, 0] rfl ?_
  refine lp_X12_count_L146 M a1 y8 y20 y21 y22  (fun w => w = (y28, y29)) ?_ FU 0 0 _ h9 rfl
  intro z0 z1 hw
  cases hw
  refine r_iload_n dX12_count_178 rfl 1 rfl ?_
  by_cases c30 : wr a1 = 0
  · rw [if_pos c30] at h
    refine r_tabIn (tgt := 224) dX12_count_179 0 (c30.trans rfl) (by decide) rfl (by decide) ?_
    refine r_aload_n dX12_count_224 rfl 0 rfl ?_
    refine r_getI (j := 0) (jz := 0) dX12_count_225 f_X12_88 rfl rfl rfl ?_
    cases h
    exact hQ _ _ dX12_count_228
  · rw [if_neg c30] at h
    by_cases c31 : wr a1 = 1
    · rw [if_pos c31] at h
      refine r_tabIn (tgt := 229) dX12_count_179 1 (c31.trans rfl) (by decide) rfl (by decide) ?_
      refine r_aload_n dX12_count_229 rfl 0 rfl ?_
      refine r_getI (j := 1) (jz := 1) dX12_count_230 f_X12_92 rfl rfl rfl ?_
      cases h
      exact hQ _ _ dX12_count_233
    · rw [if_neg c31] at h
      by_cases c32 : wr a1 = 2
      · rw [if_pos c32] at h
        refine r_tabIn (tgt := 234) dX12_count_179 2 (c32.trans rfl) (by decide) rfl (by decide) ?_
        refine r_aload_n dX12_count_234 rfl 0 rfl ?_
        obtain ⟨r34, hc33, h⟩ := of_bd1 h
        refine r_callVI (st := []) dX12_count_235 v_X12_140 (run_X12_openMany hc33) (by decide) (by decide) rfl rfl (Nat.le_of_ble_eq_true rfl) rfl ?_
        cases h
        exact hQ _ _ dX12_count_238
      · rw [if_neg c32] at h
        by_cases c35 : wr a1 = 3
        · rw [if_pos c35] at h
          refine r_tabIn (tgt := 239) dX12_count_179 3 (c35.trans rfl) (by decide) rfl (by decide) ?_
          refine r_iload_n dX12_count_239 rfl 2 rfl ?_
          cases h
          exact hQ _ _ dX12_count_240
        · rw [if_neg c35] at h
          by_cases c36 : wr a1 = 4
          · rw [if_pos c36] at h
            refine r_tabIn (tgt := 241) dX12_count_179 4 (c36.trans rfl) (by decide) rfl (by decide) ?_
            refine r_iload_n dX12_count_241 rfl 3 rfl ?_
            cases h
            exact hQ _ _ dX12_count_242
          · rw [if_neg c36] at h
            by_cases c37 : wr a1 = 5
            · rw [if_pos c37] at h
              refine r_tabIn (tgt := 243) dX12_count_179 5 (c37.trans rfl) (by decide) rfl (by decide) ?_
              refine r_iload dX12_count_243 4 rfl ?_
              cases h
              exact hQ _ _ dX12_count_245
            · rw [if_neg c37] at h
              by_cases c38 : wr a1 = 6
              · rw [if_pos c38] at h
                refine r_tabIn (tgt := 246) dX12_count_179 6 (c38.trans rfl) (by decide) rfl (by decide) ?_
                refine r_iload dX12_count_246 5 rfl ?_
                cases h
                exact hQ _ _ dX12_count_248
              · rw [if_neg c38] at h
                by_cases c39 : wr a1 = 7
                · rw [if_pos c39] at h
                  refine r_tabIn (tgt := 249) dX12_count_179 7 (c39.trans rfl) (by decide) rfl (by decide) ?_
                  refine r_iload dX12_count_249 6 rfl ?_
                  cases h
                  exact hQ _ _ dX12_count_251
                · rw [if_neg c39] at h
                  refine r_tabOut (tgt := 252) dX12_count_179 (by omega) (by decide) ?_
                  refine r_iconst dX12_count_252 ?_
                  cases h
                  exact hQ _ _ dX12_count_253

def m_X12_want (M : Mem) (a1 : Int) (a2 : Int) : Option (Int × Mem) :=
  bd1 (m_X12_isBrick M a1) fun b2 =>
  if wr (bI b2) = 0 then
    some ((-1), M)
  else
    bd1 (m_X12_in (i2l a2) (0 : Int64) (2)) fun b5 =>
    if wr (bI b5) = 0 then
      some ((-1), M)
    else
      if 0 ≤ wr a1 ∧ wr a1 < 128 then
      lt (sI M 57 (wr a1) a2) fun M8 =>
      some ((gI M 57 (wr a1)), M8)
      else none
set_option maxRecDepth 10000 in
theorem run_X12_want {M : Mem} {M2 : Mem} {a1 : Int} {a2 : Int} {r : Int}   (h : m_X12_want M a1 a2 = some (r, M2)) : RunI 2 yX12_want cX12_want 4 (some .int) [vR 55, vI a1, vI a2] M r M2 := by
  refine runI_of (lv := [(0, vR 55), (1, vI a1), (2, vI a2)]) (by decide +kernel) (Or.inl rfl) (Nat.le_of_ble_eq_true rfl) rfl ?_
  intro G hQ
  unfold m_X12_want at h
  refine r_aload_n dX12_want_0 rfl 0 rfl ?_
  refine r_iload_n dX12_want_1 rfl 1 rfl ?_
  obtain ⟨b2, hc1, h⟩ := of_bd1 h
  refine r_callVI (st := []) dX12_want_2 v_X12_153 (run_X12_isBrick hc1) (by decide) (by decide) rfl rfl (Nat.le_of_ble_eq_true rfl) rfl ?_
  by_cases c3 : wr (bI b2) = 0
  · rw [if_pos c3] at h
    refine r_if_eq (tgt := 20) dX12_want_5 (by decide) (fun _ => ?_) (fun q => absurd c3 q)
    refine r_iconst dX12_want_20 ?_
    cases h
    exact hQ _ _ dX12_want_21
  · rw [if_neg c3] at h
    refine r_if_eq (tgt := 20) dX12_want_5 (by decide) (fun q => absurd q c3) (fun _ => ?_)
    refine r_iload_n dX12_want_8 rfl 2 rfl ?_
    refine r_i2l dX12_want_9 ?_
    refine r_lconst (v := 0) dX12_want_10 rfl ?_
    refine r_ldc2 (v := (2)) dX12_want_11 kl_X12_156 ?_
    obtain ⟨b5, hc4, h⟩ := of_bd1 h
    refine r_callSI (st := []) dX12_want_14 v_X12_100 (run_X12_in hc4) (by decide) (by decide) rfl (Nat.le_of_ble_eq_true rfl) rfl ?_
    by_cases c6 : wr (bI b5) = 0
    · rw [if_pos c6] at h
      refine r_if_ne (tgt := 22) dX12_want_17 (by decide) (fun q => absurd c6 q) (fun _ => ?_)
      refine r_iconst dX12_want_20 ?_
      cases h
      exact hQ _ _ dX12_want_21
    · rw [if_neg c6] at h
      refine r_if_ne (tgt := 22) dX12_want_17 (by decide) (fun _ => ?_) (fun q => absurd q c6)
      refine r_aload_n dX12_want_22 rfl 0 rfl ?_
      refine r_getR (j := 3) (v := 57) dX12_want_23 f_X12_13 rfl rfl rfl ?_
      refine r_iload_n dX12_want_26 rfl 1 rfl ?_
      obtain ⟨c7, h⟩ := of_ck h
      refine r_iald dX12_want_27 rfl c7 ?_
      refine r_istore_n (lv2 := [(3, vI (gI M 57 (wr a1))), (0, vR 55), (1, vI a1), (2, vI a2)]) dX12_want_28 rfl (by decide) rfl ?_
      refine r_aload_n dX12_want_29 rfl 1 rfl ?_
      refine r_getR (j := 3) (v := 57) dX12_want_30 f_X12_13 rfl rfl rfl ?_
      refine r_iload_n dX12_want_33 rfl 2 rfl ?_
      refine r_iload_n dX12_want_34 rfl 3 rfl ?_
      obtain ⟨M8, eM8, h⟩ := of_lt h
      refine r_iast dX12_want_35 rfl c7 ?_
      rw [← eM8]
      refine r_iload_n dX12_want_36 rfl 0 rfl ?_
      cases h
      exact hQ _ _ dX12_want_37

def m_X12_price (M : Mem) (a1 : Int) (a2 : Int) : Option (Int × Mem) :=
  bd1 (m_X12_isBrick M a1) fun b2 =>
  if wr (bI b2) = 0 then
    some ((-1), M)
  else
    bd1 (m_X12_in (i2l a2) (0 : Int64) (999)) fun b5 =>
    if wr (bI b5) = 0 then
      some ((-1), M)
    else
      if 0 ≤ wr a1 ∧ wr a1 < 128 then
      lt (sI M 58 (wr a1) a2) fun M8 =>
      some ((gI M 58 (wr a1)), M8)
      else none
set_option maxRecDepth 10000 in
theorem run_X12_price {M : Mem} {M2 : Mem} {a1 : Int} {a2 : Int} {r : Int}   (h : m_X12_price M a1 a2 = some (r, M2)) : RunI 2 yX12_price cX12_price 4 (some .int) [vR 55, vI a1, vI a2] M r M2 := by
  refine runI_of (lv := [(0, vR 55), (1, vI a1), (2, vI a2)]) (by decide +kernel) (Or.inl rfl) (Nat.le_of_ble_eq_true rfl) rfl ?_
  intro G hQ
  unfold m_X12_price at h
  refine r_aload_n dX12_price_0 rfl 0 rfl ?_
  refine r_iload_n dX12_price_1 rfl 1 rfl ?_
  obtain ⟨b2, hc1, h⟩ := of_bd1 h
  refine r_callVI (st := []) dX12_price_2 v_X12_153 (run_X12_isBrick hc1) (by decide) (by decide) rfl rfl (Nat.le_of_ble_eq_true rfl) rfl ?_
  by_cases c3 : wr (bI b2) = 0
  · rw [if_pos c3] at h
    refine r_if_eq (tgt := 20) dX12_price_5 (by decide) (fun _ => ?_) (fun q => absurd c3 q)
    refine r_iconst dX12_price_20 ?_
    cases h
    exact hQ _ _ dX12_price_21
  · rw [if_neg c3] at h
    refine r_if_eq (tgt := 20) dX12_price_5 (by decide) (fun q => absurd q c3) (fun _ => ?_)
    refine r_iload_n dX12_price_8 rfl 2 rfl ?_
    refine r_i2l dX12_price_9 ?_
    refine r_lconst (v := 0) dX12_price_10 rfl ?_
    refine r_ldc2 (v := (999)) dX12_price_11 kl_X12_158 ?_
    obtain ⟨b5, hc4, h⟩ := of_bd1 h
    refine r_callSI (st := []) dX12_price_14 v_X12_100 (run_X12_in hc4) (by decide) (by decide) rfl (Nat.le_of_ble_eq_true rfl) rfl ?_
    by_cases c6 : wr (bI b5) = 0
    · rw [if_pos c6] at h
      refine r_if_ne (tgt := 22) dX12_price_17 (by decide) (fun q => absurd c6 q) (fun _ => ?_)
      refine r_iconst dX12_price_20 ?_
      cases h
      exact hQ _ _ dX12_price_21
    · rw [if_neg c6] at h
      refine r_if_ne (tgt := 22) dX12_price_17 (by decide) (fun _ => ?_) (fun q => absurd q c6)
      refine r_aload_n dX12_price_22 rfl 0 rfl ?_
      refine r_getR (j := 4) (v := 58) dX12_price_23 f_X12_17 rfl rfl rfl ?_
      refine r_iload_n dX12_price_26 rfl 1 rfl ?_
      obtain ⟨c7, h⟩ := of_ck h
      refine r_iald dX12_price_27 rfl c7 ?_
      refine r_istore_n (lv2 := [(3, vI (gI M 58 (wr a1))), (0, vR 55), (1, vI a1), (2, vI a2)]) dX12_price_28 rfl (by decide) rfl ?_
      refine r_aload_n dX12_price_29 rfl 1 rfl ?_
      refine r_getR (j := 4) (v := 58) dX12_price_30 f_X12_17 rfl rfl rfl ?_
      refine r_iload_n dX12_price_33 rfl 2 rfl ?_
      refine r_iload_n dX12_price_34 rfl 3 rfl ?_
      obtain ⟨M8, eM8, h⟩ := of_lt h
      refine r_iast dX12_price_35 rfl c7 ?_
      rw [← eM8]
      refine r_iload_n dX12_price_36 rfl 0 rfl ?_
      cases h
      exact hQ _ _ dX12_price_37

def m_X12_musts_L13 (M : Mem) (p1 : Int) (p2 : Int) (p3 : Int) (x4 : Int) : Option ((Int × Mem) ⊕ (Int × Mem)) :=
  if wr ((2 * (gI M 55 0)) * (gI M 55 1)) ≤ wr x4 then
    some (.inr (x4, M))
  else
    bd1 (m_X12_otherOf M x4) fun r5 =>
    if 0 ≤ wr x4 ∧ wr x4 < 128 then
    lt (if wr (gI M 63 (wr x4)) = 0 then 0 else (if wr x4 = wr p1 then 1 else (if wr (idv x4 2) = wr p2 then 0 else (if wr (idv x4 2) = wr p3 then 0 else (if wr r5 = wr p2 then 0 else (if wr r5 = wr p3 then 0 else 1)))))) fun (v13 : Int) =>
    if v13 = 0 ∨ v13 = 1 then
    lt (sI M 63 (wr x4) v13) fun M15 =>
    some (.inl ((x4 + 1), M15))
    else none
    else none
def m_X12_musts (M : Mem) (a1 : Int) : Option (Mem) :=
  bd1 (m_X12_otherOf M a1) fun r2 =>
  bd2 (itr (fun s => m_X12_musts_L13 s.2 a1 (idv a1 2) r2 s.1) FU (0, M)) fun y16 M17 =>
  some M17
set_option maxRecDepth 10000 in
theorem lp_X12_musts_L13 {G : Gx} (p1 : Int) (p2 : Int) (p3 : Int)   (X : (Int × Mem) → Prop) (hX1 : ∀ (x4 : Int) (M : Mem), X (x4, M) → Ex G 1 cX12_musts RX12 7 101 [(0, vR 55), (1, vI p1), (2, vI p2), (3, vI p3), (4, vI x4)] [] M) : ∀ (nn : Nat) (x4 : Int) (M : Mem) (out : Int × Mem), itr (fun s => m_X12_musts_L13 s.2 p1 p2 p3 s.1) nn (x4, M) = some out → X out → Ex G 1 cX12_musts RX12 7 13 [(0, vR 55), (1, vI p1), (2, vI p2), (3, vI p3), (4, vI x4)] [] M := by
  intro nn
  induction nn with
  | zero =>
    intro x4 M out h _
    cases h
  | succ nn ih =>
    intro x4 M out h0 hX
    obtain ⟨w, h, k1, k2⟩ := itr_inv h0
    have h : m_X12_musts_L13 M p1 p2 p3 x4 = some w := h
    unfold m_X12_musts_L13 at h
    refine r_iload dX12_musts_13 4 rfl ?_
    refine r_iconst dX12_musts_15 ?_
    refine r_aload_n dX12_musts_16 rfl 0 rfl ?_
    refine r_getI (j := 0) (jz := 0) dX12_musts_17 f_X12_88 rfl rfl rfl ?_
    refine r_imul dX12_musts_20 ?_
    refine r_aload_n dX12_musts_21 rfl 0 rfl ?_
    refine r_getI (j := 1) (jz := 1) dX12_musts_22 f_X12_92 rfl rfl rfl ?_
    refine r_imul dX12_musts_25 ?_
    by_cases c3 : wr ((2 * (gI M 55 0)) * (gI M 55 1)) ≤ wr x4
    · rw [if_pos c3] at h
      refine r_icmp_ge (tgt := 101) dX12_musts_26 (by decide) (fun _ => ?_) (fun q => absurd c3 q)
      cases h
      cases k2 _ rfl
      exact hX1 _ _ hX
    · rw [if_neg c3] at h
      refine r_icmp_ge (tgt := 101) dX12_musts_26 (by decide) (fun q => absurd q c3) (fun _ => ?_)
      refine r_iload dX12_musts_29 4 rfl ?_
      refine r_iconst dX12_musts_31 ?_
      refine r_idiv dX12_musts_32 (by decide) ?_
      refine r_istore (lv2 := [(5, vI (idv x4 2)), (0, vR 55), (1, vI p1), (2, vI p2), (3, vI p3), (4, vI x4)]) dX12_musts_33 (by decide) rfl ?_
      refine r_aload_n dX12_musts_35 rfl 1 rfl ?_
      refine r_iload dX12_musts_36 5 rfl ?_
      obtain ⟨r5, hc4, h⟩ := of_bd1 h
      refine r_callVI (st := []) dX12_musts_38 v_X12_108 (run_X12_otherOf hc4) (by decide) (by decide) rfl rfl (Nat.le_of_ble_eq_true rfl) rfl ?_
      refine r_istore (lv2 := [(6, vI r5), (5, vI (idv x4 2)), (0, vR 55), (1, vI p1), (2, vI p2), (3, vI p3), (4, vI x4)]) dX12_musts_41 (by decide) rfl ?_
      refine r_aload_n dX12_musts_43 rfl 2 rfl ?_
      refine r_getR (j := 11) (v := 63) dX12_musts_44 f_X12_32 rfl rfl rfl ?_
      refine r_iload dX12_musts_47 6 rfl ?_
      refine r_aload_n dX12_musts_49 rfl 2 rfl ?_
      refine r_getR (j := 11) (v := 63) dX12_musts_50 f_X12_32 rfl rfl rfl ?_
      refine r_iload dX12_musts_53 6 rfl ?_
      obtain ⟨c6, h⟩ := of_ck h
      refine r_zald dX12_musts_55 rfl c6 ?_
      obtain ⟨v13, ev13, h⟩ := of_lt h
      have kJ : Ex G 1 cX12_musts RX12 7 94 [(0, vR 55), (1, vI p1), (2, vI p2), (3, vI p3), (4, vI x4)] [vI v13, vI x4, vR 63] M := by
        obtain ⟨c14, h⟩ := of_ck h
        obtain ⟨M15, eM15, h⟩ := of_lt h
        refine r_zast dX12_musts_94 rfl c6 c14 ?_
        rw [← eM15]
        refine r_iinc (lv2 := [(4, vI (x4 + 1)), (0, vR 55), (1, vI p1), (2, vI p2), (3, vI p3)]) dX12_musts_95 4 rfl (by decide) rfl ?_
        refine r_goto (tgt := 13) dX12_musts_98 (by decide) ?_
        refine r_sub (lv2 := [(0, vR 55), (1, vI p1), (2, vI p2), (3, vI p3), (4, vI (x4 + 1))]) [1, 2, 3, 4, 0] rfl ?_
        cases h
        exact ih _ _  _ (k1 _ rfl) hX
      clear h
      by_cases c7 : wr (gI M 63 (wr x4)) = 0
      · skip
        refine r_if_eq (tgt := 93) dX12_musts_56 (by decide) (fun _ => ?_) (fun q => absurd c7 q)
        refine r_iconst dX12_musts_93 ?_
        rw [show v13 = 0 from by rw [ev13, if_pos c7]] at kJ
        refine r_sub (lv2 := [(0, vR 55), (1, vI p1), (2, vI p2), (3, vI p3), (4, vI x4)]) [2, 3, 4, 5, 6] rfl ?_
        exact kJ
      · skip
        refine r_if_eq (tgt := 93) dX12_musts_56 (by decide) (fun q => absurd q c7) (fun _ => ?_)
        refine r_iload dX12_musts_59 6 rfl ?_
        refine r_iload_n dX12_musts_61 rfl 3 rfl ?_
        by_cases c8 : wr x4 = wr p1
        · skip
          refine r_icmp_eq (tgt := 89) dX12_musts_62 (by decide) (fun _ => ?_) (fun q => absurd c8 q)
          refine r_iconst dX12_musts_89 ?_
          refine r_goto (tgt := 94) dX12_musts_90 (by decide) ?_
          rw [show v13 = 1 from by rw [ev13, if_neg c7, if_pos c8]] at kJ
          refine r_sub (lv2 := [(0, vR 55), (1, vI p1), (2, vI p2), (3, vI p3), (4, vI x4)]) [2, 3, 4, 5, 6] rfl ?_
          exact kJ
        · skip
          refine r_icmp_eq (tgt := 89) dX12_musts_62 (by decide) (fun q => absurd q c8) (fun _ => ?_)
          refine r_iload dX12_musts_65 1 rfl ?_
          refine r_iload_n dX12_musts_67 rfl 4 rfl ?_
          by_cases c9 : wr (idv x4 2) = wr p2
          · skip
            refine r_icmp_eq (tgt := 93) dX12_musts_68 (by decide) (fun _ => ?_) (fun q => absurd c9 q)
            refine r_iconst dX12_musts_93 ?_
            rw [show v13 = 0 from by rw [ev13, if_neg c7, if_neg c8, if_pos c9]] at kJ
            refine r_sub (lv2 := [(0, vR 55), (1, vI p1), (2, vI p2), (3, vI p3), (4, vI x4)]) [2, 3, 4, 5, 6] rfl ?_
            exact kJ
          · skip
            refine r_icmp_eq (tgt := 93) dX12_musts_68 (by decide) (fun q => absurd q c9) (fun _ => ?_)
            refine r_iload dX12_musts_71 1 rfl ?_
            refine r_iload_n dX12_musts_73 rfl 5 rfl ?_
            by_cases c10 : wr (idv x4 2) = wr p3
            · skip
              refine r_icmp_eq (tgt := 93) dX12_musts_74 (by decide) (fun _ => ?_) (fun q => absurd c10 q)
              refine r_iconst dX12_musts_93 ?_
              rw [show v13 = 0 from by rw [ev13, if_neg c7, if_neg c8, if_neg c9, if_pos c10]] at kJ
              refine r_sub (lv2 := [(0, vR 55), (1, vI p1), (2, vI p2), (3, vI p3), (4, vI x4)]) [2, 3, 4, 5, 6] rfl ?_
              exact kJ
            · skip
              refine r_icmp_eq (tgt := 93) dX12_musts_74 (by decide) (fun q => absurd q c10) (fun _ => ?_)
              refine r_iload dX12_musts_77 0 rfl ?_
              refine r_iload_n dX12_musts_79 rfl 4 rfl ?_
              by_cases c11 : wr r5 = wr p2
              · skip
                refine r_icmp_eq (tgt := 93) dX12_musts_80 (by decide) (fun _ => ?_) (fun q => absurd c11 q)
                refine r_iconst dX12_musts_93 ?_
                rw [show v13 = 0 from by rw [ev13, if_neg c7, if_neg c8, if_neg c9, if_neg c10, if_pos c11]] at kJ
                refine r_sub (lv2 := [(0, vR 55), (1, vI p1), (2, vI p2), (3, vI p3), (4, vI x4)]) [2, 3, 4, 5, 6] rfl ?_
                exact kJ
              · skip
                refine r_icmp_eq (tgt := 93) dX12_musts_80 (by decide) (fun q => absurd q c11) (fun _ => ?_)
                refine r_iload dX12_musts_83 0 rfl ?_
                refine r_iload_n dX12_musts_85 rfl 5 rfl ?_
                by_cases c12 : wr r5 = wr p3
                · skip
                  refine r_icmp_eq (tgt := 93) dX12_musts_86 (by decide) (fun _ => ?_) (fun q => absurd c12 q)
                  refine r_iconst dX12_musts_93 ?_
                  rw [show v13 = 0 from by rw [ev13, if_neg c7, if_neg c8, if_neg c9, if_neg c10, if_neg c11, if_pos c12]] at kJ
                  refine r_sub (lv2 := [(0, vR 55), (1, vI p1), (2, vI p2), (3, vI p3), (4, vI x4)]) [2, 3, 4, 5, 6] rfl ?_
                  exact kJ
                · skip
                  refine r_icmp_eq (tgt := 93) dX12_musts_86 (by decide) (fun q => absurd q c12) (fun _ => ?_)
                  refine r_iconst dX12_musts_89 ?_
                  refine r_goto (tgt := 94) dX12_musts_90 (by decide) ?_
                  rw [show v13 = 1 from by rw [ev13, if_neg c7, if_neg c8, if_neg c9, if_neg c10, if_neg c11, if_neg c12]] at kJ
                  refine r_sub (lv2 := [(0, vR 55), (1, vI p1), (2, vI p2), (3, vI p3), (4, vI x4)]) [2, 3, 4, 5, 6] rfl ?_
                  exact kJ

set_option maxRecDepth 10000 in
theorem run_X12_musts {M : Mem} {M2 : Mem} {a1 : Int}   (h : m_X12_musts M a1 = some (M2)) : RunV 1 yX12_musts cX12_musts 7 none [vR 55, vI a1] M M2 := by
  refine runV_of (lv := [(0, vR 55), (1, vI a1)]) (by decide +kernel) rfl (Nat.le_of_ble_eq_true rfl) rfl ?_
  intro G hQ
  unfold m_X12_musts at h
  refine r_iload_n dX12_musts_0 rfl 1 rfl ?_
  refine r_iconst dX12_musts_1 ?_
  refine r_idiv dX12_musts_2 (by decide) ?_
  refine r_istore_n (lv2 := [(2, vI (idv a1 2)), (0, vR 55), (1, vI a1)]) dX12_musts_3 rfl (by decide) rfl ?_
  refine r_aload_n dX12_musts_4 rfl 1 rfl ?_
  refine r_iload_n dX12_musts_5 rfl 2 rfl ?_
  obtain ⟨r2, hc1, h⟩ := of_bd1 h
  refine r_callVI (st := []) dX12_musts_6 v_X12_108 (run_X12_otherOf hc1) (by decide) (by decide) rfl rfl (Nat.le_of_ble_eq_true rfl) rfl ?_
  refine r_istore_n (lv2 := [(3, vI r2), (2, vI (idv a1 2)), (0, vR 55), (1, vI a1)]) dX12_musts_9 rfl (by decide) rfl ?_
  refine r_iconst dX12_musts_10 ?_
  refine r_istore (lv2 := [(4, vI 0), (3, vI r2), (2, vI (idv a1 2)), (0, vR 55), (1, vI a1)]) dX12_musts_11 (by decide) rfl ?_
  obtain ⟨y16, M17, h9, h⟩ := of_bd2 h
  refine r_sub (lv2 := [(0, vR 55), (1, vI a1), (2, vI (idv a1 2)), (3, vI r2), (4, vI 0)]) [3, 4, 2, 1, 0] rfl ?_
  refine lp_X12_musts_L13 a1 (idv a1 2) r2  (fun w => w = (y16, M17)) ?_ FU 0 M _ h9 rfl
  intro z0 z1 hw
  cases hw
  cases h
  exact hQ _ _ dX12_musts_101

