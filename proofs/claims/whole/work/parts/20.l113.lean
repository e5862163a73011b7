def m_X12_turn (M : Mem) (a1 : Int) (a2 : Int) (a3 : Int) : Option (Int × Mem) :=
  bd1 (m_X12_isSlot a1) fun b2 =>
  if wr (bI b2) = 0 then
    some ((-1), M)
  else
    bd1 (m_X12_in (i2l a2) (0 : Int64) (i2l (gI M 55 0))) fun b5 =>
    if wr (bI b5) = 0 then
      some ((-1), M)
    else
      bd1 (m_X12_in (i2l a3) (0 : Int64) (i2l (gI M 55 1))) fun b8 =>
      if wr (bI b8) = 0 then
        some ((-1), M)
      else
        bd2 (m_X12_refuses M a1) fun r11 M12 =>
        if 0 ≤ wr r11 then
          bd1 (m_X12_turnOf M12 a1 a2 a3) fun r15 =>
          if wr r15 = wr (-4) then
            some ((-2), M12)
          else
            bd1 (m_X12_across M12 a1 a2 a3) fun M18 =>
            some (r15, M18)
        else
          some (r11, M12)
set_option maxRecDepth 10000 in
theorem run_X12_turn {M : Mem} {M2 : Mem} {a1 : Int} {a2 : Int} {a3 : Int} {r : Int}   (h : m_X12_turn M a1 a2 a3 = some (r, M2)) : RunI 6 yX12_turn cX12_turn 6 (some .int) [vR 55, vI a1, vI a2, vI a3] M r M2 := by
  refine runI_of (lv := [(0, vR 55), (1, vI a1), (2, vI a2), (3, vI a3)]) (by decide +kernel) (Or.inl rfl) (Nat.le_of_ble_eq_true rfl) rfl ?_
  intro G hQ
  unfold m_X12_turn at h
  refine r_iload_n dX12_turn_0 rfl 1 rfl ?_
  obtain ⟨b2, hc1, h⟩ := of_bd1 h
  refine r_callSI (st := []) dX12_turn_1 v_X12_188 (run_X12_isSlot hc1) (by decide) (by decide) rfl (Nat.le_of_ble_eq_true rfl) rfl ?_
  by_cases c3 : wr (bI b2) = 0
  · rw [if_pos c3] at h
    refine r_if_eq (tgt := 35) dX12_turn_4 (by decide) (fun _ => ?_) (fun q => absurd c3 q)
    refine r_iconst dX12_turn_35 ?_
    cases h
    exact hQ _ _ dX12_turn_36
  · rw [if_neg c3] at h
    refine r_if_eq (tgt := 35) dX12_turn_4 (by decide) (fun q => absurd q c3) (fun _ => ?_)
    refine r_iload_n dX12_turn_7 rfl 2 rfl ?_
    refine r_i2l dX12_turn_8 ?_
    refine r_lconst (v := 0) dX12_turn_9 rfl ?_
    refine r_aload_n dX12_turn_10 rfl 0 rfl ?_
    refine r_getI (j := 0) (jz := 0) dX12_turn_11 f_X12_88 rfl rfl rfl ?_
    refine r_i2l dX12_turn_14 ?_
    obtain ⟨b5, hc4, h⟩ := of_bd1 h
    refine r_callSI (st := []) dX12_turn_15 v_X12_100 (run_X12_in hc4) (by decide) (by decide) rfl (Nat.le_of_ble_eq_true rfl) rfl ?_
    by_cases c6 : wr (bI b5) = 0
    · rw [if_pos c6] at h
      refine r_if_eq (tgt := 35) dX12_turn_18 (by decide) (fun _ => ?_) (fun q => absurd c6 q)
      refine r_iconst dX12_turn_35 ?_
      cases h
      exact hQ _ _ dX12_turn_36
    · rw [if_neg c6] at h
      refine r_if_eq (tgt := 35) dX12_turn_18 (by decide) (fun q => absurd q c6) (fun _ => ?_)
      refine r_iload_n dX12_turn_21 rfl 3 rfl ?_
      refine r_i2l dX12_turn_22 ?_
      refine r_lconst (v := 0) dX12_turn_23 rfl ?_
      refine r_aload_n dX12_turn_24 rfl 0 rfl ?_
      refine r_getI (j := 1) (jz := 1) dX12_turn_25 f_X12_92 rfl rfl rfl ?_
      refine r_i2l dX12_turn_28 ?_
      obtain ⟨b8, hc7, h⟩ := of_bd1 h
      refine r_callSI (st := []) dX12_turn_29 v_X12_100 (run_X12_in hc7) (by decide) (by decide) rfl (Nat.le_of_ble_eq_true rfl) rfl ?_
      by_cases c9 : wr (bI b8) = 0
      · rw [if_pos c9] at h
        refine r_if_ne (tgt := 37) dX12_turn_32 (by decide) (fun q => absurd c9 q) (fun _ => ?_)
        refine r_iconst dX12_turn_35 ?_
        cases h
        exact hQ _ _ dX12_turn_36
      · rw [if_neg c9] at h
        refine r_if_ne (tgt := 37) dX12_turn_32 (by decide) (fun _ => ?_) (fun q => absurd q c9)
        refine r_aload_n dX12_turn_37 rfl 0 rfl ?_
        refine r_iload_n dX12_turn_38 rfl 1 rfl ?_
        obtain ⟨r11, M12, hc10, h⟩ := of_bd2 h
        refine r_callVI (st := []) dX12_turn_39 v_X12_249 (run_X12_refuses hc10) (by decide) (by decide) rfl rfl (Nat.le_of_ble_eq_true rfl) rfl ?_
        refine r_istore (lv2 := [(4, vI r11), (0, vR 55), (1, vI a1), (2, vI a2), (3, vI a3)]) dX12_turn_42 (by decide) rfl ?_
        refine r_iload dX12_turn_44 0 rfl ?_
        by_cases c13 : 0 ≤ wr r11
        · rw [if_pos c13] at h
          refine r_if_ge (tgt := 52) dX12_turn_46 (by decide) (fun _ => ?_) (fun q => absurd c13 q)
          refine r_aload_n dX12_turn_52 rfl 1 rfl ?_
          refine r_iload_n dX12_turn_53 rfl 2 rfl ?_
          refine r_iload_n dX12_turn_54 rfl 3 rfl ?_
          refine r_iload_n dX12_turn_55 rfl 4 rfl ?_
          obtain ⟨r15, hc14, h⟩ := of_bd1 h
          refine r_callVI (st := []) dX12_turn_56 v_X12_255 (run_X12_turnOf hc14) (by decide) (by decide) rfl rfl (Nat.le_of_ble_eq_true rfl) rfl ?_
          refine r_istore (lv2 := [(5, vI r15), (4, vI r11), (0, vR 55), (1, vI a1), (2, vI a2), (3, vI a3)]) dX12_turn_59 (by decide) rfl ?_
          refine r_iload dX12_turn_61 0 rfl ?_
          refine r_bipush dX12_turn_63 (by decide) ?_
          by_cases c16 : wr r15 = wr (-4)
          · rw [if_pos c16] at h
            refine r_icmp_ne (tgt := 71) dX12_turn_65 (by decide) (fun q => absurd c16 q) (fun _ => ?_)
            refine r_bipush dX12_turn_68 (by decide) ?_
            cases h
            exact hQ _ _ dX12_turn_70
          · rw [if_neg c16] at h
            refine r_icmp_ne (tgt := 71) dX12_turn_65 (by decide) (fun _ => ?_) (fun q => absurd q c16)
            refine r_aload_n dX12_turn_71 rfl 2 rfl ?_
            refine r_iload_n dX12_turn_72 rfl 3 rfl ?_
            refine r_iload_n dX12_turn_73 rfl 4 rfl ?_
            refine r_iload_n dX12_turn_74 rfl 5 rfl ?_
            obtain ⟨M18, hc17, h⟩ := of_bd1 h
            refine r_callVV (st := []) dX12_turn_75 v_X12_258 (run_X12_across hc17) (by decide) (by decide) rfl rfl (Nat.le_of_ble_eq_true rfl) rfl ?_
            refine r_iload dX12_turn_78 0 rfl ?_
            cases h
            exact hQ _ _ dX12_turn_80
        · rw [if_neg c13] at h
          refine r_if_ge (tgt := 52) dX12_turn_46 (by decide) (fun q => absurd q c13) (fun _ => ?_)
          refine r_iload dX12_turn_49 0 rfl ?_
          cases h
          exact hQ _ _ dX12_turn_51

def m_X12_turnMany_L5 (M : Mem) (p1 : Int) (p2 : Int) (x3 : Int) (x4 : Int) : Option ((Int × Int) ⊕ (Int × Int)) :=
  if wr 81 ≤ wr x4 then
    some (.inr (x3, x4))
  else
    bd1 (m_X12_turnOf M p1 (irm x4 9) (idv x4 9)) fun r3 =>
    lt (if wr r3 = wr p2 then 1 else 0) fun (v5 : Int) =>
    some (.inl ((x3 + v5), (x4 + 1)))
def m_X12_turnMany (M : Mem) (a1 : Int) (a2 : Int) : Option (Int) :=
  bd2 (itr (fun s => m_X12_turnMany_L5 M a1 a2 s.1 s.2) FU (0, 0)) fun y6 y7 =>
  some y6
set_option maxRecDepth 10000 in
theorem lp_X12_turnMany_L5 {G : Gx} (M : Mem) (p1 : Int) (p2 : Int)   (X : (Int × Int) → Prop) (hX1 : ∀ (x3 : Int) (x4 : Int), X (x3, x4) → Ex G 3 cX12_turnMany RX12 5 45 [(0, vR 55), (1, vI p1), (2, vI p2), (3, vI x3), (4, vI x4)] [] M) : ∀ (nn : Nat) (x3 : Int) (x4 : Int) (out : Int × Int), itr (fun s => m_X12_turnMany_L5 M p1 p2 s.1 s.2) nn (x3, x4) = some out → X out → Ex G 3 cX12_turnMany RX12 5 5 [(0, vR 55), (1, vI p1), (2, vI p2), (3, vI x3), (4, vI x4)] [] M := by
  intro nn
  induction nn with
  | zero =>
    intro x3 x4 out h _
    cases h
  | succ nn ih =>
    intro x3 x4 out h0 hX
    obtain ⟨w, h, k1, k2⟩ := itr_inv h0
    have h : m_X12_turnMany_L5 M p1 p2 x3 x4 = some w := h
    unfold m_X12_turnMany_L5 at h
    refine r_iload dX12_turnMany_5 4 rfl ?_
    refine r_bipush dX12_turnMany_7 (by decide) ?_
    by_cases c1 : wr 81 ≤ wr x4
    · rw [if_pos c1] at h
      refine r_icmp_ge (tgt := 45) dX12_turnMany_9 (by decide) (fun _ => ?_) (fun q => absurd c1 q)
      cases h
      cases k2 _ rfl
      exact hX1 _ _ hX
    · rw [if_neg c1] at h
      refine r_icmp_ge (tgt := 45) dX12_turnMany_9 (by decide) (fun q => absurd q c1) (fun _ => ?_)
      refine r_iload_n dX12_turnMany_12 rfl 3 rfl ?_
      refine r_aload_n dX12_turnMany_13 rfl 0 rfl ?_
      refine r_iload_n dX12_turnMany_14 rfl 1 rfl ?_
      refine r_iload dX12_turnMany_15 4 rfl ?_
      refine r_bipush dX12_turnMany_17 (by decide) ?_
      refine r_irem dX12_turnMany_19 (by decide) ?_
      refine r_iload dX12_turnMany_20 4 rfl ?_
      refine r_bipush dX12_turnMany_22 (by decide) ?_
      refine r_idiv dX12_turnMany_24 (by decide) ?_
      obtain ⟨r3, hc2, h⟩ := of_bd1 h
      refine r_callVI (st := [vI x3]) dX12_turnMany_25 v_X12_255 (run_X12_turnOf hc2) (by decide) (by decide) rfl rfl (Nat.le_of_ble_eq_true rfl) rfl ?_
      refine r_iload_n dX12_turnMany_28 rfl 2 rfl ?_
      obtain ⟨v5, ev5, h⟩ := of_lt h
      have kJ : Ex G 3 cX12_turnMany RX12 5 37 [(0, vR 55), (1, vI p1), (2, vI p2), (4, vI x4)] [vI v5, vI x3] M := by
        refine r_iadd dX12_turnMany_37 ?_
        refine r_istore_n (lv2 := [(3, vI (x3 + v5)), (0, vR 55), (1, vI p1), (2, vI p2), (4, vI x4)]) dX12_turnMany_38 rfl (by decide) rfl ?_
        refine r_iinc (lv2 := [(4, vI (x4 + 1)), (3, vI (x3 + v5)), (0, vR 55), (1, vI p1), (2, vI p2)]) dX12_turnMany_39 4 rfl (by decide) rfl ?_
        refine r_goto (tgt := 5) dX12_turnMany_42 (by decide) ?_
        refine r_sub (lv2 := [(0, vR 55), (1, vI p1), (2, vI p2), (3, vI (x3 + v5)), (4, vI (x4 + 1))]) [2, 3, 4, 1, 0] rfl ?_
        cases h
        exact ih _ _  _ (k1 _ rfl) hX
      clear h
      by_cases c4 : wr r3 = wr p2
      · skip
        refine r_icmp_ne (tgt := 36) dX12_turnMany_29 (by decide) (fun q => absurd c4 q) (fun _ => ?_)
        refine r_iconst dX12_turnMany_32 ?_
        refine r_goto (tgt := 37) dX12_turnMany_33 (by decide) ?_
        rw [show v5 = 1 from by rw [ev5, if_pos c4]] at kJ
        refine r_sub (lv2 := [(0, vR 55), (1, vI p1), (2, vI p2), (4, vI x4)]) [0, 1, 2, 4] rfl ?_
        exact kJ
      · skip
        refine r_icmp_ne (tgt := 36) dX12_turnMany_29 (by decide) (fun _ => ?_) (fun q => absurd q c4)
        refine r_iconst dX12_turnMany_36 ?_
        rw [show v5 = 0 from by rw [ev5, if_neg c4]] at kJ
        refine r_sub (lv2 := [(0, vR 55), (1, vI p1), (2, vI p2), (4, vI x4)]) [0, 1, 2, 4] rfl ?_
        exact kJ

set_option maxRecDepth 10000 in
theorem run_X12_turnMany {M : Mem} {a1 : Int} {a2 : Int} {r : Int}   (h : m_X12_turnMany M a1 a2 = some r) : RunI 3 yX12_turnMany cX12_turnMany 5 (some .int) [vR 55, vI a1, vI a2] M r M := by
  refine runI_of (lv := [(0, vR 55), (1, vI a1), (2, vI a2)]) (by decide +kernel) (Or.inl rfl) (Nat.le_of_ble_eq_true rfl) rfl ?_
  intro G hQ
  unfold m_X12_turnMany at h
  refine r_iconst dX12_turnMany_0 ?_
  refine r_istore_n (lv2 := [(3, vI 0), (0, vR 55), (1, vI a1), (2, vI a2)]) dX12_turnMany_1 rfl (by decide) rfl ?_
  refine r_iconst dX12_turnMany_2 ?_
  refine r_istore (lv2 := [(4, vI 0), (3, vI 0), (0, vR 55), (1, vI a1), (2, vI a2)]) dX12_turnMany_3 (by decide) rfl ?_
  obtain ⟨y6, y7, h9, h⟩ := of_bd2 h
  refine r_sub (lv2 := [(0, vR 55), (1, vI a1), (2, vI a2), (3, vI 0), (4, vI 0)]) [2, 3, 4, 1, 0] rfl ?_
  refine lp_X12_turnMany_L5 M a1 a2  (fun w => w = (y6, y7)) ?_ FU 0 0 _ h9 rfl
  intro z0 z1 hw
  cases hw
  refine r_iload_n dX12_turnMany_45 rfl 3 rfl ?_
  cases h
  exact hQ _ _ dX12_turnMany_46

def m_X12_turns (M : Mem) (a1 : Int) (a2 : Int) : Option (Int × Mem) :=
  bd1 (m_X12_isSlot a1) fun b2 =>
  if wr (bI b2) = 0 then
    some ((-1), M)
  else
    bd1 (m_X12_in (i2l a2) (0 : Int64) (1 : Int64)) fun b5 =>
    if wr (bI b5) = 0 then
      some ((-1), M)
    else
      bd2 (m_X12_refuses M a1) fun r8 M9 =>
      bd1 (
        if 0 ≤ wr r8 then
          bd1 (m_X12_turnMany M9 a1 a2) fun r12 =>
          some (r12)
        else
          some (r8)) fun (v13 : Int) =>
      some (v13, M9)
set_option maxRecDepth 10000 in
theorem run_X12_turns {M : Mem} {M2 : Mem} {a1 : Int} {a2 : Int} {r : Int}   (h : m_X12_turns M a1 a2 = some (r, M2)) : RunI 6 yX12_turns cX12_turns 4 (some .int) [vR 55, vI a1, vI a2] M r M2 := by
  refine runI_of (lv := [(0, vR 55), (1, vI a1), (2, vI a2)]) (by decide +kernel) (Or.inl rfl) (Nat.le_of_ble_eq_true rfl) rfl ?_
  intro G hQ
  unfold m_X12_turns at h
  refine r_iload_n dX12_turns_0 rfl 1 rfl ?_
  obtain ⟨b2, hc1, h⟩ := of_bd1 h
  refine r_callSI (st := []) dX12_turns_1 v_X12_188 (run_X12_isSlot hc1) (by decide) (by decide) rfl (Nat.le_of_ble_eq_true rfl) rfl ?_
  by_cases c3 : wr (bI b2) = 0
  · rw [if_pos c3] at h
    refine r_if_eq (tgt := 17) dX12_turns_4 (by decide) (fun _ => ?_) (fun q => absurd c3 q)
    refine r_iconst dX12_turns_17 ?_
    cases h
    exact hQ _ _ dX12_turns_18
  · rw [if_neg c3] at h
    refine r_if_eq (tgt := 17) dX12_turns_4 (by decide) (fun q => absurd q c3) (fun _ => ?_)
    refine r_iload_n dX12_turns_7 rfl 2 rfl ?_
    refine r_i2l dX12_turns_8 ?_
    refine r_lconst (v := 0) dX12_turns_9 rfl ?_
    refine r_lconst (v := 1) dX12_turns_10 rfl ?_
    obtain ⟨b5, hc4, h⟩ := of_bd1 h
    refine r_callSI (st := []) dX12_turns_11 v_X12_100 (run_X12_in hc4) (by decide) (by decide) rfl (Nat.le_of_ble_eq_true rfl) rfl ?_
    by_cases c6 : wr (bI b5) = 0
    · rw [if_pos c6] at h
      refine r_if_ne (tgt := 19) dX12_turns_14 (by decide) (fun q => absurd c6 q) (fun _ => ?_)
      refine r_iconst dX12_turns_17 ?_
      cases h
      exact hQ _ _ dX12_turns_18
    · rw [if_neg c6] at h
      refine r_if_ne (tgt := 19) dX12_turns_14 (by decide) (fun _ => ?_) (fun q => absurd q c6)
      refine r_aload_n dX12_turns_19 rfl 0 rfl ?_
      refine r_iload_n dX12_turns_20 rfl 1 rfl ?_
      obtain ⟨r8, M9, hc7, h⟩ := of_bd2 h
      refine r_callVI (st := []) dX12_turns_21 v_X12_249 (run_X12_refuses hc7) (by decide) (by decide) rfl rfl (Nat.le_of_ble_eq_true rfl) rfl ?_
      refine r_istore_n (lv2 := [(3, vI r8), (0, vR 55), (1, vI a1), (2, vI a2)]) dX12_turns_24 rfl (by decide) rfl ?_
      refine r_iload_n dX12_turns_25 rfl 0 rfl ?_
      obtain ⟨v13, h9, h⟩ := of_bd1 h
      have kJ : Ex G 6 cX12_turns RX12 4 39 [] [vI v13] M9 := by
        cases h
        exact hQ _ _ dX12_turns_39
      clear h
      have h := h9
      clear h9
      by_cases c10 : 0 ≤ wr r8
      · rw [if_pos c10] at h
        refine r_if_ge (tgt := 33) dX12_turns_26 (by decide) (fun _ => ?_) (fun q => absurd c10 q)
        refine r_aload_n dX12_turns_33 rfl 1 rfl ?_
        refine r_iload_n dX12_turns_34 rfl 2 rfl ?_
        refine r_iload_n dX12_turns_35 rfl 3 rfl ?_
        obtain ⟨r12, hc11, h⟩ := of_bd1 h
        refine r_callVI (st := []) dX12_turns_36 v_X12_262 (run_X12_turnMany hc11) (by decide) (by decide) rfl rfl (Nat.le_of_ble_eq_true rfl) rfl ?_
        refine r_sub (lv2 := []) [] rfl ?_
        cases h
        exact kJ
      · rw [if_neg c10] at h
        refine r_if_ge (tgt := 33) dX12_turns_26 (by decide) (fun q => absurd q c10) (fun _ => ?_)
        refine r_iload_n dX12_turns_29 rfl 0 rfl ?_
        refine r_goto (tgt := 39) dX12_turns_30 (by decide) ?_
        refine r_sub (lv2 := []) [] rfl ?_
        cases h
        exact kJ

def m_X12_settle_L51 (M : Mem) (p1 : Int) (p2 : Int) (p5 : Int) (x4 : Int) (x6 : Int) : Option ((Int × Int × Mem) ⊕ (Int × Int × Mem)) :=
  if wr 81 ≤ wr x6 then
    some (.inr (x4, x6, M))
  else
    bd1 (m_X12_turnOf M p1 (irm x6 9) (idv x6 9)) fun r14 =>
    bd2 (
      if wr r14 = wr p2 then
        bd1 (m_X12_across M p1 (irm x6 9) (idv x6 9)) fun M17 =>
        some ((x4 + 1), M17)
      else
        some (x4, M)) fun (v18 : Int) (M19 : Mem) =>
    some (.inl (v18, (x6 + 1), M19))
def m_X12_settle_L37 (M : Mem) (p1 : Int) (p2 : Int) (x4 : Int) (x5 : Int) : Option ((Int × Int × Mem) ⊕ (Int × Int × Mem)) :=
  if wr x4 = wr x5 then
    some (.inr (x4, x5, M))
  else
    bd3 (itr (fun s => m_X12_settle_L51 s.2.2 p1 p2 x4 s.1 s.2.1) FU (x4, 0, M)) fun y20 y21 M22 =>
    some (.inl (y20, x4, M22))
def m_X12_settle (M : Mem) (a1 : Int) (a2 : Int) : Option (Int × Mem) :=
  bd1 (m_X12_isSlot a1) fun b2 =>
  if wr (bI b2) = 0 then
    some ((-1), M)
  else
    bd1 (m_X12_in (i2l a2) (0 : Int64) (1 : Int64)) fun b5 =>
    if wr (bI b5) = 0 then
      some ((-1), M)
    else
      bd2 (m_X12_refuses M a1) fun r8 M9 =>
      if 0 ≤ wr r8 then
        bd3 (itr (fun s => m_X12_settle_L37 s.2.2 a1 a2 s.1 s.2.1) FU (0, (-1), M9)) fun y23 y24 M25 =>
        some (y23, M25)
      else
        some (r8, M9)
set_option maxRecDepth 10000 in
theorem lp_X12_settle_L51 {G : Gx} (p1 : Int) (p2 : Int) (p5 : Int)   (X : (Int × Int × Mem) → Prop) (hX1 : ∀ (x4 : Int) (x6 : Int) (M : Mem), X (x4, x6, M) → Ex G 6 cX12_settle RX12 7 101 [(0, vR 55), (1, vI p1), (2, vI p2), (4, vI x4), (5, vI p5), (6, vI x6)] [] M) : ∀ (nn : Nat) (x4 : Int) (x6 : Int) (M : Mem) (out : Int × Int × Mem), itr (fun s => m_X12_settle_L51 s.2.2 p1 p2 p5 s.1 s.2.1) nn (x4, x6, M) = some out → X out → Ex G 6 cX12_settle RX12 7 51 [(0, vR 55), (1, vI p1), (2, vI p2), (4, vI x4), (5, vI p5), (6, vI x6)] [] M := by
  intro nn
  induction nn with
  | zero =>
    intro x4 x6 M out h _
    cases h
  | succ nn ih =>
    intro x4 x6 M out h0 hX
    obtain ⟨w, h, k1, k2⟩ := itr_inv h0
    have h : m_X12_settle_L51 M p1 p2 p5 x4 x6 = some w := h
    unfold m_X12_settle_L51 at h
    refine r_iload dX12_settle_51 5 rfl ?_
    refine r_bipush dX12_settle_53 (by decide) ?_
    by_cases c12 : wr 81 ≤ wr x6
    · rw [if_pos c12] at h
      refine r_icmp_ge (tgt := 101) dX12_settle_55 (by decide) (fun _ => ?_) (fun q => absurd c12 q)
      cases h
      cases k2 _ rfl
      exact hX1 _ _ _ hX
    · rw [if_neg c12] at h
      refine r_icmp_ge (tgt := 101) dX12_settle_55 (by decide) (fun q => absurd q c12) (fun _ => ?_)
      refine r_aload_n dX12_settle_58 rfl 0 rfl ?_
      refine r_iload_n dX12_settle_59 rfl 1 rfl ?_
      refine r_iload dX12_settle_60 5 rfl ?_
      refine r_bipush dX12_settle_62 (by decide) ?_
      refine r_irem dX12_settle_64 (by decide) ?_
      refine r_iload dX12_settle_65 5 rfl ?_
      refine r_bipush dX12_settle_67 (by decide) ?_
      refine r_idiv dX12_settle_69 (by decide) ?_
      obtain ⟨r14, hc13, h⟩ := of_bd1 h
      refine r_callVI (st := []) dX12_settle_70 v_X12_255 (run_X12_turnOf hc13) (by decide) (by decide) rfl rfl (Nat.le_of_ble_eq_true rfl) rfl ?_
      refine r_iload_n dX12_settle_73 rfl 2 rfl ?_
      obtain ⟨v18, M19, h9, h⟩ := of_bd2 h
      have kJ : Ex G 6 cX12_settle RX12 7 95 [(0, vR 55), (1, vI p1), (2, vI p2), (4, vI v18), (5, vI p5), (6, vI x6)] [] M19 := by
        refine r_iinc (lv2 := [(6, vI (x6 + 1)), (0, vR 55), (1, vI p1), (2, vI p2), (4, vI v18), (5, vI p5)]) dX12_settle_95 5 rfl (by decide) rfl ?_
        refine r_goto (tgt := 51) dX12_settle_98 (by decide) ?_
        refine r_sub (lv2 := [(0, vR 55), (1, vI p1), (2, vI p2), (4, vI v18), (5, vI p5), (6, vI (x6 + 1))]) [1, 2, 3, 4, 5, 0] rfl ?_
        cases h
        exact ih _ _ _  _ (k1 _ rfl) hX
      clear h
      have h := h9
      clear h9
      by_cases c15 : wr r14 = wr p2
      · rw [if_pos c15] at h
        refine r_icmp_ne (tgt := 95) dX12_settle_74 (by decide) (fun q => absurd c15 q) (fun _ => ?_)
        refine r_aload_n dX12_settle_77 rfl 0 rfl ?_
        refine r_iload_n dX12_settle_78 rfl 1 rfl ?_
        refine r_iload dX12_settle_79 5 rfl ?_
        refine r_bipush dX12_settle_81 (by decide) ?_
        refine r_irem dX12_settle_83 (by decide) ?_
        refine r_iload dX12_settle_84 5 rfl ?_
        refine r_bipush dX12_settle_86 (by decide) ?_
        refine r_idiv dX12_settle_88 (by decide) ?_
        obtain ⟨M17, hc16, h⟩ := of_bd1 h
        refine r_callVV (st := []) dX12_settle_89 v_X12_258 (run_X12_across hc16) (by decide) (by decide) rfl rfl (Nat.le_of_ble_eq_true rfl) rfl ?_
        refine r_iinc (lv2 := [(4, vI (x4 + 1)), (0, vR 55), (1, vI p1), (2, vI p2), (5, vI p5), (6, vI x6)]) dX12_settle_92 3 rfl (by decide) rfl ?_
        refine r_sub (lv2 := [(0, vR 55), (1, vI p1), (2, vI p2), (4, vI (x4 + 1)), (5, vI p5), (6, vI x6)]) [1, 2, 3, 0, 4, 5] rfl ?_
        cases h
        exact kJ
      · rw [if_neg c15] at h
        refine r_icmp_ne (tgt := 95) dX12_settle_74 (by decide) (fun _ => ?_) (fun q => absurd q c15)
        cases h
        exact kJ

set_option maxRecDepth 10000 in
theorem lp_X12_settle_L37 {G : Gx} (p1 : Int) (p2 : Int)   (X : (Int × Int × Mem) → Prop) (hX1 : ∀ (x4 : Int) (x5 : Int) (M : Mem), X (x4, x5, M) → Ex G 6 cX12_settle RX12 7 104 [(0, vR 55), (1, vI p1), (2, vI p2), (4, vI x4), (5, vI x5)] [] M) : ∀ (nn : Nat) (x4 : Int) (x5 : Int) (M : Mem) (out : Int × Int × Mem), itr (fun s => m_X12_settle_L37 s.2.2 p1 p2 s.1 s.2.1) nn (x4, x5, M) = some out → X out → Ex G 6 cX12_settle RX12 7 37 [(0, vR 55), (1, vI p1), (2, vI p2), (4, vI x4), (5, vI x5)] [] M := by
  intro nn
  induction nn with
  | zero =>
    intro x4 x5 M out h _
    cases h
  | succ nn ih =>
    intro x4 x5 M out h0 hX
    obtain ⟨w, h, k1, k2⟩ := itr_inv h0
    have h : m_X12_settle_L37 M p1 p2 x4 x5 = some w := h
    unfold m_X12_settle_L37 at h
    refine r_iload dX12_settle_37 3 rfl ?_
    refine r_iload dX12_settle_39 4 rfl ?_
    by_cases c11 : wr x4 = wr x5
    · rw [if_pos c11] at h
      refine r_icmp_eq (tgt := 104) dX12_settle_41 (by decide) (fun _ => ?_) (fun q => absurd c11 q)
      cases h
      cases k2 _ rfl
      exact hX1 _ _ _ hX
    · rw [if_neg c11] at h
      refine r_icmp_eq (tgt := 104) dX12_settle_41 (by decide) (fun q => absurd q c11) (fun _ => ?_)
      refine r_iload dX12_settle_44 3 rfl ?_
      refine r_istore (lv2 := [(5, vI x4), (0, vR 55), (1, vI p1), (2, vI p2), (4, vI x4)]) dX12_settle_46 (by decide) rfl ?_
      refine r_iconst dX12_settle_48 ?_
      refine r_istore (lv2 := [(6, vI 0), (5, vI x4), (0, vR 55), (1, vI p1), (2, vI p2), (4, vI x4)]) dX12_settle_49 (by decide) rfl ?_
      obtain ⟨y20, y21, M22, h9, h⟩ := of_bd3 h
      refine r_sub (lv2 := [(0, vR 55), (1, vI p1), (2, vI p2), (4, vI x4), (5, vI x4), (6, vI 0)]) [2, 3, 4, 5, 1, 0] rfl ?_
      refine lp_X12_settle_L51 p1 p2 x4  (fun w => w = (y20, y21, M22)) ?_ FU x4 0 M _ h9 rfl
      intro z0 z1 z2 hw
      cases hw
      refine r_goto (tgt := 37) dX12_settle_101 (by decide) ?_
      refine r_sub (lv2 := [(0, vR 55), (1, vI p1), (2, vI p2), (4, vI y20), (5, vI x4)]) [0, 1, 2, 3, 4] rfl ?_
      cases h
      exact ih _ _ _  _ (k1 _ rfl) hX

set_option maxRecDepth 10000 in
theorem run_X12_settle {M : Mem} {M2 : Mem} {a1 : Int} {a2 : Int} {r : Int}   (h : m_X12_settle M a1 a2 = some (r, M2)) : RunI 6 yX12_settle cX12_settle 7 (some .int) [vR 55, vI a1, vI a2] M r M2 := by
  refine runI_of (lv := [(0, vR 55), (1, vI a1), (2, vI a2)]) (by decide +kernel) (Or.inl rfl) (Nat.le_of_ble_eq_true rfl) rfl ?_
  intro G hQ
  unfold m_X12_settle at h
  refine r_iload_n dX12_settle_0 rfl 1 rfl ?_
  obtain ⟨b2, hc1, h⟩ := of_bd1 h
  refine r_callSI (st := []) dX12_settle_1 v_X12_188 (run_X12_isSlot hc1) (by decide) (by decide) rfl (Nat.le_of_ble_eq_true rfl) rfl ?_
  by_cases c3 : wr (bI b2) = 0
  · rw [if_pos c3] at h
    refine r_if_eq (tgt := 17) dX12_settle_4 (by decide) (fun _ => ?_) (fun q => absurd c3 q)
    refine r_iconst dX12_settle_17 ?_
    cases h
    exact hQ _ _ dX12_settle_18
  · rw [if_neg c3] at h
    refine r_if_eq (tgt := 17) dX12_settle_4 (by decide) (fun q => absurd q c3) (fun _ => ?_)
    refine r_iload_n dX12_settle_7 rfl 2 rfl ?_
    refine r_i2l dX12_settle_8 ?_
    refine r_lconst (v := 0) dX12_settle_9 rfl ?_
    refine r_lconst (v := 1) dX12_settle_10 rfl ?_
    obtain ⟨b5, hc4, h⟩ := of_bd1 h
    refine r_callSI (st := []) dX12_settle_11 v_X12_100 (run_X12_in hc4) (by decide) (by decide) rfl (Nat.le_of_ble_eq_true rfl) rfl ?_
    by_cases c6 : wr (bI b5) = 0
    · rw [if_pos c6] at h
      refine r_if_ne (tgt := 19) dX12_settle_14 (by decide) (fun q => absurd c6 q) (fun _ => ?_)
      refine r_iconst dX12_settle_17 ?_
      cases h
      exact hQ _ _ dX12_settle_18
    · rw [if_neg c6] at h
      refine r_if_ne (tgt := 19) dX12_settle_14 (by decide) (fun _ => ?_) (fun q => absurd q c6)
      refine r_aload_n dX12_settle_19 rfl 0 rfl ?_
      refine r_iload_n dX12_settle_20 rfl 1 rfl ?_
      obtain ⟨r8, M9, hc7, h⟩ := of_bd2 h
      refine r_callVI (st := []) dX12_settle_21 v_X12_249 (run_X12_refuses hc7) (by decide) (by decide) rfl rfl (Nat.le_of_ble_eq_true rfl) rfl ?_
      refine r_istore_n (lv2 := [(3, vI r8), (0, vR 55), (1, vI a1), (2, vI a2)]) dX12_settle_24 rfl (by decide) rfl ?_
      refine r_iload_n dX12_settle_25 rfl 0 rfl ?_
      by_cases c10 : 0 ≤ wr r8
      · rw [if_pos c10] at h
        refine r_if_ge (tgt := 31) dX12_settle_26 (by decide) (fun _ => ?_) (fun q => absurd c10 q)
        refine r_iconst dX12_settle_31 ?_
        refine r_istore (lv2 := [(4, vI 0), (3, vI r8), (0, vR 55), (1, vI a1), (2, vI a2)]) dX12_settle_32 (by decide) rfl ?_
        refine r_iconst dX12_settle_34 ?_
        refine r_istore (lv2 := [(5, vI (-1)), (4, vI 0), (3, vI r8), (0, vR 55), (1, vI a1), (2, vI a2)]) dX12_settle_35 (by decide) rfl ?_
        obtain ⟨y23, y24, M25, h9, h⟩ := of_bd3 h
        refine r_sub (lv2 := [(0, vR 55), (1, vI a1), (2, vI a2), (4, vI 0), (5, vI (-1))]) [3, 4, 5, 1, 0] rfl ?_
        refine lp_X12_settle_L37 a1 a2  (fun w => w = (y23, y24, M25)) ?_ FU 0 (-1) M9 _ h9 rfl
        intro z0 z1 z2 hw
        cases hw
        refine r_iload dX12_settle_104 3 rfl ?_
        cases h
        exact hQ _ _ dX12_settle_106
      · rw [if_neg c10] at h
        refine r_if_ge (tgt := 31) dX12_settle_26 (by decide) (fun q => absurd q c10) (fun _ => ?_)
        refine r_iload_n dX12_settle_29 rfl 0 rfl ?_
        cases h
        exact hQ _ _ dX12_settle_30

def m_X12_farOf_L7 (M : Mem) (p2 : Int) (x3 : Int) : Option ((Int × Mem) ⊕ (Int × Mem)) :=
  if wr 81 ≤ wr x3 then
    some (.inr (x3, M))
  else
    if 0 ≤ wr x3 ∧ wr x3 < 81 then
    lt (sI M 74 (wr x3) (gI M 73 (wr x3))) fun M5 =>
    some (.inl ((x3 + 1), M5))
    else none
def m_X12_farOf_L41 (M : Mem)  (x3 : Int) (x4 : Int) : Option ((Int × Int) ⊕ (Int × Int)) :=
  if wr 81 ≤ wr x4 then
    some (.inr (x3, x4))
  else
    if 0 ≤ wr x4 ∧ wr x4 < 81 then
    lt (if 0 ≤ wr ((gI M 73 (wr x4)) - (gI M 74 (wr x4))) then ((gI M 73 (wr x4)) - (gI M 74 (wr x4))) else (-((gI M 73 (wr x4)) - (gI M 74 (wr x4))))) fun (v13 : Int) =>
    some (.inl ((x3 + v13), (x4 + 1)))
    else none
def m_X12_farOf (M : Mem) (a1 : Int) (a2 : Int) : Option (Int × Mem) :=
  bd1 (m_X12_rises M a1) fun M2 =>
  bd2 (itr (fun s => m_X12_farOf_L7 s.2 a2 s.1) FU (0, M2)) fun y6 M7 =>
  bd1 (m_X12_rises M7 a2) fun M9 =>
  bd2 (itr (fun s => m_X12_farOf_L41 M9  s.1 s.2) FU (0, 0)) fun y14 y15 =>
  some ((idv y14 4), M9)
set_option maxRecDepth 10000 in
theorem lp_X12_farOf_L7 {G : Gx} (p2 : Int)   (X : (Int × Mem) → Prop) (hX1 : ∀ (x3 : Int) (M : Mem), X (x3, M) → Ex G 5 cX12_farOf RX12 6 31 [(0, vR 55), (2, vI p2), (3, vI x3)] [] M) : ∀ (nn : Nat) (x3 : Int) (M : Mem) (out : Int × Mem), itr (fun s => m_X12_farOf_L7 s.2 p2 s.1) nn (x3, M) = some out → X out → Ex G 5 cX12_farOf RX12 6 7 [(0, vR 55), (2, vI p2), (3, vI x3)] [] M := by
  intro nn
  induction nn with
  | zero =>
    intro x3 M out h _
    cases h
  | succ nn ih =>
    intro x3 M out h0 hX
    obtain ⟨w, h, k1, k2⟩ := itr_inv h0
    have h : m_X12_farOf_L7 M p2 x3 = some w := h
    unfold m_X12_farOf_L7 at h
    refine r_iload_n dX12_farOf_7 rfl 2 rfl ?_
    refine r_bipush dX12_farOf_8 (by decide) ?_
    by_cases c3 : wr 81 ≤ wr x3
    · rw [if_pos c3] at h
      refine r_icmp_ge (tgt := 31) dX12_farOf_10 (by decide) (fun _ => ?_) (fun q => absurd c3 q)
      cases h
      cases k2 _ rfl
      exact hX1 _ _ hX
    · rw [if_neg c3] at h
      refine r_icmp_ge (tgt := 31) dX12_farOf_10 (by decide) (fun q => absurd q c3) (fun _ => ?_)
      refine r_aload_n dX12_farOf_13 rfl 0 rfl ?_
      refine r_getR (j := 22) (v := 74) dX12_farOf_14 f_X12_66 rfl rfl rfl ?_
      refine r_iload_n dX12_farOf_17 rfl 2 rfl ?_
      refine r_aload_n dX12_farOf_18 rfl 0 rfl ?_
      refine r_getR (j := 21) (v := 73) dX12_farOf_19 f_X12_63 rfl rfl rfl ?_
      refine r_iload_n dX12_farOf_22 rfl 2 rfl ?_
      obtain ⟨c4, h⟩ := of_ck h
      refine r_iald dX12_farOf_23 rfl c4 ?_
      obtain ⟨M5, eM5, h⟩ := of_lt h
      refine r_iast dX12_farOf_24 rfl c4 ?_
      rw [← eM5]
      refine r_iinc (lv2 := [(3, vI (x3 + 1)), (0, vR 55), (2, vI p2)]) dX12_farOf_25 2 rfl (by decide) rfl ?_
      refine r_goto (tgt := 7) dX12_farOf_28 (by decide) ?_
      refine r_sub (lv2 := [(0, vR 55), (2, vI p2), (3, vI (x3 + 1))]) [1, 2, 0] rfl ?_
      cases h
      exact ih _ _  _ (k1 _ rfl) hX

set_option maxRecDepth 10000 in
theorem lp_X12_farOf_L41 {G : Gx} (M : Mem)    (X : (Int × Int) → Prop) (hX1 : ∀ (x3 : Int) (x4 : Int), X (x3, x4) → Ex G 5 cX12_farOf RX12 6 87 [(0, vR 55), (3, vI x3), (4, vI x4)] [] M) : ∀ (nn : Nat) (x3 : Int) (x4 : Int) (out : Int × Int), itr (fun s => m_X12_farOf_L41 M  s.1 s.2) nn (x3, x4) = some out → X out → Ex G 5 cX12_farOf RX12 6 41 [(0, vR 55), (3, vI x3), (4, vI x4)] [] M := by
  intro nn
  induction nn with
  | zero =>
    intro x3 x4 out h _
    cases h
  | succ nn ih =>
    intro x3 x4 out h0 hX
    obtain ⟨w, h, k1, k2⟩ := itr_inv h0
    have h : m_X12_farOf_L41 M  x3 x4 = some w := h
    unfold m_X12_farOf_L41 at h
    refine r_iload dX12_farOf_41 2 rfl ?_
    refine r_bipush dX12_farOf_43 (by decide) ?_
    by_cases c10 : wr 81 ≤ wr x4
    · rw [if_pos c10] at h
      refine r_icmp_ge (tgt := 87) dX12_farOf_45 (by decide) (fun _ => ?_) (fun q => absurd c10 q)
      cases h
      cases k2 _ rfl
      exact hX1 _ _ hX
    · rw [if_neg c10] at h
      refine r_icmp_ge (tgt := 87) dX12_farOf_45 (by decide) (fun q => absurd q c10) (fun _ => ?_)
      refine r_aload_n dX12_farOf_48 rfl 0 rfl ?_
      refine r_getR (j := 21) (v := 73) dX12_farOf_49 f_X12_63 rfl rfl rfl ?_
      refine r_iload dX12_farOf_52 2 rfl ?_
      obtain ⟨c11, h⟩ := of_ck h
      refine r_iald dX12_farOf_54 rfl c11 ?_
      refine r_aload_n dX12_farOf_55 rfl 0 rfl ?_
      refine r_getR (j := 22) (v := 74) dX12_farOf_56 f_X12_66 rfl rfl rfl ?_
      refine r_iload dX12_farOf_59 2 rfl ?_
      refine r_iald dX12_farOf_61 rfl c11 ?_
      refine r_isub dX12_farOf_62 ?_
      refine r_istore (lv2 := [(5, vI ((gI M 73 (wr x4)) - (gI M 74 (wr x4)))), (0, vR 55), (3, vI x3), (4, vI x4)]) dX12_farOf_63 (by decide) rfl ?_
      refine r_iload_n dX12_farOf_65 rfl 2 rfl ?_
      refine r_iload dX12_farOf_66 0 rfl ?_
      obtain ⟨v13, ev13, h⟩ := of_lt h
      have kJ : Ex G 5 cX12_farOf RX12 6 79 [(0, vR 55), (4, vI x4)] [vI v13, vI x3] M := by
        refine r_iadd dX12_farOf_79 ?_
        refine r_istore_n (lv2 := [(3, vI (x3 + v13)), (0, vR 55), (4, vI x4)]) dX12_farOf_80 rfl (by decide) rfl ?_
        refine r_iinc (lv2 := [(4, vI (x4 + 1)), (3, vI (x3 + v13)), (0, vR 55)]) dX12_farOf_81 2 rfl (by decide) rfl ?_
        refine r_goto (tgt := 41) dX12_farOf_84 (by decide) ?_
        refine r_sub (lv2 := [(0, vR 55), (3, vI (x3 + v13)), (4, vI (x4 + 1))]) [2, 1, 0] rfl ?_
        cases h
        exact ih _ _  _ (k1 _ rfl) hX
      clear h
      by_cases c12 : 0 ≤ wr ((gI M 73 (wr x4)) - (gI M 74 (wr x4)))
      · skip
        refine r_if_ge (tgt := 77) dX12_farOf_68 (by decide) (fun _ => ?_) (fun q => absurd c12 q)
        refine r_iload dX12_farOf_77 0 rfl ?_
        rw [show v13 = ((gI M 73 (wr x4)) - (gI M 74 (wr x4))) from by rw [ev13, if_pos c12]] at kJ
        refine r_sub (lv2 := [(0, vR 55), (4, vI x4)]) [1, 3] rfl ?_
        exact kJ
      · skip
        refine r_if_ge (tgt := 77) dX12_farOf_68 (by decide) (fun q => absurd q c12) (fun _ => ?_)
        refine r_iload dX12_farOf_71 0 rfl ?_
        refine r_ineg dX12_farOf_73 ?_
        refine r_goto (tgt := 79) dX12_farOf_74 (by decide) ?_
        rw [show v13 = (-((gI M 73 (wr x4)) - (gI M 74 (wr x4)))) from by rw [ev13, if_neg c12]] at kJ
        refine r_sub (lv2 := [(0, vR 55), (4, vI x4)]) [1, 3] rfl ?_
        exact kJ

set_option maxRecDepth 10000 in
theorem run_X12_farOf {M : Mem} {M2 : Mem} {a1 : Int} {a2 : Int} {r : Int}   (h : m_X12_farOf M a1 a2 = some (r, M2)) : RunI 5 yX12_farOf cX12_farOf 6 (some .int) [vR 55, vI a1, vI a2] M r M2 := by
  refine runI_of (lv := [(0, vR 55), (1, vI a1), (2, vI a2)]) (by decide +kernel) (Or.inl rfl) (Nat.le_of_ble_eq_true rfl) rfl ?_
  intro G hQ
  unfold m_X12_farOf at h
  refine r_aload_n dX12_farOf_0 rfl 0 rfl ?_
  refine r_iload_n dX12_farOf_1 rfl 1 rfl ?_
  obtain ⟨M2, hc1, h⟩ := of_bd1 h
  refine r_callVV (st := []) dX12_farOf_2 v_X12_252 (run_X12_rises hc1) (by decide) (by decide) rfl rfl (Nat.le_of_ble_eq_true rfl) rfl ?_
  refine r_iconst dX12_farOf_5 ?_
  refine r_istore_n (lv2 := [(3, vI 0), (0, vR 55), (1, vI a1), (2, vI a2)]) dX12_farOf_6 rfl (by decide) rfl ?_
  obtain ⟨y6, M7, h9, h⟩ := of_bd2 h
  refine r_sub (lv2 := [(0, vR 55), (2, vI a2), (3, vI 0)]) [1, 3, 0] rfl ?_
  refine lp_X12_farOf_L7 a2  (fun w => w = (y6, M7)) ?_ FU 0 M2 _ h9 rfl
  intro z0 z1 hw
  cases hw
  refine r_aload_n dX12_farOf_31 rfl 0 rfl ?_
  refine r_iload_n dX12_farOf_32 rfl 1 rfl ?_
  obtain ⟨M9, hc8, h⟩ := of_bd1 h
  refine r_callVV (st := []) dX12_farOf_33 v_X12_252 (run_X12_rises hc8) (by decide) (by decide) rfl rfl (Nat.le_of_ble_eq_true rfl) rfl ?_
  refine r_iconst dX12_farOf_36 ?_
  refine r_istore_n (lv2 := [(3, vI 0), (0, vR 55), (2, vI a2)]) dX12_farOf_37 rfl (by decide) rfl ?_
  refine r_iconst dX12_farOf_38 ?_
  refine r_istore (lv2 := [(4, vI 0), (3, vI 0), (0, vR 55), (2, vI a2)]) dX12_farOf_39 (by decide) rfl ?_
  obtain ⟨y14, y15, h9, h⟩ := of_bd2 h
  refine r_sub (lv2 := [(0, vR 55), (3, vI 0), (4, vI 0)]) [2, 1, 0] rfl ?_
  refine lp_X12_farOf_L41 M9   (fun w => w = (y14, y15)) ?_ FU 0 0 _ h9 rfl
  intro z0 z1 hw
  cases hw
  refine r_iload_n dX12_farOf_87 rfl 1 rfl ?_
  refine r_iconst dX12_farOf_88 ?_
  refine r_idiv dX12_farOf_89 (by decide) ?_
  cases h
  exact hQ _ _ dX12_farOf_90

def m_X12_refusesBoth (M : Mem) (a1 : Int) (a2 : Int) : Option (Int) :=
  bd1 (m_X12_isSlot a1) fun b2 =>
  if wr (bI b2) = 0 then
    some (-1)
  else
    bd1 (m_X12_isSlot a2) fun b5 =>
    if wr (bI b5) = 0 then
      some (-1)
    else
      if 0 ≤ wr a1 ∧ wr a1 < 4 then
      bd1 (
        if wr (gI M 59 (wr a1)) = 0 then
          some ((-4))
        else
          if 0 ≤ wr a2 ∧ wr a2 < 4 then
          if wr (gI M 59 (wr a2)) = 0 then
            some ((-4))
          else
            some (0)
          else none) fun (v11 : Int) =>
      some v11
      else none
set_option maxRecDepth 10000 in
theorem run_X12_refusesBoth {M : Mem} {a1 : Int} {a2 : Int} {r : Int}   (h : m_X12_refusesBoth M a1 a2 = some r) : RunI 2 yX12_refusesBoth cX12_refusesBoth 3 (some .int) [vR 55, vI a1, vI a2] M r M := by
  refine runI_of (lv := [(0, vR 55), (1, vI a1), (2, vI a2)]) (by decide +kernel) (Or.inl rfl) (Nat.le_of_ble_eq_true rfl) rfl ?_
  intro G hQ
  unfold m_X12_refusesBoth at h
  refine r_iload_n dX12_refusesBoth_0 rfl 1 rfl ?_
  obtain ⟨b2, hc1, h⟩ := of_bd1 h
  refine r_callSI (st := []) dX12_refusesBoth_1 v_X12_188 (run_X12_isSlot hc1) (by decide) (by decide) rfl (Nat.le_of_ble_eq_true rfl) rfl ?_
  by_cases c3 : wr (bI b2) = 0
  · rw [if_pos c3] at h
    refine r_if_eq (tgt := 14) dX12_refusesBoth_4 (by decide) (fun _ => ?_) (fun q => absurd c3 q)
    refine r_iconst dX12_refusesBoth_14 ?_
    cases h
    exact hQ _ _ dX12_refusesBoth_15
  · rw [if_neg c3] at h
    refine r_if_eq (tgt := 14) dX12_refusesBoth_4 (by decide) (fun q => absurd q c3) (fun _ => ?_)
    refine r_iload_n dX12_refusesBoth_7 rfl 2 rfl ?_
    obtain ⟨b5, hc4, h⟩ := of_bd1 h
    refine r_callSI (st := []) dX12_refusesBoth_8 v_X12_188 (run_X12_isSlot hc4) (by decide) (by decide) rfl (Nat.le_of_ble_eq_true rfl) rfl ?_
    by_cases c6 : wr (bI b5) = 0
    · rw [if_pos c6] at h
      refine r_if_ne (tgt := 16) dX12_refusesBoth_11 (by decide) (fun q => absurd c6 q) (fun _ => ?_)
      refine r_iconst dX12_refusesBoth_14 ?_
      cases h
      exact hQ _ _ dX12_refusesBoth_15
    · rw [if_neg c6] at h
      refine r_if_ne (tgt := 16) dX12_refusesBoth_11 (by decide) (fun _ => ?_) (fun q => absurd q c6)
      refine r_aload_n dX12_refusesBoth_16 rfl 0 rfl ?_
      refine r_getR (j := 5) (v := 59) dX12_refusesBoth_17 f_X12_20 rfl rfl rfl ?_
      refine r_iload_n dX12_refusesBoth_20 rfl 1 rfl ?_
      obtain ⟨c7, h⟩ := of_ck h
      refine r_zald dX12_refusesBoth_21 rfl c7 ?_
      obtain ⟨v11, h9, h⟩ := of_bd1 h
      have kJ : Ex G 2 cX12_refusesBoth RX12 3 40 [] [vI v11] M := by
        cases h
        exact hQ _ _ dX12_refusesBoth_40
      clear h
      have h := h9
      clear h9
      by_cases c8 : wr (gI M 59 (wr a1)) = 0
      · rw [if_pos c8] at h
        refine r_if_eq (tgt := 38) dX12_refusesBoth_22 (by decide) (fun _ => ?_) (fun q => absurd c8 q)
        refine r_bipush dX12_refusesBoth_38 (by decide) ?_
        refine r_sub (lv2 := []) [] rfl ?_
        cases h
        exact kJ
      · rw [if_neg c8] at h
        refine r_if_eq (tgt := 38) dX12_refusesBoth_22 (by decide) (fun q => absurd q c8) (fun _ => ?_)
        refine r_aload_n dX12_refusesBoth_25 rfl 0 rfl ?_
        refine r_getR (j := 5) (v := 59) dX12_refusesBoth_26 f_X12_20 rfl rfl rfl ?_
        refine r_iload_n dX12_refusesBoth_29 rfl 2 rfl ?_
        obtain ⟨c9, h⟩ := of_ck h
        refine r_zald dX12_refusesBoth_30 rfl c9 ?_
        by_cases c10 : wr (gI M 59 (wr a2)) = 0
        · rw [if_pos c10] at h
          refine r_if_eq (tgt := 38) dX12_refusesBoth_31 (by decide) (fun _ => ?_) (fun q => absurd c10 q)
          refine r_bipush dX12_refusesBoth_38 (by decide) ?_
          refine r_sub (lv2 := []) [] rfl ?_
          cases h
          exact kJ
        · rw [if_neg c10] at h
          refine r_if_eq (tgt := 38) dX12_refusesBoth_31 (by decide) (fun q => absurd q c10) (fun _ => ?_)
          refine r_iconst dX12_refusesBoth_34 ?_
          refine r_goto (tgt := 40) dX12_refusesBoth_35 (by decide) ?_
          refine r_sub (lv2 := []) [] rfl ?_
          cases h
          exact kJ

def m_X12_far (M : Mem) (a1 : Int) (a2 : Int) : Option (Int × Mem) :=
  bd1 (m_X12_refusesBoth M a1 a2) fun r2 =>
  if 0 ≤ wr r2 then
    bd2 (m_X12_isWhole M) fun b5 M6 =>
    bd2 (
      if wr (bI b5) = 0 then
        some ((-2), M6)
      else
        bd2 (m_X12_farOf M6 a1 a2) fun r9 M10 =>
        some (r9, M10)) fun (v11 : Int) (M12 : Mem) =>
    some (v11, M12)
  else
    some (r2, M)
set_option maxRecDepth 10000 in
theorem run_X12_far {M : Mem} {M2 : Mem} {a1 : Int} {a2 : Int} {r : Int}   (h : m_X12_far M a1 a2 = some (r, M2)) : RunI 6 yX12_far cX12_far 4 (some .int) [vR 55, vI a1, vI a2] M r M2 := by
  refine runI_of (lv := [(0, vR 55), (1, vI a1), (2, vI a2)]) (by decide +kernel) (Or.inl rfl) (Nat.le_of_ble_eq_true rfl) rfl ?_
  intro G hQ
  unfold m_X12_far at h
  refine r_aload_n dX12_far_0 rfl 0 rfl ?_
  refine r_iload_n dX12_far_1 rfl 1 rfl ?_
  refine r_iload_n dX12_far_2 rfl 2 rfl ?_
  obtain ⟨r2, hc1, h⟩ := of_bd1 h
  refine r_callVI (st := []) dX12_far_3 v_X12_265 (run_X12_refusesBoth hc1) (by decide) (by decide) rfl rfl (Nat.le_of_ble_eq_true rfl) rfl ?_
  refine r_istore_n (lv2 := [(3, vI r2), (0, vR 55), (1, vI a1), (2, vI a2)]) dX12_far_6 rfl (by decide) rfl ?_
  refine r_iload_n dX12_far_7 rfl 0 rfl ?_
  by_cases c3 : 0 ≤ wr r2
  · rw [if_pos c3] at h
    refine r_if_ge (tgt := 13) dX12_far_8 (by decide) (fun _ => ?_) (fun q => absurd c3 q)
    refine r_aload_n dX12_far_13 rfl 1 rfl ?_
    obtain ⟨b5, M6, hc4, h⟩ := of_bd2 h
    refine r_callVI (st := []) dX12_far_14 v_X12_235 (run_X12_isWhole hc4) (by decide) (by decide) rfl rfl (Nat.le_of_ble_eq_true rfl) rfl ?_
    obtain ⟨v11, M12, h9, h⟩ := of_bd2 h
    have kJ : Ex G 6 cX12_far RX12 4 31 [] [vI v11] M12 := by
      cases h
      exact hQ _ _ dX12_far_31
    clear h
    have h := h9
    clear h9
    by_cases c7 : wr (bI b5) = 0
    · rw [if_pos c7] at h
      refine r_if_eq (tgt := 29) dX12_far_17 (by decide) (fun _ => ?_) (fun q => absurd c7 q)
      refine r_bipush dX12_far_29 (by decide) ?_
      refine r_sub (lv2 := []) [] rfl ?_
      cases h
      exact kJ
    · rw [if_neg c7] at h
      refine r_if_eq (tgt := 29) dX12_far_17 (by decide) (fun q => absurd q c7) (fun _ => ?_)
      refine r_aload_n dX12_far_20 rfl 1 rfl ?_
      refine r_iload_n dX12_far_21 rfl 2 rfl ?_
      refine r_iload_n dX12_far_22 rfl 3 rfl ?_
      obtain ⟨r9, M10, hc8, h⟩ := of_bd2 h
      refine r_callVI (st := []) dX12_far_23 v_X12_268 (run_X12_farOf hc8) (by decide) (by decide) rfl rfl (Nat.le_of_ble_eq_true rfl) rfl ?_
      refine r_goto (tgt := 31) dX12_far_26 (by decide) ?_
      refine r_sub (lv2 := []) [] rfl ?_
      cases h
      exact kJ
  · rw [if_neg c3] at h
    refine r_if_ge (tgt := 13) dX12_far_8 (by decide) (fun q => absurd q c3) (fun _ => ?_)
    refine r_iload_n dX12_far_11 rfl 0 rfl ?_
    cases h
    exact hQ _ _ dX12_far_12

def m_X12_toward_L35 (M : Mem) (p1 : Int) (x4 : Int) : Option ((Int × Mem) ⊕ ((Int × Mem) ⊕ (Int × Mem))) :=
  if wr 81 ≤ wr x4 then
    some (.inr (.inl (x4, M)))
  else
    bd1 (m_X12_turnOf M p1 (irm x4 9) (idv x4 9)) fun r14 =>
    if wr r14 = wr 1 then
      if 0 ≤ wr x4 ∧ wr x4 < 81 then
      if wr (gI M 74 (wr x4)) < wr (gI M 73 (wr x4)) then
        bd1 (m_X12_across M p1 (irm x4 9) (idv x4 9)) fun M24 =>
        some (.inr (.inr (((16 * (idv x4 9)) + (irm x4 9)), M24)))
      else
        if wr r14 = 0 then
          if wr (gI M 74 (wr x4)) ≤ wr (gI M 73 (wr x4)) then
            some (.inl ((x4 + 1), M))
          else
            bd1 (m_X12_across M p1 (irm x4 9) (idv x4 9)) fun M28 =>
            some (.inr (.inr (((16 * (idv x4 9)) + (irm x4 9)), M28)))
        else
          some (.inl ((x4 + 1), M))
      else none
    else
      if wr r14 = 0 then
        if 0 ≤ wr x4 ∧ wr x4 < 81 then
        if wr (gI M 74 (wr x4)) ≤ wr (gI M 73 (wr x4)) then
          some (.inl ((x4 + 1), M))
        else
          bd1 (m_X12_across M p1 (irm x4 9) (idv x4 9)) fun M20 =>
          some (.inr (.inr (((16 * (idv x4 9)) + (irm x4 9)), M20)))
        else none
      else
        some (.inl ((x4 + 1), M))
def m_X12_toward (M : Mem) (a1 : Int) (a2 : Int) : Option (Int × Mem) :=
  bd1 (m_X12_refusesBoth M a1 a2) fun r2 =>
  if 0 ≤ wr r2 then
    bd2 (m_X12_isWhole M) fun b5 M6 =>
    if wr (bI b5) = 0 then
      some ((-2), M6)
    else
      bd2 (m_X12_farOf M6 a1 a2) fun r9 M10 =>
      if wr r9 = 0 then
        some ((-2), M10)
      else
        be2 (itr (fun s => m_X12_toward_L35 s.2 a1 s.1) FU (0, M10)) (fun y29 M30 =>
        some ((-2), M30))
  else
    some (r2, M)
set_option maxRecDepth 10000 in
theorem lp_X12_toward_L35 {G : Gx} (p1 : Int)   (X : ((Int × Mem) ⊕ (Int × Mem)) → Prop) (hX1 : ∀ (x4 : Int) (M : Mem), X (.inl (x4, M)) → Ex G 6 cX12_toward RX12 6 140 [(0, vR 55), (1, vI p1), (4, vI x4)] [] M) (hX2 : ∀ (r : Int) (M2 : Mem), X (.inr (r, M2)) → RetI G 6 cX12_toward RX12 6 r M2) : ∀ (nn : Nat) (x4 : Int) (M : Mem) (out : (Int × Mem) ⊕ (Int × Mem)), itr (fun s => m_X12_toward_L35 s.2 p1 s.1) nn (x4, M) = some out → X out → Ex G 6 cX12_toward RX12 6 35 [(0, vR 55), (1, vI p1), (4, vI x4)] [] M := by
  intro nn
  induction nn with
  | zero =>
    intro x4 M out h _
    cases h
  | succ nn ih =>
    intro x4 M out h0 hX
    obtain ⟨w, h, k1, k2⟩ := itr_inv h0
    have h : m_X12_toward_L35 M p1 x4 = some w := h
    unfold m_X12_toward_L35 at h
    refine r_iload dX12_toward_35 2 rfl ?_
    refine r_bipush dX12_toward_37 (by decide) ?_
    by_cases c12 : wr 81 ≤ wr x4
    · rw [if_pos c12] at h
      refine r_icmp_ge (tgt := 140) dX12_toward_39 (by decide) (fun _ => ?_) (fun q => absurd c12 q)
      cases h
      cases k2 _ rfl
      exact hX1 _ _ hX
    · rw [if_neg c12] at h
      refine r_icmp_ge (tgt := 140) dX12_toward_39 (by decide) (fun q => absurd q c12) (fun _ => ?_)
      refine r_aload_n dX12_toward_42 rfl 0 rfl ?_
      refine r_iload_n dX12_toward_43 rfl 1 rfl ?_
      refine r_iload dX12_toward_44 2 rfl ?_
      refine r_bipush dX12_toward_46 (by decide) ?_
      refine r_irem dX12_toward_48 (by decide) ?_
      refine r_iload dX12_toward_49 2 rfl ?_
      refine r_bipush dX12_toward_51 (by decide) ?_
      refine r_idiv dX12_toward_53 (by decide) ?_
      obtain ⟨r14, hc13, h⟩ := of_bd1 h
      refine r_callVI (st := []) dX12_toward_54 v_X12_255 (run_X12_turnOf hc13) (by decide) (by decide) rfl rfl (Nat.le_of_ble_eq_true rfl) rfl ?_
      refine r_istore (lv2 := [(5, vI r14), (0, vR 55), (1, vI p1), (4, vI x4)]) dX12_toward_57 (by decide) rfl ?_
      refine r_iload dX12_toward_59 0 rfl ?_
      refine r_iconst dX12_toward_61 ?_
      by_cases c15 : wr r14 = wr 1
      · rw [if_pos c15] at h
        refine r_icmp_ne (tgt := 82) dX12_toward_62 (by decide) (fun q => absurd c15 q) (fun _ => ?_)
        refine r_aload_n dX12_toward_65 rfl 1 rfl ?_
        refine r_getR (j := 22) (v := 74) dX12_toward_66 f_X12_66 rfl rfl rfl ?_
        refine r_iload dX12_toward_69 3 rfl ?_
        obtain ⟨c21, h⟩ := of_ck h
        refine r_iald dX12_toward_71 rfl c21 ?_
        refine r_aload_n dX12_toward_72 rfl 1 rfl ?_
        refine r_getR (j := 21) (v := 73) dX12_toward_73 f_X12_63 rfl rfl rfl ?_
        refine r_iload dX12_toward_76 3 rfl ?_
        refine r_iald dX12_toward_78 rfl c21 ?_
        by_cases c22 : wr (gI M 74 (wr x4)) < wr (gI M 73 (wr x4))
        · rw [if_pos c22] at h
          refine r_icmp_lt (tgt := 104) dX12_toward_79 (by decide) (fun _ => ?_) (fun q => absurd c22 q)
          refine r_aload_n dX12_toward_104 rfl 1 rfl ?_
          refine r_iload_n dX12_toward_105 rfl 2 rfl ?_
          refine r_iload dX12_toward_106 3 rfl ?_
          refine r_bipush dX12_toward_108 (by decide) ?_
          refine r_irem dX12_toward_110 (by decide) ?_
          refine r_iload dX12_toward_111 3 rfl ?_
          refine r_bipush dX12_toward_113 (by decide) ?_
          refine r_idiv dX12_toward_115 (by decide) ?_
          obtain ⟨M24, hc23, h⟩ := of_bd1 h
          refine r_callVV (st := []) dX12_toward_116 v_X12_258 (run_X12_across hc23) (by decide) (by decide) rfl rfl (Nat.le_of_ble_eq_true rfl) rfl ?_
          refine r_bipush dX12_toward_119 (by decide) ?_
          refine r_iload dX12_toward_121 3 rfl ?_
          refine r_bipush dX12_toward_123 (by decide) ?_
          refine r_idiv dX12_toward_125 (by decide) ?_
          refine r_imul dX12_toward_126 ?_
          refine r_iload dX12_toward_127 3 rfl ?_
          refine r_bipush dX12_toward_129 (by decide) ?_
          refine r_irem dX12_toward_131 (by decide) ?_
          refine r_iadd dX12_toward_132 ?_
          cases h
          cases k2 _ rfl
          exact hX2 _ _ hX _ _ dX12_toward_133
        · rw [if_neg c22] at h
          refine r_icmp_lt (tgt := 104) dX12_toward_79 (by decide) (fun q => absurd q c22) (fun _ => ?_)
          refine r_iload dX12_toward_82 0 rfl ?_
          by_cases c25 : wr r14 = 0
          · rw [if_pos c25] at h
            refine r_if_ne (tgt := 134) dX12_toward_84 (by decide) (fun q => absurd c25 q) (fun _ => ?_)
            refine r_aload_n dX12_toward_87 rfl 1 rfl ?_
            refine r_getR (j := 22) (v := 74) dX12_toward_88 f_X12_66 rfl rfl rfl ?_
            refine r_iload dX12_toward_91 3 rfl ?_
            refine r_iald dX12_toward_93 rfl c21 ?_
            refine r_aload_n dX12_toward_94 rfl 1 rfl ?_
            refine r_getR (j := 21) (v := 73) dX12_toward_95 f_X12_63 rfl rfl rfl ?_
            refine r_iload dX12_toward_98 3 rfl ?_
            refine r_iald dX12_toward_100 rfl c21 ?_
            by_cases c26 : wr (gI M 74 (wr x4)) ≤ wr (gI M 73 (wr x4))
            · rw [if_pos c26] at h
              refine r_icmp_le (tgt := 134) dX12_toward_101 (by decide) (fun _ => ?_) (fun q => absurd c26 q)
              refine r_iinc (lv2 := [(4, vI (x4 + 1)), (5, vI r14), (0, vR 55), (1, vI p1)]) dX12_toward_134 3 rfl (by decide) rfl ?_
              refine r_goto (tgt := 35) dX12_toward_137 (by decide) ?_
              refine r_sub (lv2 := [(0, vR 55), (1, vI p1), (4, vI (x4 + 1))]) [2, 3, 0] rfl ?_
              cases h
              exact ih _ _  _ (k1 _ rfl) hX
            · rw [if_neg c26] at h
              refine r_icmp_le (tgt := 134) dX12_toward_101 (by decide) (fun q => absurd q c26) (fun _ => ?_)
              refine r_aload_n dX12_toward_104 rfl 1 rfl ?_
              refine r_iload_n dX12_toward_105 rfl 2 rfl ?_
              refine r_iload dX12_toward_106 3 rfl ?_
              refine r_bipush dX12_toward_108 (by decide) ?_
              refine r_irem dX12_toward_110 (by decide) ?_
              refine r_iload dX12_toward_111 3 rfl ?_
              refine r_bipush dX12_toward_113 (by decide) ?_
              refine r_idiv dX12_toward_115 (by decide) ?_
              obtain ⟨M28, hc27, h⟩ := of_bd1 h
              refine r_callVV (st := []) dX12_toward_116 v_X12_258 (run_X12_across hc27) (by decide) (by decide) rfl rfl (Nat.le_of_ble_eq_true rfl) rfl ?_
              refine r_bipush dX12_toward_119 (by decide) ?_
              refine r_iload dX12_toward_121 3 rfl ?_
              refine r_bipush dX12_toward_123 (by decide) ?_
              refine r_idiv dX12_toward_125 (by decide) ?_
              refine r_imul dX12_toward_126 ?_
              refine r_iload dX12_toward_127 3 rfl ?_
              refine r_bipush dX12_toward_129 (by decide) ?_
              refine r_irem dX12_toward_131 (by decide) ?_
              refine r_iadd dX12_toward_132 ?_
              cases h
              cases k2 _ rfl
              exact hX2 _ _ hX _ _ dX12_toward_133
          · rw [if_neg c25] at h
            refine r_if_ne (tgt := 134) dX12_toward_84 (by decide) (fun _ => ?_) (fun q => absurd q c25)
            refine r_iinc (lv2 := [(4, vI (x4 + 1)), (5, vI r14), (0, vR 55), (1, vI p1)]) dX12_toward_134 3 rfl (by decide) rfl ?_
            refine r_goto (tgt := 35) dX12_toward_137 (by decide) ?_
            refine r_sub (lv2 := [(0, vR 55), (1, vI p1), (4, vI (x4 + 1))]) [2, 3, 0] rfl ?_
            cases h
            exact ih _ _  _ (k1 _ rfl) hX
      · rw [if_neg c15] at h
        refine r_icmp_ne (tgt := 82) dX12_toward_62 (by decide) (fun _ => ?_) (fun q => absurd q c15)
        refine r_iload dX12_toward_82 0 rfl ?_
        by_cases c16 : wr r14 = 0
        · rw [if_pos c16] at h
          refine r_if_ne (tgt := 134) dX12_toward_84 (by decide) (fun q => absurd c16 q) (fun _ => ?_)
          refine r_aload_n dX12_toward_87 rfl 1 rfl ?_
          refine r_getR (j := 22) (v := 74) dX12_toward_88 f_X12_66 rfl rfl rfl ?_
          refine r_iload dX12_toward_91 3 rfl ?_
          obtain ⟨c17, h⟩ := of_ck h
          refine r_iald dX12_toward_93 rfl c17 ?_
          refine r_aload_n dX12_toward_94 rfl 1 rfl ?_
          refine r_getR (j := 21) (v := 73) dX12_toward_95 f_X12_63 rfl rfl rfl ?_
          refine r_iload dX12_toward_98 3 rfl ?_
          refine r_iald dX12_toward_100 rfl c17 ?_
          by_cases c18 : wr (gI M 74 (wr x4)) ≤ wr (gI M 73 (wr x4))
          · rw [if_pos c18] at h
            refine r_icmp_le (tgt := 134) dX12_toward_101 (by decide) (fun _ => ?_) (fun q => absurd c18 q)
            refine r_iinc (lv2 := [(4, vI (x4 + 1)), (5, vI r14), (0, vR 55), (1, vI p1)]) dX12_toward_134 3 rfl (by decide) rfl ?_
            refine r_goto (tgt := 35) dX12_toward_137 (by decide) ?_
            refine r_sub (lv2 := [(0, vR 55), (1, vI p1), (4, vI (x4 + 1))]) [2, 3, 0] rfl ?_
            cases h
            exact ih _ _  _ (k1 _ rfl) hX
          · rw [if_neg c18] at h
            refine r_icmp_le (tgt := 134) dX12_toward_101 (by decide) (fun q => absurd q c18) (fun _ => ?_)
            refine r_aload_n dX12_toward_104 rfl 1 rfl ?_
            refine r_iload_n dX12_toward_105 rfl 2 rfl ?_
            refine r_iload dX12_toward_106 3 rfl ?_
            refine r_bipush dX12_toward_108 (by decide) ?_
            refine r_irem dX12_toward_110 (by decide) ?_
            refine r_iload dX12_toward_111 3 rfl ?_
            refine r_bipush dX12_toward_113 (by decide) ?_
            refine r_idiv dX12_toward_115 (by decide) ?_
            obtain ⟨M20, hc19, h⟩ := of_bd1 h
            refine r_callVV (st := []) dX12_toward_116 v_X12_258 (run_X12_across hc19) (by decide) (by decide) rfl rfl (Nat.le_of_ble_eq_true rfl) rfl ?_
            refine r_bipush dX12_toward_119 (by decide) ?_
            refine r_iload dX12_toward_121 3 rfl ?_
            refine r_bipush dX12_toward_123 (by decide) ?_
            refine r_idiv dX12_toward_125 (by decide) ?_
            refine r_imul dX12_toward_126 ?_
            refine r_iload dX12_toward_127 3 rfl ?_
            refine r_bipush dX12_toward_129 (by decide) ?_
            refine r_irem dX12_toward_131 (by decide) ?_
            refine r_iadd dX12_toward_132 ?_
            cases h
            cases k2 _ rfl
            exact hX2 _ _ hX _ _ dX12_toward_133
        · rw [if_neg c16] at h
          refine r_if_ne (tgt := 134) dX12_toward_84 (by decide) (fun _ => ?_) (fun q => absurd q c16)
          refine r_iinc (lv2 := [(4, vI (x4 + 1)), (5, vI r14), (0, vR 55), (1, vI p1)]) dX12_toward_134 3 rfl (by decide) rfl ?_
          refine r_goto (tgt := 35) dX12_toward_137 (by decide) ?_
          refine r_sub (lv2 := [(0, vR 55), (1, vI p1), (4, vI (x4 + 1))]) [2, 3, 0] rfl ?_
          cases h
          exact ih _ _  _ (k1 _ rfl) hX

set_option maxRecDepth 10000 in
theorem run_X12_toward {M : Mem} {M2 : Mem} {a1 : Int} {a2 : Int} {r : Int}   (h : m_X12_toward M a1 a2 = some (r, M2)) : RunI 6 yX12_toward cX12_toward 6 (some .int) [vR 55, vI a1, vI a2] M r M2 := by
  refine runI_of (lv := [(0, vR 55), (1, vI a1), (2, vI a2)]) (by decide +kernel) (Or.inl rfl) (Nat.le_of_ble_eq_true rfl) rfl ?_
  intro G hQ
  unfold m_X12_toward at h
  refine r_aload_n dX12_toward_0 rfl 0 rfl ?_
  refine r_iload_n dX12_toward_1 rfl 1 rfl ?_
  refine r_iload_n dX12_toward_2 rfl 2 rfl ?_
  obtain ⟨r2, hc1, h⟩ := of_bd1 h
  refine r_callVI (st := []) dX12_toward_3 v_X12_265 (run_X12_refusesBoth hc1) (by decide) (by decide) rfl rfl (Nat.le_of_ble_eq_true rfl) rfl ?_
  refine r_istore_n (lv2 := [(3, vI r2), (0, vR 55), (1, vI a1), (2, vI a2)]) dX12_toward_6 rfl (by decide) rfl ?_
  refine r_iload_n dX12_toward_7 rfl 0 rfl ?_
  by_cases c3 : 0 ≤ wr r2
  · rw [if_pos c3] at h
    refine r_if_ge (tgt := 13) dX12_toward_8 (by decide) (fun _ => ?_) (fun q => absurd c3 q)
    refine r_aload_n dX12_toward_13 rfl 1 rfl ?_
    obtain ⟨b5, M6, hc4, h⟩ := of_bd2 h
    refine r_callVI (st := []) dX12_toward_14 v_X12_235 (run_X12_isWhole hc4) (by decide) (by decide) rfl rfl (Nat.le_of_ble_eq_true rfl) rfl ?_
    by_cases c7 : wr (bI b5) = 0
    · rw [if_pos c7] at h
      refine r_if_eq (tgt := 29) dX12_toward_17 (by decide) (fun _ => ?_) (fun q => absurd c7 q)
      refine r_bipush dX12_toward_29 (by decide) ?_
      cases h
      exact hQ _ _ dX12_toward_31
    · rw [if_neg c7] at h
      refine r_if_eq (tgt := 29) dX12_toward_17 (by decide) (fun q => absurd q c7) (fun _ => ?_)
      refine r_aload_n dX12_toward_20 rfl 1 rfl ?_
      refine r_iload_n dX12_toward_21 rfl 2 rfl ?_
      refine r_iload_n dX12_toward_22 rfl 3 rfl ?_
      obtain ⟨r9, M10, hc8, h⟩ := of_bd2 h
      refine r_callVI (st := []) dX12_toward_23 v_X12_268 (run_X12_farOf hc8) (by decide) (by decide) rfl rfl (Nat.le_of_ble_eq_true rfl) rfl ?_
      by_cases c11 : wr r9 = 0
      · rw [if_pos c11] at h
        refine r_if_ne (tgt := 32) dX12_toward_26 (by decide) (fun q => absurd c11 q) (fun _ => ?_)
        refine r_bipush dX12_toward_29 (by decide) ?_
        cases h
        exact hQ _ _ dX12_toward_31
      · rw [if_neg c11] at h
        refine r_if_ne (tgt := 32) dX12_toward_26 (by decide) (fun _ => ?_) (fun q => absurd q c11)
        refine r_iconst dX12_toward_32 ?_
        refine r_istore (lv2 := [(4, vI 0), (3, vI r2), (0, vR 55), (1, vI a1), (2, vI a2)]) dX12_toward_33 (by decide) rfl ?_
        obtain ⟨w9, h9, h⟩ := of_be2 h
        refine r_sub (lv2 := [(0, vR 55), (1, vI a1), (4, vI 0)]) [2, 3, 0] rfl ?_
        refine lp_X12_toward_L35 a1  (fun w => w = w9) ?_ ?_ FU 0 M10 w9 h9 rfl
        · intro y29 M30 hw
          subst hw
          have h := h.1 _ _  rfl
          refine r_bipush dX12_toward_140 (by decide) ?_
          cases h
          exact hQ _ _ dX12_toward_142
        · intro r9 M9 hw
          subst hw
          have h := h.2 _ rfl
          cases h
          exact hQ
  · rw [if_neg c3] at h
    refine r_if_ge (tgt := 13) dX12_toward_8 (by decide) (fun q => absurd q c3) (fun _ => ?_)
    refine r_iload_n dX12_toward_11 rfl 0 rfl ?_
    cases h
    exact hQ _ _ dX12_toward_12

def m_X12_isCrossed_L5 (M : Mem) (p1 : Int) (p2 : Int) (x3 : Int) (x4 : Int) : Option ((Int × Int) ⊕ (Int × Int)) :=
  if wr (gI M 55 1) ≤ wr x4 then
    some (.inr (x3, x4))
  else
    bd1 (
      if wr x3 = 0 then
        if 0 ≤ wr ((((gI M 55 0) * x4) + p2) - 1) ∧ wr ((((gI M 55 0) * x4) + p2) - 1) < 64 then
        if wr (gI M 56 (wr ((((gI M 55 0) * x4) + p2) - 1))) = 0 then
          some (0)
        else
          if 0 ≤ wr ((64 * p1) + ((((gI M 55 0) * x4) + p2) - 1)) ∧ wr ((64 * p1) + ((((gI M 55 0) * x4) + p2) - 1)) < 256 then
          if wr (gI M 60 (wr ((64 * p1) + ((((gI M 55 0) * x4) + p2) - 1)))) = wr (2 * ((((gI M 55 0) * x4) + p2) - 1)) then
            some (1)
          else
            some (0)
          else none
        else none
      else
        some (1)) fun (v7 : Int) =>
    some (.inl (v7, (x4 + 1)))
def m_X12_isCrossed (M : Mem) (a1 : Int) (a2 : Int) : Option (Bool) :=
  bd2 (itr (fun s => m_X12_isCrossed_L5 M a1 a2 s.1 s.2) FU (0, 0)) fun y8 y9 =>
  if y8 = 0 ∨ y8 = 1 then some (decide (y8 = 1)) else none
set_option maxRecDepth 10000 in
theorem lp_X12_isCrossed_L5 {G : Gx} (M : Mem) (p1 : Int) (p2 : Int)   (X : (Int × Int) → Prop) (hX1 : ∀ (x3 : Int) (x4 : Int), X (x3, x4) → Ex G 0 cX12_isCrossed RX12 6 72 [(0, vR 55), (1, vI p1), (2, vI p2), (3, vI x3), (4, vI x4)] [] M) : ∀ (nn : Nat) (x3 : Int) (x4 : Int) (out : Int × Int), itr (fun s => m_X12_isCrossed_L5 M p1 p2 s.1 s.2) nn (x3, x4) = some out → X out → Ex G 0 cX12_isCrossed RX12 6 5 [(0, vR 55), (1, vI p1), (2, vI p2), (3, vI x3), (4, vI x4)] [] M := by
  intro nn
  induction nn with
  | zero =>
    intro x3 x4 out h _
    cases h
  | succ nn ih =>
    intro x3 x4 out h0 hX
    obtain ⟨w, h, k1, k2⟩ := itr_inv h0
    have h : m_X12_isCrossed_L5 M p1 p2 x3 x4 = some w := h
    unfold m_X12_isCrossed_L5 at h
    refine r_iload dX12_isCrossed_5 4 rfl ?_
    refine r_aload_n dX12_isCrossed_7 rfl 0 rfl ?_
    refine r_getI (j := 1) (jz := 1) dX12_isCrossed_8 f_X12_92 rfl rfl rfl ?_
    by_cases c1 : wr (gI M 55 1) ≤ wr x4
    · rw [if_pos c1] at h
      refine r_icmp_ge (tgt := 72) dX12_isCrossed_11 (by decide) (fun _ => ?_) (fun q => absurd c1 q)
      cases h
      cases k2 _ rfl
      exact hX1 _ _ hX
    · rw [if_neg c1] at h
      refine r_icmp_ge (tgt := 72) dX12_isCrossed_11 (by decide) (fun q => absurd q c1) (fun _ => ?_)
      refine r_aload_n dX12_isCrossed_14 rfl 0 rfl ?_
      refine r_getI (j := 0) (jz := 0) dX12_isCrossed_15 f_X12_88 rfl rfl rfl ?_
      refine r_iload dX12_isCrossed_18 4 rfl ?_
      refine r_imul dX12_isCrossed_20 ?_
      refine r_iload_n dX12_isCrossed_21 rfl 2 rfl ?_
      refine r_iadd dX12_isCrossed_22 ?_
      refine r_iconst dX12_isCrossed_23 ?_
      refine r_isub dX12_isCrossed_24 ?_
      refine r_istore (lv2 := [(5, vI ((((gI M 55 0) * x4) + p2) - 1)), (0, vR 55), (1, vI p1), (2, vI p2), (3, vI x3), (4, vI x4)]) dX12_isCrossed_25 (by decide) rfl ?_
      refine r_iload_n dX12_isCrossed_27 rfl 4 rfl ?_
      obtain ⟨v7, h9, h⟩ := of_bd1 h
      have kJ : Ex G 0 cX12_isCrossed RX12 6 65 [(0, vR 55), (1, vI p1), (2, vI p2), (4, vI x4)] [vI v7] M := by
        refine r_istore_n (lv2 := [(3, vI v7), (0, vR 55), (1, vI p1), (2, vI p2), (4, vI x4)]) dX12_isCrossed_65 rfl (by decide) rfl ?_
        refine r_iinc (lv2 := [(4, vI (x4 + 1)), (3, vI v7), (0, vR 55), (1, vI p1), (2, vI p2)]) dX12_isCrossed_66 4 rfl (by decide) rfl ?_
        refine r_goto (tgt := 5) dX12_isCrossed_69 (by decide) ?_
        refine r_sub (lv2 := [(0, vR 55), (1, vI p1), (2, vI p2), (3, vI v7), (4, vI (x4 + 1))]) [2, 3, 4, 1, 0] rfl ?_
        cases h
        exact ih _ _  _ (k1 _ rfl) hX
      clear h
      have h := h9
      clear h9
      by_cases c2 : wr x3 = 0
      · rw [if_pos c2] at h
        refine r_if_ne (tgt := 60) dX12_isCrossed_28 (by decide) (fun q => absurd c2 q) (fun _ => ?_)
        refine r_aload_n dX12_isCrossed_31 rfl 1 rfl ?_
        refine r_getR (j := 2) (v := 56) dX12_isCrossed_32 f_X12_7 rfl rfl rfl ?_
        refine r_iload dX12_isCrossed_35 0 rfl ?_
        obtain ⟨c3, h⟩ := of_ck h
        refine r_zald dX12_isCrossed_37 rfl c3 ?_
        by_cases c4 : wr (gI M 56 (wr ((((gI M 55 0) * x4) + p2) - 1))) = 0
        · rw [if_pos c4] at h
          refine r_if_eq (tgt := 64) dX12_isCrossed_38 (by decide) (fun _ => ?_) (fun q => absurd c4 q)
          refine r_iconst dX12_isCrossed_64 ?_
          refine r_sub (lv2 := [(0, vR 55), (1, vI p1), (2, vI p2), (4, vI x4)]) [1, 2, 3, 5] rfl ?_
          cases h
          exact kJ
        · rw [if_neg c4] at h
          refine r_if_eq (tgt := 64) dX12_isCrossed_38 (by decide) (fun q => absurd q c4) (fun _ => ?_)
          refine r_aload_n dX12_isCrossed_41 rfl 1 rfl ?_
          refine r_getR (j := 6) (v := 60) dX12_isCrossed_42 f_X12_23 rfl rfl rfl ?_
          refine r_bipush dX12_isCrossed_45 (by decide) ?_
          refine r_iload_n dX12_isCrossed_47 rfl 2 rfl ?_
          refine r_imul dX12_isCrossed_48 ?_
          refine r_iload dX12_isCrossed_49 0 rfl ?_
          refine r_iadd dX12_isCrossed_51 ?_
          obtain ⟨c5, h⟩ := of_ck h
          refine r_iald dX12_isCrossed_52 rfl c5 ?_
          refine r_iconst dX12_isCrossed_53 ?_
          refine r_iload dX12_isCrossed_54 0 rfl ?_
          refine r_imul dX12_isCrossed_56 ?_
          by_cases c6 : wr (gI M 60 (wr ((64 * p1) + ((((gI M 55 0) * x4) + p2) - 1)))) = wr (2 * ((((gI M 55 0) * x4) + p2) - 1))
          · rw [if_pos c6] at h
            refine r_icmp_ne (tgt := 64) dX12_isCrossed_57 (by decide) (fun q => absurd c6 q) (fun _ => ?_)
            refine r_iconst dX12_isCrossed_60 ?_
            refine r_goto (tgt := 65) dX12_isCrossed_61 (by decide) ?_
            refine r_sub (lv2 := [(0, vR 55), (1, vI p1), (2, vI p2), (4, vI x4)]) [1, 2, 3, 5] rfl ?_
            cases h
            exact kJ
          · rw [if_neg c6] at h
            refine r_icmp_ne (tgt := 64) dX12_isCrossed_57 (by decide) (fun _ => ?_) (fun q => absurd q c6)
            refine r_iconst dX12_isCrossed_64 ?_
            refine r_sub (lv2 := [(0, vR 55), (1, vI p1), (2, vI p2), (4, vI x4)]) [1, 2, 3, 5] rfl ?_
            cases h
            exact kJ
      · rw [if_neg c2] at h
        refine r_if_ne (tgt := 60) dX12_isCrossed_28 (by decide) (fun _ => ?_) (fun q => absurd q c2)
        refine r_iconst dX12_isCrossed_60 ?_
        refine r_goto (tgt := 65) dX12_isCrossed_61 (by decide) ?_
        refine r_sub (lv2 := [(0, vR 55), (1, vI p1), (2, vI p2), (4, vI x4)]) [1, 2, 3, 5] rfl ?_
        cases h
        exact kJ

set_option maxRecDepth 10000 in
theorem run_X12_isCrossed {M : Mem} {a1 : Int} {a2 : Int} {r : Bool}   (h : m_X12_isCrossed M a1 a2 = some r) : RunI 0 yX12_isCrossed cX12_isCrossed 6 (some .boolean) [vR 55, vI a1, vI a2] M (bI r) M := by
  refine runI_of (lv := [(0, vR 55), (1, vI a1), (2, vI a2)]) (by decide +kernel) (Or.inr ⟨rfl, bI_01 r⟩) (Nat.le_of_ble_eq_true rfl) rfl ?_
  intro G hQ
  unfold m_X12_isCrossed at h
  refine r_iconst dX12_isCrossed_0 ?_
  refine r_istore_n (lv2 := [(3, vI 0), (0, vR 55), (1, vI a1), (2, vI a2)]) dX12_isCrossed_1 rfl (by decide) rfl ?_
  refine r_iconst dX12_isCrossed_2 ?_
  refine r_istore (lv2 := [(4, vI 0), (3, vI 0), (0, vR 55), (1, vI a1), (2, vI a2)]) dX12_isCrossed_3 (by decide) rfl ?_
  obtain ⟨y8, y9, h9, h⟩ := of_bd2 h
  refine r_sub (lv2 := [(0, vR 55), (1, vI a1), (2, vI a2), (3, vI 0), (4, vI 0)]) [2, 3, 4, 1, 0] rfl ?_
  refine lp_X12_isCrossed_L5 M a1 a2  (fun w => w = (y8, y9)) ?_ FU 0 0 _ h9 rfl
  intro z0 z1 hw
  cases hw
  refine r_iload_n dX12_isCrossed_72 rfl 3 rfl ?_
  obtain ⟨cz, h⟩ := of_ck h
  rw [← bI_dec cz]
  cases h
  exact hQ _ _ dX12_isCrossed_73

def m_X12_lines_L25 (M : Mem) (p1 : Int) (x2 : Int) (x3 : Int) : Option ((Int × Int) ⊕ (Int × Int)) :=
  if wr (gI M 55 0) ≤ wr x3 then
    some (.inr (x2, x3))
  else
    bd1 (m_X12_isCrossed M p1 x3) fun b8 =>
    lt (if wr (bI b8) = 0 then (shl 1 x3) else 0) fun (v10 : Int) =>
    some (.inl ((ior x2 v10), (x3 + 1)))
def m_X12_lines (M : Mem) (a1 : Int) : Option (Int) :=
  bd1 (m_X12_isSlot a1) fun b2 =>
  if wr (bI b2) = 0 then
    some (-1)
  else
    if 0 ≤ wr a1 ∧ wr a1 < 4 then
    if wr (gI M 59 (wr a1)) = 0 then
      some (-4)
    else
      bd2 (itr (fun s => m_X12_lines_L25 M a1 s.1 s.2) FU (0, 1)) fun y11 y12 =>
      some y11
    else none
set_option maxRecDepth 10000 in
theorem lp_X12_lines_L25 {G : Gx} (M : Mem) (p1 : Int)   (X : (Int × Int) → Prop) (hX1 : ∀ (x2 : Int) (x3 : Int), X (x2, x3) → Ex G 2 cX12_lines RX12 4 58 [(0, vR 55), (1, vI p1), (2, vI x2), (3, vI x3)] [] M) : ∀ (nn : Nat) (x2 : Int) (x3 : Int) (out : Int × Int), itr (fun s => m_X12_lines_L25 M p1 s.1 s.2) nn (x2, x3) = some out → X out → Ex G 2 cX12_lines RX12 4 25 [(0, vR 55), (1, vI p1), (2, vI x2), (3, vI x3)] [] M := by
  intro nn
  induction nn with
  | zero =>
    intro x2 x3 out h _
    cases h
  | succ nn ih =>
    intro x2 x3 out h0 hX
    obtain ⟨w, h, k1, k2⟩ := itr_inv h0
    have h : m_X12_lines_L25 M p1 x2 x3 = some w := h
    unfold m_X12_lines_L25 at h
    refine r_iload_n dX12_lines_25 rfl 3 rfl ?_
    refine r_aload_n dX12_lines_26 rfl 0 rfl ?_
    refine r_getI (j := 0) (jz := 0) dX12_lines_27 f_X12_88 rfl rfl rfl ?_
    by_cases c6 : wr (gI M 55 0) ≤ wr x3
    · rw [if_pos c6] at h
      refine r_icmp_ge (tgt := 58) dX12_lines_30 (by decide) (fun _ => ?_) (fun q => absurd c6 q)
      cases h
      cases k2 _ rfl
      exact hX1 _ _ hX
    · rw [if_neg c6] at h
      refine r_icmp_ge (tgt := 58) dX12_lines_30 (by decide) (fun q => absurd q c6) (fun _ => ?_)
      refine r_iload_n dX12_lines_33 rfl 2 rfl ?_
      refine r_aload_n dX12_lines_34 rfl 0 rfl ?_
      refine r_iload_n dX12_lines_35 rfl 1 rfl ?_
      refine r_iload_n dX12_lines_36 rfl 3 rfl ?_
      obtain ⟨b8, hc7, h⟩ := of_bd1 h
      refine r_callVI (st := [vI x2]) dX12_lines_37 v_X12_271 (run_X12_isCrossed hc7) (by decide) (by decide) rfl rfl (Nat.le_of_ble_eq_true rfl) rfl ?_
      obtain ⟨v10, ev10, h⟩ := of_lt h
      have kJ : Ex G 2 cX12_lines RX12 4 50 [(0, vR 55), (1, vI p1), (3, vI x3)] [vI v10, vI x2] M := by
        refine r_ior dX12_lines_50 ?_
        refine r_istore_n (lv2 := [(2, vI (ior x2 v10)), (0, vR 55), (1, vI p1), (3, vI x3)]) dX12_lines_51 rfl (by decide) rfl ?_
        refine r_iinc (lv2 := [(3, vI (x3 + 1)), (2, vI (ior x2 v10)), (0, vR 55), (1, vI p1)]) dX12_lines_52 3 rfl (by decide) rfl ?_
        refine r_goto (tgt := 25) dX12_lines_55 (by decide) ?_
        refine r_sub (lv2 := [(0, vR 55), (1, vI p1), (2, vI (ior x2 v10)), (3, vI (x3 + 1))]) [2, 3, 1, 0] rfl ?_
        cases h
        exact ih _ _  _ (k1 _ rfl) hX
      clear h
      by_cases c9 : wr (bI b8) = 0
      · skip
        refine r_if_eq (tgt := 47) dX12_lines_40 (by decide) (fun _ => ?_) (fun q => absurd c9 q)
        refine r_iconst dX12_lines_47 ?_
        refine r_iload_n dX12_lines_48 rfl 3 rfl ?_
        refine r_ishl dX12_lines_49 ?_
        rw [show v10 = (shl 1 x3) from by rw [ev10, if_pos c9]] at kJ
        refine r_sub (lv2 := [(0, vR 55), (1, vI p1), (3, vI x3)]) [0, 1, 3] rfl ?_
        exact kJ
      · skip
        refine r_if_eq (tgt := 47) dX12_lines_40 (by decide) (fun q => absurd q c9) (fun _ => ?_)
        refine r_iconst dX12_lines_43 ?_
        refine r_goto (tgt := 50) dX12_lines_44 (by decide) ?_
        rw [show v10 = 0 from by rw [ev10, if_neg c9]] at kJ
        refine r_sub (lv2 := [(0, vR 55), (1, vI p1), (3, vI x3)]) [0, 1, 3] rfl ?_
        exact kJ

set_option maxRecDepth 10000 in
theorem run_X12_lines {M : Mem} {a1 : Int} {r : Int}   (h : m_X12_lines M a1 = some r) : RunI 2 yX12_lines cX12_lines 4 (some .int) [vR 55, vI a1] M r M := by
  refine runI_of (lv := [(0, vR 55), (1, vI a1)]) (by decide +kernel) (Or.inl rfl) (Nat.le_of_ble_eq_true rfl) rfl ?_
  intro G hQ
  unfold m_X12_lines at h
  refine r_iload_n dX12_lines_0 rfl 1 rfl ?_
  obtain ⟨b2, hc1, h⟩ := of_bd1 h
  refine r_callSI (st := []) dX12_lines_1 v_X12_188 (run_X12_isSlot hc1) (by decide) (by decide) rfl (Nat.le_of_ble_eq_true rfl) rfl ?_
  by_cases c3 : wr (bI b2) = 0
  · rw [if_pos c3] at h
    refine r_if_ne (tgt := 9) dX12_lines_4 (by decide) (fun q => absurd c3 q) (fun _ => ?_)
    refine r_iconst dX12_lines_7 ?_
    cases h
    exact hQ _ _ dX12_lines_8
  · rw [if_neg c3] at h
    refine r_if_ne (tgt := 9) dX12_lines_4 (by decide) (fun _ => ?_) (fun q => absurd q c3)
    refine r_aload_n dX12_lines_9 rfl 0 rfl ?_
    refine r_getR (j := 5) (v := 59) dX12_lines_10 f_X12_20 rfl rfl rfl ?_
    refine r_iload_n dX12_lines_13 rfl 1 rfl ?_
    obtain ⟨c4, h⟩ := of_ck h
    refine r_zald dX12_lines_14 rfl c4 ?_
    by_cases c5 : wr (gI M 59 (wr a1)) = 0
    · rw [if_pos c5] at h
      refine r_if_ne (tgt := 21) dX12_lines_15 (by decide) (fun q => absurd c5 q) (fun _ => ?_)
      refine r_bipush dX12_lines_18 (by decide) ?_
      cases h
      exact hQ _ _ dX12_lines_20
    · rw [if_neg c5] at h
      refine r_if_ne (tgt := 21) dX12_lines_15 (by decide) (fun _ => ?_) (fun q => absurd q c5)
      refine r_iconst dX12_lines_21 ?_
      refine r_istore_n (lv2 := [(2, vI 0), (0, vR 55), (1, vI a1)]) dX12_lines_22 rfl (by decide) rfl ?_
      refine r_iconst dX12_lines_23 ?_
      refine r_istore_n (lv2 := [(3, vI 1), (2, vI 0), (0, vR 55), (1, vI a1)]) dX12_lines_24 rfl (by decide) rfl ?_
      obtain ⟨y11, y12, h9, h⟩ := of_bd2 h
      refine r_sub (lv2 := [(0, vR 55), (1, vI a1), (2, vI 0), (3, vI 1)]) [2, 3, 1, 0] rfl ?_
      refine lp_X12_lines_L25 M a1  (fun w => w = (y11, y12)) ?_ FU 0 1 _ h9 rfl
      intro z0 z1 hw
      cases hw
      refine r_iload_n dX12_lines_58 rfl 2 rfl ?_
      cases h
      exact hQ _ _ dX12_lines_59

def m_X12_sound_L73 (M : Mem) (p1 : Int64) (p3 : Int) (p4 : Int) (p5 : Int) (p6 : Int) (x7 : Int) : Option ((Int × Mem) ⊕ (Int × Mem)) :=
  if wr (gI M 55 1) ≤ wr x7 then
    some (.inr (x7, M))
  else
    if wr p6 = 0 then
      some (.inr (x7, M))
    else
      if 0 ≤ wr (2 * ((((gI M 55 0) * x7) + p5) - 1)) ∧ wr (2 * ((((gI M 55 0) * x7) + p5) - 1)) < 128 then
      lt (sI M 63 (wr (2 * ((((gI M 55 0) * x7) + p5) - 1))) 0) fun M12 =>
      some (.inl ((x7 + 1), M12))
      else none
def m_X12_sound_L27 (M : Mem) (p1 : Int64) (p3 : Int) (x4 : Int) (x5 : Int) : Option ((Int × Int × Mem) ⊕ (Int × Int × Mem)) :=
  if wr (gI M 55 0) ≤ wr x5 then
    some (.inr (x4, x5, M))
  else
    lt (if wr (iand (sar p3 (x5 - 1)) 1) = wr 1 then 1 else 0) fun (v6 : Int) =>
    lt (if wr v6 = 0 then 0 else 1) fun (v8 : Int) =>
    bd2 (itr (fun s => m_X12_sound_L73 s.2 p1 p3 (x4 + v8) x5 v6 s.1) FU (0, M)) fun y13 M14 =>
    some (.inl ((x4 + v8), (x5 + 1), M14))
def m_X12_sound_L4 (M : Mem)  (x1 : Int64) (x3 : Int) : Option ((Int64 × Int × Mem) ⊕ (Int64 × Int × Mem)) :=
  if wr (shl 1 ((gI M 55 0) - 1)) ≤ wr x3 then
    some (.inr (x1, x3, M))
  else
    bd1 (m_X12_allows M 0) fun M3 =>
    bd3 (itr (fun s => m_X12_sound_L27 s.2.2 x1 x3 s.1 s.2.1) FU (0, 1, M3)) fun y15 y16 M17 =>
    bd2 (
      if wr (irm y15 2) = 0 then
        bd2 (m_X12_countAll M17) fun r23 M24 =>
        some (r23, M24)
      else
        bd2 (m_X12_countAll M17) fun r20 M21 =>
        some (((0 : Int64) - r20), M21)) fun (v25 : Int64) (M26 : Mem) =>
    some (.inl ((x1 + v25), (x3 + 1), M26))
def m_X12_sound (M : Mem) : Option (Int64 × Mem) :=
  bd3 (itr (fun s => m_X12_sound_L4 s.2.2  s.1 s.2.1) FU ((0 : Int64), 0, M)) fun y27 y28 M29 =>
  some (y27, M29)
set_option maxRecDepth 10000 in
theorem lp_X12_sound_L73 {G : Gx} (p1 : Int64) (p3 : Int) (p4 : Int) (p5 : Int) (p6 : Int)   (X : (Int × Mem) → Prop) (hX1 : ∀ (x7 : Int) (M : Mem), X (x7, M) → Ex G 3 cX12_sound RX12 8 113 [(0, vR 55), (1, vL p1), (3, vI p3), (4, vI p4), (5, vI p5), (6, vI p6), (7, vI x7)] [] M) : ∀ (nn : Nat) (x7 : Int) (M : Mem) (out : Int × Mem), itr (fun s => m_X12_sound_L73 s.2 p1 p3 p4 p5 p6 s.1) nn (x7, M) = some out → X out → Ex G 3 cX12_sound RX12 8 73 [(0, vR 55), (1, vL p1), (3, vI p3), (4, vI p4), (5, vI p5), (6, vI p6), (7, vI x7)] [] M := by
  intro nn
  induction nn with
  | zero =>
    intro x7 M out h _
    cases h
  | succ nn ih =>
    intro x7 M out h0 hX
    obtain ⟨w, h, k1, k2⟩ := itr_inv h0
    have h : m_X12_sound_L73 M p1 p3 p4 p5 p6 x7 = some w := h
    unfold m_X12_sound_L73 at h
    refine r_iload dX12_sound_73 6 rfl ?_
    refine r_aload_n dX12_sound_75 rfl 0 rfl ?_
    refine r_getI (j := 1) (jz := 1) dX12_sound_76 f_X12_92 rfl rfl rfl ?_
    by_cases c9 : wr (gI M 55 1) ≤ wr x7
    · rw [if_pos c9] at h
      refine r_icmp_ge (tgt := 113) dX12_sound_79 (by decide) (fun _ => ?_) (fun q => absurd c9 q)
      cases h
      cases k2 _ rfl
      exact hX1 _ _ hX
    · rw [if_neg c9] at h
      refine r_icmp_ge (tgt := 113) dX12_sound_79 (by decide) (fun q => absurd q c9) (fun _ => ?_)
      refine r_iload dX12_sound_82 5 rfl ?_
      by_cases c10 : wr p6 = 0
      · rw [if_pos c10] at h
        refine r_if_eq (tgt := 113) dX12_sound_84 (by decide) (fun _ => ?_) (fun q => absurd c10 q)
        cases h
        cases k2 _ rfl
        exact hX1 _ _ hX
      · rw [if_neg c10] at h
        refine r_if_eq (tgt := 113) dX12_sound_84 (by decide) (fun q => absurd q c10) (fun _ => ?_)
        refine r_aload_n dX12_sound_87 rfl 0 rfl ?_
        refine r_getR (j := 11) (v := 63) dX12_sound_88 f_X12_32 rfl rfl rfl ?_
        refine r_iconst dX12_sound_91 ?_
        refine r_aload_n dX12_sound_92 rfl 0 rfl ?_
        refine r_getI (j := 0) (jz := 0) dX12_sound_93 f_X12_88 rfl rfl rfl ?_
        refine r_iload dX12_sound_96 6 rfl ?_
        refine r_imul dX12_sound_98 ?_
        refine r_iload dX12_sound_99 4 rfl ?_
        refine r_iadd dX12_sound_101 ?_
        refine r_iconst dX12_sound_102 ?_
        refine r_isub dX12_sound_103 ?_
        refine r_imul dX12_sound_104 ?_
        refine r_iconst dX12_sound_105 ?_
        obtain ⟨c11, h⟩ := of_ck h
        obtain ⟨M12, eM12, h⟩ := of_lt h
        refine r_zast dX12_sound_106 rfl c11 (by decide) ?_
        rw [← eM12]
        refine r_iinc (lv2 := [(7, vI (x7 + 1)), (0, vR 55), (1, vL p1), (3, vI p3), (4, vI p4), (5, vI p5), (6, vI p6)]) dX12_sound_107 6 rfl (by decide) rfl ?_
        refine r_goto (tgt := 73) dX12_sound_110 (by decide) ?_
        refine r_sub (lv2 := [(0, vR 55), (1, vL p1), (3, vI p3), (4, vI p4), (5, vI p5), (6, vI p6), (7, vI (x7 + 1))]) [1, 2, 3, 4, 5, 6, 0] rfl ?_
        cases h
        exact ih _ _  _ (k1 _ rfl) hX

set_option maxRecDepth 10000 in
theorem lp_X12_sound_L27 {G : Gx} (p1 : Int64) (p3 : Int)   (X : (Int × Int × Mem) → Prop) (hX1 : ∀ (x4 : Int) (x5 : Int) (M : Mem), X (x4, x5, M) → Ex G 3 cX12_sound RX12 8 119 [(0, vR 55), (1, vL p1), (3, vI p3), (4, vI x4), (5, vI x5)] [] M) : ∀ (nn : Nat) (x4 : Int) (x5 : Int) (M : Mem) (out : Int × Int × Mem), itr (fun s => m_X12_sound_L27 s.2.2 p1 p3 s.1 s.2.1) nn (x4, x5, M) = some out → X out → Ex G 3 cX12_sound RX12 8 27 [(0, vR 55), (1, vL p1), (3, vI p3), (4, vI x4), (5, vI x5)] [] M := by
  intro nn
  induction nn with
  | zero =>
    intro x4 x5 M out h _
    cases h
  | succ nn ih =>
    intro x4 x5 M out h0 hX
    obtain ⟨w, h, k1, k2⟩ := itr_inv h0
    have h : m_X12_sound_L27 M p1 p3 x4 x5 = some w := h
    unfold m_X12_sound_L27 at h
    refine r_iload dX12_sound_27 4 rfl ?_
    refine r_aload_n dX12_sound_29 rfl 0 rfl ?_
    refine r_getI (j := 0) (jz := 0) dX12_sound_30 f_X12_88 rfl rfl rfl ?_
    by_cases c4 : wr (gI M 55 0) ≤ wr x5
    · rw [if_pos c4] at h
      refine r_icmp_ge (tgt := 119) dX12_sound_33 (by decide) (fun _ => ?_) (fun q => absurd c4 q)
      cases h
      cases k2 _ rfl
      exact hX1 _ _ _ hX
    · rw [if_neg c4] at h
      refine r_icmp_ge (tgt := 119) dX12_sound_33 (by decide) (fun q => absurd q c4) (fun _ => ?_)
      refine r_iload_n dX12_sound_36 rfl 2 rfl ?_
      refine r_iload dX12_sound_37 4 rfl ?_
      refine r_iconst dX12_sound_39 ?_
      refine r_isub dX12_sound_40 ?_
      refine r_ishr dX12_sound_41 ?_
      refine r_iconst dX12_sound_42 ?_
      refine r_iand dX12_sound_43 ?_
      refine r_iconst dX12_sound_44 ?_
      obtain ⟨v6, ev6, h⟩ := of_lt h
      have kJ : Ex G 3 cX12_sound RX12 8 53 [(0, vR 55), (1, vL p1), (3, vI p3), (4, vI x4), (5, vI x5)] [vI v6] M := by
        refine r_istore (lv2 := [(6, vI v6), (0, vR 55), (1, vL p1), (3, vI p3), (4, vI x4), (5, vI x5)]) dX12_sound_53 (by decide) rfl ?_
        refine r_iload dX12_sound_55 4 rfl ?_
        refine r_iload dX12_sound_57 0 rfl ?_
        obtain ⟨v8, ev8, h⟩ := of_lt h
        have kJ : Ex G 3 cX12_sound RX12 8 67 [(0, vR 55), (1, vL p1), (3, vI p3), (5, vI x5), (6, vI v6)] [vI v8, vI x4] M := by
          refine r_iadd dX12_sound_67 ?_
          refine r_istore (lv2 := [(4, vI (x4 + v8)), (0, vR 55), (1, vL p1), (3, vI p3), (5, vI x5), (6, vI v6)]) dX12_sound_68 (by decide) rfl ?_
          refine r_iconst dX12_sound_70 ?_
          refine r_istore (lv2 := [(7, vI 0), (4, vI (x4 + v8)), (0, vR 55), (1, vL p1), (3, vI p3), (5, vI x5), (6, vI v6)]) dX12_sound_71 (by decide) rfl ?_
          obtain ⟨y13, M14, h9, h⟩ := of_bd2 h
          refine r_sub (lv2 := [(0, vR 55), (1, vL p1), (3, vI p3), (4, vI (x4 + v8)), (5, vI x5), (6, vI v6), (7, vI 0)]) [2, 3, 4, 1, 5, 6, 0] rfl ?_
          refine lp_X12_sound_L73 p1 p3 (x4 + v8) x5 v6  (fun w => w = (y13, M14)) ?_ FU 0 M _ h9 rfl
          intro z0 z1 hw
          cases hw
          refine r_iinc (lv2 := [(5, vI (x5 + 1)), (0, vR 55), (1, vL p1), (3, vI p3), (4, vI (x4 + v8)), (6, vI v6), (7, vI y13)]) dX12_sound_113 4 rfl (by decide) rfl ?_
          refine r_goto (tgt := 27) dX12_sound_116 (by decide) ?_
          refine r_sub (lv2 := [(0, vR 55), (1, vL p1), (3, vI p3), (4, vI (x4 + v8)), (5, vI (x5 + 1))]) [1, 2, 3, 4, 0] rfl ?_
          cases h
          exact ih _ _ _  _ (k1 _ rfl) hX
        clear h
        by_cases c7 : wr v6 = 0
        · skip
          refine r_if_eq (tgt := 66) dX12_sound_59 (by decide) (fun _ => ?_) (fun q => absurd c7 q)
          refine r_iconst dX12_sound_66 ?_
          rw [show v8 = 0 from by rw [ev8, if_pos c7]] at kJ
          refine r_sub (lv2 := [(0, vR 55), (1, vL p1), (3, vI p3), (5, vI x5), (6, vI v6)]) [1, 2, 3, 5, 0] rfl ?_
          exact kJ
        · skip
          refine r_if_eq (tgt := 66) dX12_sound_59 (by decide) (fun q => absurd q c7) (fun _ => ?_)
          refine r_iconst dX12_sound_62 ?_
          refine r_goto (tgt := 67) dX12_sound_63 (by decide) ?_
          rw [show v8 = 1 from by rw [ev8, if_neg c7]] at kJ
          refine r_sub (lv2 := [(0, vR 55), (1, vL p1), (3, vI p3), (5, vI x5), (6, vI v6)]) [1, 2, 3, 5, 0] rfl ?_
          exact kJ
      clear h
      by_cases c5 : wr (iand (sar p3 (x5 - 1)) 1) = wr 1
      · skip
        refine r_icmp_ne (tgt := 52) dX12_sound_45 (by decide) (fun q => absurd c5 q) (fun _ => ?_)
        refine r_iconst dX12_sound_48 ?_
        refine r_goto (tgt := 53) dX12_sound_49 (by decide) ?_
        rw [show v6 = 1 from by rw [ev6, if_pos c5]] at kJ
        exact kJ
      · skip
        refine r_icmp_ne (tgt := 52) dX12_sound_45 (by decide) (fun _ => ?_) (fun q => absurd q c5)
        refine r_iconst dX12_sound_52 ?_
        rw [show v6 = 0 from by rw [ev6, if_neg c5]] at kJ
        exact kJ

set_option maxRecDepth 10000 in
theorem lp_X12_sound_L4 {G : Gx}    (X : (Int64 × Int × Mem) → Prop) (hX1 : ∀ (x1 : Int64) (x3 : Int) (M : Mem), X (x1, x3, M) → Ex G 3 cX12_sound RX12 8 148 [(0, vR 55), (1, vL x1), (3, vI x3)] [] M) : ∀ (nn : Nat) (x1 : Int64) (x3 : Int) (M : Mem) (out : Int64 × Int × Mem), itr (fun s => m_X12_sound_L4 s.2.2  s.1 s.2.1) nn (x1, x3, M) = some out → X out → Ex G 3 cX12_sound RX12 8 4 [(0, vR 55), (1, vL x1), (3, vI x3)] [] M := by
  intro nn
  induction nn with
  | zero =>
    intro x1 x3 M out h _
    cases h
  | succ nn ih =>
    intro x1 x3 M out h0 hX
    obtain ⟨w, h, k1, k2⟩ := itr_inv h0
    have h : m_X12_sound_L4 M  x1 x3 = some w := h
    unfold m_X12_sound_L4 at h
    refine r_iload_n dX12_sound_4 rfl 2 rfl ?_
    refine r_iconst dX12_sound_5 ?_
    refine r_aload_n dX12_sound_6 rfl 0 rfl ?_
    refine r_getI (j := 0) (jz := 0) dX12_sound_7 f_X12_88 rfl rfl rfl ?_
    refine r_iconst dX12_sound_10 ?_
    refine r_isub dX12_sound_11 ?_
    refine r_ishl dX12_sound_12 ?_
    by_cases c1 : wr (shl 1 ((gI M 55 0) - 1)) ≤ wr x3
    · rw [if_pos c1] at h
      refine r_icmp_ge (tgt := 148) dX12_sound_13 (by decide) (fun _ => ?_) (fun q => absurd c1 q)
      cases h
      cases k2 _ rfl
      exact hX1 _ _ _ hX
    · rw [if_neg c1] at h
      refine r_icmp_ge (tgt := 148) dX12_sound_13 (by decide) (fun q => absurd q c1) (fun _ => ?_)
      refine r_aload_n dX12_sound_16 rfl 0 rfl ?_
      refine r_iconst dX12_sound_17 ?_
      obtain ⟨M3, hc2, h⟩ := of_bd1 h
      refine r_callVV (st := []) dX12_sound_18 v_X12_169 (run_X12_allows hc2) (by decide) (by decide) rfl rfl (Nat.le_of_ble_eq_true rfl) rfl ?_
      refine r_iconst dX12_sound_21 ?_
      refine r_istore (lv2 := [(4, vI 0), (0, vR 55), (1, vL x1), (3, vI x3)]) dX12_sound_22 (by decide) rfl ?_
      refine r_iconst dX12_sound_24 ?_
      refine r_istore (lv2 := [(5, vI 1), (4, vI 0), (0, vR 55), (1, vL x1), (3, vI x3)]) dX12_sound_25 (by decide) rfl ?_
      obtain ⟨y15, y16, M17, h9, h⟩ := of_bd3 h
      refine r_sub (lv2 := [(0, vR 55), (1, vL x1), (3, vI x3), (4, vI 0), (5, vI 1)]) [2, 3, 4, 1, 0] rfl ?_
      refine lp_X12_sound_L27 x1 x3  (fun w => w = (y15, y16, M17)) ?_ FU 0 1 M3 _ h9 rfl
      intro z0 z1 z2 hw
      cases hw
      refine r_lload_n dX12_sound_119 rfl 1 rfl ?_
      refine r_iload dX12_sound_120 3 rfl ?_
      refine r_iconst dX12_sound_122 ?_
      refine r_irem dX12_sound_123 (by decide) ?_
      obtain ⟨v25, M26, h9, h⟩ := of_bd2 h
      have kJ : Ex G 3 cX12_sound RX12 8 140 [(0, vR 55), (3, vI x3)] [vL v25, vL x1] M26 := by
        refine r_ladd dX12_sound_140 ?_
        refine r_lstore_n (lv2 := [(1, vL (x1 + v25)), (0, vR 55), (3, vI x3)]) dX12_sound_141 rfl (by decide) rfl ?_
        refine r_iinc (lv2 := [(3, vI (x3 + 1)), (1, vL (x1 + v25)), (0, vR 55)]) dX12_sound_142 2 rfl (by decide) rfl ?_
        refine r_goto (tgt := 4) dX12_sound_145 (by decide) ?_
        refine r_sub (lv2 := [(0, vR 55), (1, vL (x1 + v25)), (3, vI (x3 + 1))]) [2, 1, 0] rfl ?_
        cases h
        exact ih _ _ _  _ (k1 _ rfl) hX
      clear h
      have h := h9
      clear h9
      by_cases c18 : wr (irm y15 2) = 0
      · rw [if_pos c18] at h
        refine r_if_ne (tgt := 134) dX12_sound_124 (by decide) (fun q => absurd c18 q) (fun _ => ?_)
        refine r_aload_n dX12_sound_127 rfl 0 rfl ?_
        obtain ⟨r23, M24, hc22, h⟩ := of_bd2 h
        refine r_callVL (st := [vL x1]) dX12_sound_128 v_X12_173 (run_X12_countAll hc22) (by decide) (by decide) rfl rfl (Nat.le_of_ble_eq_true rfl) rfl ?_
        refine r_goto (tgt := 140) dX12_sound_131 (by decide) ?_
        refine r_sub (lv2 := [(0, vR 55), (3, vI x3)]) [0, 2] rfl ?_
        cases h
        exact kJ
      · rw [if_neg c18] at h
        refine r_if_ne (tgt := 134) dX12_sound_124 (by decide) (fun _ => ?_) (fun q => absurd q c18)
        refine r_lconst (v := 0) dX12_sound_134 rfl ?_
        refine r_aload_n dX12_sound_135 rfl 0 rfl ?_
        obtain ⟨r20, M21, hc19, h⟩ := of_bd2 h
        refine r_callVL (st := [vL (0 : Int64), vL x1]) dX12_sound_136 v_X12_173 (run_X12_countAll hc19) (by decide) (by decide) rfl rfl (Nat.le_of_ble_eq_true rfl) rfl ?_
        refine r_lsub dX12_sound_139 ?_
        refine r_sub (lv2 := [(0, vR 55), (3, vI x3)]) [0, 2] rfl ?_
        cases h
        exact kJ

set_option maxRecDepth 10000 in
theorem run_X12_sound {M : Mem} {M2 : Mem} {r : Int64}   (h : m_X12_sound M = some (r, M2)) : RunL 3 yX12_sound cX12_sound 8 (some .long) [vR 55] M r M2 := by
  refine runL_of (lv := [(0, vR 55)]) (by decide +kernel) rfl (Nat.le_of_ble_eq_true rfl) rfl ?_
  intro G hQ
  unfold m_X12_sound at h
  refine r_lconst (v := 0) dX12_sound_0 rfl ?_
  refine r_lstore_n (lv2 := [(1, vL (0 : Int64)), (0, vR 55)]) dX12_sound_1 rfl (by decide) rfl ?_
  refine r_iconst dX12_sound_2 ?_
  refine r_istore_n (lv2 := [(3, vI 0), (1, vL (0 : Int64)), (0, vR 55)]) dX12_sound_3 rfl (by decide) rfl ?_
  obtain ⟨y27, y28, M29, h9, h⟩ := of_bd3 h
  refine r_sub (lv2 := [(0, vR 55), (1, vL (0 : Int64)), (3, vI 0)]) [2, 1, 0] rfl ?_
  refine lp_X12_sound_L4   (fun w => w = (y27, y28, M29)) ?_ FU (0 : Int64) 0 M _ h9 rfl
  intro z0 z1 z2 hw
  cases hw
  refine r_lload_n dX12_sound_148 rfl 1 rfl ?_
  cases h
  exact hQ _ _ dX12_sound_149

def m_X12_mateIn (M : Mem) (a1 : Int) (a2 : Int) : Option (Int) :=
  if 0 ≤ wr ((64 * a1) + a2) ∧ wr ((64 * a1) + a2) < 256 then
  bd1 (
    if wr (idv (gI M 60 (wr ((64 * a1) + a2))) 2) = wr a2 then
      bd1 (m_X12_otherOf M (gI M 60 (wr ((64 * a1) + a2)))) fun r4 =>
      some (r4)
    else
      some ((idv (gI M 60 (wr ((64 * a1) + a2))) 2))) fun (v5 : Int) =>
  some v5
  else none
set_option maxRecDepth 10000 in
theorem run_X12_mateIn {M : Mem} {a1 : Int} {a2 : Int} {r : Int}   (h : m_X12_mateIn M a1 a2 = some r) : RunI 1 yX12_mateIn cX12_mateIn 4 (some .int) [vR 55, vI a1, vI a2] M r M := by
  refine runI_of (lv := [(0, vR 55), (1, vI a1), (2, vI a2)]) (by decide +kernel) (Or.inl rfl) (Nat.le_of_ble_eq_true rfl) rfl ?_
  intro G hQ
  unfold m_X12_mateIn at h
  refine r_aload_n dX12_mateIn_0 rfl 0 rfl ?_
  refine r_getR (j := 6) (v := 60) dX12_mateIn_1 f_X12_23 rfl rfl rfl ?_
  refine r_bipush dX12_mateIn_4 (by decide) ?_
  refine r_iload_n dX12_mateIn_6 rfl 1 rfl ?_
  refine r_imul dX12_mateIn_7 ?_
  refine r_iload_n dX12_mateIn_8 rfl 2 rfl ?_
  refine r_iadd dX12_mateIn_9 ?_
  obtain ⟨c1, h⟩ := of_ck h
  refine r_iald dX12_mateIn_10 rfl c1 ?_
  refine r_istore_n (lv2 := [(3, vI (gI M 60 (wr ((64 * a1) + a2)))), (0, vR 55), (1, vI a1), (2, vI a2)]) dX12_mateIn_11 rfl (by decide) rfl ?_
  refine r_iload_n dX12_mateIn_12 rfl 0 rfl ?_
  refine r_iconst dX12_mateIn_13 ?_
  refine r_idiv dX12_mateIn_14 (by decide) ?_
  refine r_iload_n dX12_mateIn_15 rfl 3 rfl ?_
  obtain ⟨v5, h9, h⟩ := of_bd1 h
  have kJ : Ex G 1 cX12_mateIn RX12 4 30 [] [vI v5] M := by
    cases h
    exact hQ _ _ dX12_mateIn_30
  clear h
  have h := h9
  clear h9
  by_cases c2 : wr (idv (gI M 60 (wr ((64 * a1) + a2))) 2) = wr a2
  · rw [if_pos c2] at h
    refine r_icmp_ne (tgt := 27) dX12_mateIn_16 (by decide) (fun q => absurd c2 q) (fun _ => ?_)
    refine r_aload_n dX12_mateIn_19 rfl 1 rfl ?_
    refine r_iload_n dX12_mateIn_20 rfl 0 rfl ?_
    obtain ⟨r4, hc3, h⟩ := of_bd1 h
    refine r_callVI (st := []) dX12_mateIn_21 v_X12_108 (run_X12_otherOf hc3) (by decide) (by decide) rfl rfl (Nat.le_of_ble_eq_true rfl) rfl ?_
    refine r_goto (tgt := 30) dX12_mateIn_24 (by decide) ?_
    refine r_sub (lv2 := []) [] rfl ?_
    cases h
    exact kJ
  · rw [if_neg c2] at h
    refine r_icmp_ne (tgt := 27) dX12_mateIn_16 (by decide) (fun _ => ?_) (fun q => absurd q c2)
    refine r_iload_n dX12_mateIn_27 rfl 0 rfl ?_
    refine r_iconst dX12_mateIn_28 ?_
    refine r_idiv dX12_mateIn_29 (by decide) ?_
    refine r_sub (lv2 := []) [] rfl ?_
    cases h
    exact kJ

def m_X12_ringMany_L2 (M : Mem) (p1 : Int) (p2 : Int) (x3 : Int) : Option ((Int × Mem) ⊕ (Int × Mem)) :=
  if wr 64 ≤ wr x3 then
    some (.inr (x3, M))
  else
    if 0 ≤ wr x3 ∧ wr x3 < 64 then
    lt (sI M 75 (wr x3) (-1)) fun M3 =>
    some (.inl ((x3 + 1), M3))
    else none
def m_X12_ringMany_L91 (M : Mem) (p1 : Int) (p2 : Int) (p3 : Int) (p4 : Int) (x5 : Int) : Option ((Int × Mem) ⊕ (Int × Mem)) :=
  if 0 ≤ wr x5 ∧ wr x5 < 64 then
  if 0 ≤ wr (gI M 75 (wr x5)) then
    some (.inr (x5, M))
  else
    lt (sI M 75 (wr x5) p3) fun M15 =>
    bd1 (m_X12_mateIn M15 p1 x5) fun r17 =>
    if 0 ≤ wr r17 ∧ wr r17 < 64 then
    lt (sI M15 75 (wr r17) p3) fun M19 =>
    bd1 (m_X12_mateIn M19 p2 r17) fun r21 =>
    some (.inl (r21, M19))
    else none
  else none
def m_X12_ringMany_L26 (M : Mem) (p1 : Int) (p2 : Int) (x3 : Int) (x4 : Int) : Option ((Int × Int × Mem) ⊕ (Int × Int × Mem)) :=
  if wr ((gI M 55 0) * (gI M 55 1)) ≤ wr x4 then
    some (.inr (x3, x4, M))
  else
    if 0 ≤ wr x4 ∧ wr x4 < 64 then
    bd2 (
      if wr (gI M 56 (wr x4)) = 0 then
        some (x3, M)
      else
        if 0 ≤ wr (gI M 75 (wr x4)) then
          some (x3, M)
        else
          if 0 ≤ wr ((64 * p1) + x4) ∧ wr ((64 * p1) + x4) < 256 then
          if 0 ≤ wr ((64 * p2) + x4) ∧ wr ((64 * p2) + x4) < 256 then
          if wr (gI M 60 (wr ((64 * p1) + x4))) = wr (gI M 60 (wr ((64 * p2) + x4))) then
            some (x3, M)
          else
            bd2 (itr (fun s => m_X12_ringMany_L91 s.2 p1 p2 x3 x4 s.1) FU (x4, M)) fun y22 M23 =>
            some ((x3 + 1), M23)
          else none
          else none) fun (v24 : Int) (M25 : Mem) =>
    some (.inl (v24, (x4 + 1), M25))
    else none
def m_X12_ringMany (M : Mem) (a1 : Int) (a2 : Int) : Option (Int × Mem) :=
  bd2 (itr (fun s => m_X12_ringMany_L2 s.2 a1 a2 s.1) FU (0, M)) fun y4 M5 =>
  bd3 (itr (fun s => m_X12_ringMany_L26 s.2.2 a1 a2 s.1 s.2.1) FU (0, 0, M5)) fun y26 y27 M28 =>
  some (y26, M28)
set_option maxRecDepth 10000 in
theorem lp_X12_ringMany_L2 {G : Gx} (p1 : Int) (p2 : Int)   (X : (Int × Mem) → Prop) (hX1 : ∀ (x3 : Int) (M : Mem), X (x3, M) → Ex G 2 cX12_ringMany RX12 7 21 [(0, vR 55), (1, vI p1), (2, vI p2), (3, vI x3)] [] M) : ∀ (nn : Nat) (x3 : Int) (M : Mem) (out : Int × Mem), itr (fun s => m_X12_ringMany_L2 s.2 p1 p2 s.1) nn (x3, M) = some out → X out → Ex G 2 cX12_ringMany RX12 7 2 [(0, vR 55), (1, vI p1), (2, vI p2), (3, vI x3)] [] M := by
  intro nn
  induction nn with
  | zero =>
    intro x3 M out h _
    cases h
  | succ nn ih =>
    intro x3 M out h0 hX
    obtain ⟨w, h, k1, k2⟩ := itr_inv h0
    have h : m_X12_ringMany_L2 M p1 p2 x3 = some w := h
    unfold m_X12_ringMany_L2 at h
    refine r_iload_n dX12_ringMany_2 rfl 3 rfl ?_
    refine r_bipush dX12_ringMany_3 (by decide) ?_
    by_cases c1 : wr 64 ≤ wr x3
    · rw [if_pos c1] at h
      refine r_icmp_ge (tgt := 21) dX12_ringMany_5 (by decide) (fun _ => ?_) (fun q => absurd c1 q)
      cases h
      cases k2 _ rfl
      exact hX1 _ _ hX
    · rw [if_neg c1] at h
      refine r_icmp_ge (tgt := 21) dX12_ringMany_5 (by decide) (fun q => absurd q c1) (fun _ => ?_)
      refine r_aload_n dX12_ringMany_8 rfl 0 rfl ?_
      refine r_getR (j := 23) (v := 75) dX12_ringMany_9 f_X12_69 rfl rfl rfl ?_
      refine r_iload_n dX12_ringMany_12 rfl 3 rfl ?_
      refine r_iconst dX12_ringMany_13 ?_
      obtain ⟨c2, h⟩ := of_ck h
      obtain ⟨M3, eM3, h⟩ := of_lt h
      refine r_iast dX12_ringMany_14 rfl c2 ?_
      rw [← eM3]
      refine r_iinc (lv2 := [(3, vI (x3 + 1)), (0, vR 55), (1, vI p1), (2, vI p2)]) dX12_ringMany_15 3 rfl (by decide) rfl ?_
      refine r_goto (tgt := 2) dX12_ringMany_18 (by decide) ?_
      refine r_sub (lv2 := [(0, vR 55), (1, vI p1), (2, vI p2), (3, vI (x3 + 1))]) [1, 2, 3, 0] rfl ?_
      cases h
      exact ih _ _  _ (k1 _ rfl) hX

set_option maxRecDepth 10000 in
theorem lp_X12_ringMany_L91 {G : Gx} (p1 : Int) (p2 : Int) (p3 : Int) (p4 : Int)   (X : (Int × Mem) → Prop) (hX1 : ∀ (x5 : Int) (M : Mem), X (x5, M) → Ex G 2 cX12_ringMany RX12 7 138 [(0, vR 55), (1, vI p1), (2, vI p2), (3, vI p3), (4, vI p4), (5, vI x5)] [] M) : ∀ (nn : Nat) (x5 : Int) (M : Mem) (out : Int × Mem), itr (fun s => m_X12_ringMany_L91 s.2 p1 p2 p3 p4 s.1) nn (x5, M) = some out → X out → Ex G 2 cX12_ringMany RX12 7 91 [(0, vR 55), (1, vI p1), (2, vI p2), (3, vI p3), (4, vI p4), (5, vI x5)] [] M := by
  intro nn
  induction nn with
  | zero =>
    intro x5 M out h _
    cases h
  | succ nn ih =>
    intro x5 M out h0 hX
    obtain ⟨w, h, k1, k2⟩ := itr_inv h0
    have h : m_X12_ringMany_L91 M p1 p2 p3 p4 x5 = some w := h
    unfold m_X12_ringMany_L91 at h
    refine r_aload_n dX12_ringMany_91 rfl 0 rfl ?_
    refine r_getR (j := 23) (v := 75) dX12_ringMany_92 f_X12_69 rfl rfl rfl ?_
    refine r_iload dX12_ringMany_95 5 rfl ?_
    obtain ⟨c13, h⟩ := of_ck h
    refine r_iald dX12_ringMany_97 rfl c13 ?_
    by_cases c14 : 0 ≤ wr (gI M 75 (wr x5))
    · rw [if_pos c14] at h
      refine r_if_ge (tgt := 138) dX12_ringMany_98 (by decide) (fun _ => ?_) (fun q => absurd c14 q)
      cases h
      cases k2 _ rfl
      exact hX1 _ _ hX
    · rw [if_neg c14] at h
      refine r_if_ge (tgt := 138) dX12_ringMany_98 (by decide) (fun q => absurd q c14) (fun _ => ?_)
      refine r_aload_n dX12_ringMany_101 rfl 0 rfl ?_
      refine r_getR (j := 23) (v := 75) dX12_ringMany_102 f_X12_69 rfl rfl rfl ?_
      refine r_iload dX12_ringMany_105 5 rfl ?_
      refine r_iload_n dX12_ringMany_107 rfl 3 rfl ?_
      obtain ⟨M15, eM15, h⟩ := of_lt h
      refine r_iast dX12_ringMany_108 rfl c13 ?_
      rw [← eM15]
      refine r_aload_n dX12_ringMany_109 rfl 0 rfl ?_
      refine r_iload_n dX12_ringMany_110 rfl 1 rfl ?_
      refine r_iload dX12_ringMany_111 5 rfl ?_
      obtain ⟨r17, hc16, h⟩ := of_bd1 h
      refine r_callVI (st := []) dX12_ringMany_113 v_X12_274 (run_X12_mateIn hc16) (by decide) (by decide) rfl rfl (Nat.le_of_ble_eq_true rfl) rfl ?_
      refine r_istore (lv2 := [(6, vI r17), (0, vR 55), (1, vI p1), (2, vI p2), (3, vI p3), (4, vI p4), (5, vI x5)]) dX12_ringMany_116 (by decide) rfl ?_
      refine r_aload_n dX12_ringMany_118 rfl 1 rfl ?_
      refine r_getR (j := 23) (v := 75) dX12_ringMany_119 f_X12_69 rfl rfl rfl ?_
      refine r_iload dX12_ringMany_122 0 rfl ?_
      refine r_iload_n dX12_ringMany_124 rfl 4 rfl ?_
      obtain ⟨c18, h⟩ := of_ck h
      obtain ⟨M19, eM19, h⟩ := of_lt h
      refine r_iast dX12_ringMany_125 rfl c18 ?_
      rw [← eM19]
      refine r_aload_n dX12_ringMany_126 rfl 1 rfl ?_
      refine r_iload_n dX12_ringMany_127 rfl 3 rfl ?_
      refine r_iload dX12_ringMany_128 0 rfl ?_
      obtain ⟨r21, hc20, h⟩ := of_bd1 h
      refine r_callVI (st := []) dX12_ringMany_130 v_X12_274 (run_X12_mateIn hc20) (by decide) (by decide) rfl rfl (Nat.le_of_ble_eq_true rfl) rfl ?_
      refine r_istore (lv2 := [(5, vI r21), (6, vI r17), (0, vR 55), (1, vI p1), (2, vI p2), (3, vI p3), (4, vI p4)]) dX12_ringMany_133 (by decide) rfl ?_
      refine r_goto (tgt := 91) dX12_ringMany_135 (by decide) ?_
      refine r_sub (lv2 := [(0, vR 55), (1, vI p1), (2, vI p2), (3, vI p3), (4, vI p4), (5, vI r21)]) [2, 3, 4, 5, 6, 0] rfl ?_
      cases h
      exact ih _ _  _ (k1 _ rfl) hX

set_option maxRecDepth 10000 in
theorem lp_X12_ringMany_L26 {G : Gx} (p1 : Int) (p2 : Int)   (X : (Int × Int × Mem) → Prop) (hX1 : ∀ (x3 : Int) (x4 : Int) (M : Mem), X (x3, x4, M) → Ex G 2 cX12_ringMany RX12 7 147 [(0, vR 55), (1, vI p1), (2, vI p2), (3, vI x3), (4, vI x4)] [] M) : ∀ (nn : Nat) (x3 : Int) (x4 : Int) (M : Mem) (out : Int × Int × Mem), itr (fun s => m_X12_ringMany_L26 s.2.2 p1 p2 s.1 s.2.1) nn (x3, x4, M) = some out → X out → Ex G 2 cX12_ringMany RX12 7 26 [(0, vR 55), (1, vI p1), (2, vI p2), (3, vI x3), (4, vI x4)] [] M := by
  intro nn
  induction nn with
  | zero =>
    intro x3 x4 M out h _
    cases h
  | succ nn ih =>
    intro x3 x4 M out h0 hX
    obtain ⟨w, h, k1, k2⟩ := itr_inv h0
    have h : m_X12_ringMany_L26 M p1 p2 x3 x4 = some w := h
    unfold m_X12_ringMany_L26 at h
    refine r_iload dX12_ringMany_26 4 rfl ?_
    refine r_aload_n dX12_ringMany_28 rfl 0 rfl ?_
    refine r_getI (j := 0) (jz := 0) dX12_ringMany_29 f_X12_88 rfl rfl rfl ?_
    refine r_aload_n dX12_ringMany_32 rfl 0 rfl ?_
    refine r_getI (j := 1) (jz := 1) dX12_ringMany_33 f_X12_92 rfl rfl rfl ?_
    refine r_imul dX12_ringMany_36 ?_
    by_cases c6 : wr ((gI M 55 0) * (gI M 55 1)) ≤ wr x4
    · rw [if_pos c6] at h
      refine r_icmp_ge (tgt := 147) dX12_ringMany_37 (by decide) (fun _ => ?_) (fun q => absurd c6 q)
      cases h
      cases k2 _ rfl
      exact hX1 _ _ _ hX
    · rw [if_neg c6] at h
      refine r_icmp_ge (tgt := 147) dX12_ringMany_37 (by decide) (fun q => absurd q c6) (fun _ => ?_)
      refine r_aload_n dX12_ringMany_40 rfl 0 rfl ?_
      refine r_getR (j := 2) (v := 56) dX12_ringMany_41 f_X12_7 rfl rfl rfl ?_
      refine r_iload dX12_ringMany_44 4 rfl ?_
      obtain ⟨c7, h⟩ := of_ck h
      refine r_zald dX12_ringMany_46 rfl c7 ?_
      obtain ⟨v24, M25, h9, h⟩ := of_bd2 h
      have kJ : Ex G 2 cX12_ringMany RX12 7 141 [(0, vR 55), (1, vI p1), (2, vI p2), (3, vI v24), (4, vI x4)] [] M25 := by
        refine r_iinc (lv2 := [(4, vI (x4 + 1)), (0, vR 55), (1, vI p1), (2, vI p2), (3, vI v24)]) dX12_ringMany_141 4 rfl (by decide) rfl ?_
        refine r_goto (tgt := 26) dX12_ringMany_144 (by decide) ?_
        refine r_sub (lv2 := [(0, vR 55), (1, vI p1), (2, vI p2), (3, vI v24), (4, vI (x4 + 1))]) [1, 2, 3, 4, 0] rfl ?_
        cases h
        exact ih _ _ _  _ (k1 _ rfl) hX
      clear h
      have h := h9
      clear h9
      by_cases c8 : wr (gI M 56 (wr x4)) = 0
      · rw [if_pos c8] at h
        refine r_if_eq (tgt := 141) dX12_ringMany_47 (by decide) (fun _ => ?_) (fun q => absurd c8 q)
        cases h
        exact kJ
      · rw [if_neg c8] at h
        refine r_if_eq (tgt := 141) dX12_ringMany_47 (by decide) (fun q => absurd q c8) (fun _ => ?_)
        refine r_aload_n dX12_ringMany_50 rfl 0 rfl ?_
        refine r_getR (j := 23) (v := 75) dX12_ringMany_51 f_X12_69 rfl rfl rfl ?_
        refine r_iload dX12_ringMany_54 4 rfl ?_
        refine r_iald dX12_ringMany_56 rfl c7 ?_
        by_cases c9 : 0 ≤ wr (gI M 75 (wr x4))
        · rw [if_pos c9] at h
          refine r_if_ge (tgt := 141) dX12_ringMany_57 (by decide) (fun _ => ?_) (fun q => absurd c9 q)
          cases h
          exact kJ
        · rw [if_neg c9] at h
          refine r_if_ge (tgt := 141) dX12_ringMany_57 (by decide) (fun q => absurd q c9) (fun _ => ?_)
          refine r_aload_n dX12_ringMany_60 rfl 0 rfl ?_
          refine r_getR (j := 6) (v := 60) dX12_ringMany_61 f_X12_23 rfl rfl rfl ?_
          refine r_bipush dX12_ringMany_64 (by decide) ?_
          refine r_iload_n dX12_ringMany_66 rfl 1 rfl ?_
          refine r_imul dX12_ringMany_67 ?_
          refine r_iload dX12_ringMany_68 4 rfl ?_
          refine r_iadd dX12_ringMany_70 ?_
          obtain ⟨c10, h⟩ := of_ck h
          refine r_iald dX12_ringMany_71 rfl c10 ?_
          refine r_aload_n dX12_ringMany_72 rfl 0 rfl ?_
          refine r_getR (j := 6) (v := 60) dX12_ringMany_73 f_X12_23 rfl rfl rfl ?_
          refine r_bipush dX12_ringMany_76 (by decide) ?_
          refine r_iload_n dX12_ringMany_78 rfl 2 rfl ?_
          refine r_imul dX12_ringMany_79 ?_
          refine r_iload dX12_ringMany_80 4 rfl ?_
          refine r_iadd dX12_ringMany_82 ?_
          obtain ⟨c11, h⟩ := of_ck h
          refine r_iald dX12_ringMany_83 rfl c11 ?_
          by_cases c12 : wr (gI M 60 (wr ((64 * p1) + x4))) = wr (gI M 60 (wr ((64 * p2) + x4)))
          · rw [if_pos c12] at h
            refine r_icmp_eq (tgt := 141) dX12_ringMany_84 (by decide) (fun _ => ?_) (fun q => absurd c12 q)
            cases h
            exact kJ
          · rw [if_neg c12] at h
            refine r_icmp_eq (tgt := 141) dX12_ringMany_84 (by decide) (fun q => absurd q c12) (fun _ => ?_)
            refine r_iload dX12_ringMany_87 4 rfl ?_
            refine r_istore (lv2 := [(5, vI x4), (0, vR 55), (1, vI p1), (2, vI p2), (3, vI x3), (4, vI x4)]) dX12_ringMany_89 (by decide) rfl ?_
            obtain ⟨y22, M23, h9, h⟩ := of_bd2 h
            refine r_sub (lv2 := [(0, vR 55), (1, vI p1), (2, vI p2), (3, vI x3), (4, vI x4), (5, vI x4)]) [1, 2, 3, 4, 5, 0] rfl ?_
            refine lp_X12_ringMany_L91 p1 p2 x3 x4  (fun w => w = (y22, M23)) ?_ FU x4 M _ h9 rfl
            intro z0 z1 hw
            cases hw
            refine r_iinc (lv2 := [(3, vI (x3 + 1)), (0, vR 55), (1, vI p1), (2, vI p2), (4, vI x4), (5, vI y22)]) dX12_ringMany_138 3 rfl (by decide) rfl ?_
            refine r_sub (lv2 := [(0, vR 55), (1, vI p1), (2, vI p2), (3, vI (x3 + 1)), (4, vI x4)]) [1, 2, 3, 0, 4] rfl ?_
            cases h
            exact kJ

set_option maxRecDepth 10000 in
theorem run_X12_ringMany {M : Mem} {M2 : Mem} {a1 : Int} {a2 : Int} {r : Int}   (h : m_X12_ringMany M a1 a2 = some (r, M2)) : RunI 2 yX12_ringMany cX12_ringMany 7 (some .int) [vR 55, vI a1, vI a2] M r M2 := by
  refine runI_of (lv := [(0, vR 55), (1, vI a1), (2, vI a2)]) (by decide +kernel) (Or.inl rfl) (Nat.le_of_ble_eq_true rfl) rfl ?_
  intro G hQ
  unfold m_X12_ringMany at h
  refine r_iconst dX12_ringMany_0 ?_
  refine r_istore_n (lv2 := [(3, vI 0), (0, vR 55), (1, vI a1), (2, vI a2)]) dX12_ringMany_1 rfl (by decide) rfl ?_
  obtain ⟨y4, M5, h9, h⟩ := of_bd2 h
  refine r_sub (lv2 := [(0, vR 55), (1, vI a1), (2, vI a2), (3, vI 0)]) [1, 2, 3, 0] rfl ?_
  refine lp_X12_ringMany_L2 a1 a2  (fun w => w = (y4, M5)) ?_ FU 0 M _ h9 rfl
  intro z0 z1 hw
  cases hw
  refine r_iconst dX12_ringMany_21 ?_
  refine r_istore_n (lv2 := [(3, vI 0), (0, vR 55), (1, vI a1), (2, vI a2)]) dX12_ringMany_22 rfl (by decide) rfl ?_
  refine r_iconst dX12_ringMany_23 ?_
  refine r_istore (lv2 := [(4, vI 0), (3, vI 0), (0, vR 55), (1, vI a1), (2, vI a2)]) dX12_ringMany_24 (by decide) rfl ?_
  obtain ⟨y26, y27, M28, h9, h⟩ := of_bd3 h
  refine r_sub (lv2 := [(0, vR 55), (1, vI a1), (2, vI a2), (3, vI 0), (4, vI 0)]) [2, 3, 4, 1, 0] rfl ?_
  refine lp_X12_ringMany_L26 a1 a2  (fun w => w = (y26, y27, M28)) ?_ FU 0 0 M5 _ h9 rfl
  intro z0 z1 z2 hw
  cases hw
  refine r_iload_n dX12_ringMany_147 rfl 3 rfl ?_
  cases h
  exact hQ _ _ dX12_ringMany_148

