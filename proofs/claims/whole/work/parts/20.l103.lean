def m_X5_touchesByCorner_L12 (M : Mem) (p2 : Int) (x3 : Int) : Option ((Int) ⊕ ((Int) ⊕ (Bool))) :=
  if wr (gI M 1 0) ≤ wr x3 then
    some (.inr (.inl (x3)))
  else
    bd1 (m_X10_openAt M (x3 - 1) (p2 - 1)) fun r4 =>
    lt (if wr r4 < 0 then 0 else 1) fun (v6 : Int) =>
    bd1 (m_X10_openAt M x3 (p2 - 1)) fun r8 =>
    lt (if wr r8 < 0 then 0 else 1) fun (v10 : Int) =>
    bd1 (m_X10_openAt M (x3 - 1) p2) fun r12 =>
    lt (if wr r12 < 0 then 0 else 1) fun (v14 : Int) =>
    bd1 (m_X10_openAt M x3 p2) fun r16 =>
    lt (if wr r16 < 0 then 0 else 1) fun (v18 : Int) =>
    if wr v6 = wr v18 then
      if wr v10 = wr v14 then
        if wr v6 = wr v10 then
          some (.inl ((x3 + 1)))
        else
          some (.inr (.inr true))
      else
        some (.inl ((x3 + 1)))
    else
      some (.inl ((x3 + 1)))
def m_X5_touchesByCorner_L2 (M : Mem)  (x2 : Int) : Option ((Int) ⊕ ((Int) ⊕ (Bool))) :=
  if wr (gI M 1 1) ≤ wr x2 then
    some (.inr (.inl (x2)))
  else
    be1l (itr (fun s => m_X5_touchesByCorner_L12 M x2 s) FU (1)) (fun y22 =>
    some (.inl ((x2 + 1))))
def m_X5_touchesByCorner (M : Mem) : Option (Bool) :=
  be1 (itr (fun s => m_X5_touchesByCorner_L2 M  s) FU (1)) (fun y23 =>
  some false)
set_option maxRecDepth 10000 in
theorem lp_X5_touchesByCorner_L12 {G : Gx} (M : Mem) (p2 : Int)   (X : ((Int) ⊕ (Bool)) → Prop) (hX1 : ∀ (x3 : Int), X (.inl (x3)) → Ex G 1 cX5_touchesByCorner RX5 8 121 [(1, vR 1), (2, vI p2), (3, vI x3)] [] M) (hX2 : ∀ (r : Bool), X (.inr r) → RetI G 1 cX5_touchesByCorner RX5 8 (bI r) M) : ∀ (nn : Nat) (x3 : Int) (out : (Int) ⊕ (Bool)), itr (fun s => m_X5_touchesByCorner_L12 M p2 s) nn (x3) = some out → X out → Ex G 1 cX5_touchesByCorner RX5 8 12 [(1, vR 1), (2, vI p2), (3, vI x3)] [] M := by
  intro nn
  induction nn with
  | zero =>
    intro x3 out h _
    cases h
  | succ nn ih =>
    intro x3 out h0 hX
    obtain ⟨w, h, k1, k2⟩ := itr_inv h0
    have h : m_X5_touchesByCorner_L12 M p2 x3 = some w := h
    unfold m_X5_touchesByCorner_L12 at h
    refine r_iload_n dX5_touchesByCorner_12 rfl 2 rfl ?_
    refine r_aload_n dX5_touchesByCorner_13 rfl 0 rfl ?_
    refine r_getI (j := 0) (jz := 0) dX5_touchesByCorner_14 f_X5_64 rfl rfl rfl ?_
    by_cases c2 : wr (gI M 1 0) ≤ wr x3
    · rw [if_pos c2] at h
      refine r_icmp_ge (tgt := 121) dX5_touchesByCorner_17 (by decide) (fun _ => ?_) (fun q => absurd c2 q)
      cases h
      cases k2 _ rfl
      exact hX1 _ hX
    · rw [if_neg c2] at h
      refine r_icmp_ge (tgt := 121) dX5_touchesByCorner_17 (by decide) (fun q => absurd q c2) (fun _ => ?_)
      refine r_aload_n dX5_touchesByCorner_20 rfl 0 rfl ?_
      refine r_iload_n dX5_touchesByCorner_21 rfl 2 rfl ?_
      refine r_iconst dX5_touchesByCorner_22 ?_
      refine r_isub dX5_touchesByCorner_23 ?_
      refine r_iload_n dX5_touchesByCorner_24 rfl 1 rfl ?_
      refine r_iconst dX5_touchesByCorner_25 ?_
      refine r_isub dX5_touchesByCorner_26 ?_
      obtain ⟨r4, hc3, h⟩ := of_bd1 h
      refine r_callVI (st := []) dX5_touchesByCorner_27 v_X5_70 (run_X10_openAt hc3) (by decide) (by decide) rfl rfl (Nat.le_of_ble_eq_true rfl) rfl ?_
      obtain ⟨v6, ev6, h⟩ := of_lt h
      have kJ : Ex G 1 cX5_touchesByCorner RX5 8 38 [(1, vR 1), (2, vI p2), (3, vI x3)] [vI v6] M := by
        refine r_istore (lv2 := [(4, vI v6), (1, vR 1), (2, vI p2), (3, vI x3)]) dX5_touchesByCorner_38 (by decide) rfl ?_
        refine r_aload_n dX5_touchesByCorner_40 rfl 1 rfl ?_
        refine r_iload_n dX5_touchesByCorner_41 rfl 3 rfl ?_
        refine r_iload_n dX5_touchesByCorner_42 rfl 2 rfl ?_
        refine r_iconst dX5_touchesByCorner_43 ?_
        refine r_isub dX5_touchesByCorner_44 ?_
        obtain ⟨r8, hc7, h⟩ := of_bd1 h
        refine r_callVI (st := []) dX5_touchesByCorner_45 v_X5_70 (run_X10_openAt hc7) (by decide) (by decide) rfl rfl (Nat.le_of_ble_eq_true rfl) rfl ?_
        obtain ⟨v10, ev10, h⟩ := of_lt h
        have kJ : Ex G 1 cX5_touchesByCorner RX5 8 56 [(1, vR 1), (2, vI p2), (3, vI x3), (4, vI v6)] [vI v10] M := by
          refine r_istore (lv2 := [(5, vI v10), (1, vR 1), (2, vI p2), (3, vI x3), (4, vI v6)]) dX5_touchesByCorner_56 (by decide) rfl ?_
          refine r_aload_n dX5_touchesByCorner_58 rfl 1 rfl ?_
          refine r_iload_n dX5_touchesByCorner_59 rfl 3 rfl ?_
          refine r_iconst dX5_touchesByCorner_60 ?_
          refine r_isub dX5_touchesByCorner_61 ?_
          refine r_iload_n dX5_touchesByCorner_62 rfl 2 rfl ?_
          obtain ⟨r12, hc11, h⟩ := of_bd1 h
          refine r_callVI (st := []) dX5_touchesByCorner_63 v_X5_70 (run_X10_openAt hc11) (by decide) (by decide) rfl rfl (Nat.le_of_ble_eq_true rfl) rfl ?_
          obtain ⟨v14, ev14, h⟩ := of_lt h
          have kJ : Ex G 1 cX5_touchesByCorner RX5 8 74 [(1, vR 1), (2, vI p2), (3, vI x3), (4, vI v6), (5, vI v10)] [vI v14] M := by
            refine r_istore (lv2 := [(6, vI v14), (1, vR 1), (2, vI p2), (3, vI x3), (4, vI v6), (5, vI v10)]) dX5_touchesByCorner_74 (by decide) rfl ?_
            refine r_aload_n dX5_touchesByCorner_76 rfl 1 rfl ?_
            refine r_iload_n dX5_touchesByCorner_77 rfl 3 rfl ?_
            refine r_iload_n dX5_touchesByCorner_78 rfl 2 rfl ?_
            obtain ⟨r16, hc15, h⟩ := of_bd1 h
            refine r_callVI (st := []) dX5_touchesByCorner_79 v_X5_70 (run_X10_openAt hc15) (by decide) (by decide) rfl rfl (Nat.le_of_ble_eq_true rfl) rfl ?_
            obtain ⟨v18, ev18, h⟩ := of_lt h
            have kJ : Ex G 1 cX5_touchesByCorner RX5 8 90 [(1, vR 1), (2, vI p2), (3, vI x3), (4, vI v6), (5, vI v10), (6, vI v14)] [vI v18] M := by
              refine r_istore (lv2 := [(7, vI v18), (1, vR 1), (2, vI p2), (3, vI x3), (4, vI v6), (5, vI v10), (6, vI v14)]) dX5_touchesByCorner_90 (by decide) rfl ?_
              refine r_iload dX5_touchesByCorner_92 4 rfl ?_
              refine r_iload dX5_touchesByCorner_94 0 rfl ?_
              by_cases c19 : wr v6 = wr v18
              · rw [if_pos c19] at h
                refine r_icmp_ne (tgt := 115) dX5_touchesByCorner_96 (by decide) (fun q => absurd c19 q) (fun _ => ?_)
                refine r_iload dX5_touchesByCorner_99 5 rfl ?_
                refine r_iload dX5_touchesByCorner_101 6 rfl ?_
                by_cases c20 : wr v10 = wr v14
                · rw [if_pos c20] at h
                  refine r_icmp_ne (tgt := 115) dX5_touchesByCorner_103 (by decide) (fun q => absurd c20 q) (fun _ => ?_)
                  refine r_iload dX5_touchesByCorner_106 4 rfl ?_
                  refine r_iload dX5_touchesByCorner_108 5 rfl ?_
                  by_cases c21 : wr v6 = wr v10
                  · rw [if_pos c21] at h
                    refine r_icmp_eq (tgt := 115) dX5_touchesByCorner_110 (by decide) (fun _ => ?_) (fun q => absurd c21 q)
                    refine r_iinc (lv2 := [(3, vI (x3 + 1)), (7, vI v18), (1, vR 1), (2, vI p2), (4, vI v6), (5, vI v10), (6, vI v14)]) dX5_touchesByCorner_115 3 rfl (by decide) rfl ?_
                    refine r_goto (tgt := 12) dX5_touchesByCorner_118 (by decide) ?_
                    refine r_sub (lv2 := [(1, vR 1), (2, vI p2), (3, vI (x3 + 1))]) [2, 3, 0] rfl ?_
                    cases h
                    exact ih _  _ (k1 _ rfl) hX
                  · rw [if_neg c21] at h
                    refine r_icmp_eq (tgt := 115) dX5_touchesByCorner_110 (by decide) (fun q => absurd q c21) (fun _ => ?_)
                    refine r_iconst dX5_touchesByCorner_113 ?_
                    cases h
                    cases k2 _ rfl
                    exact hX2 _ hX _ _ dX5_touchesByCorner_114
                · rw [if_neg c20] at h
                  refine r_icmp_ne (tgt := 115) dX5_touchesByCorner_103 (by decide) (fun _ => ?_) (fun q => absurd q c20)
                  refine r_iinc (lv2 := [(3, vI (x3 + 1)), (7, vI v18), (1, vR 1), (2, vI p2), (4, vI v6), (5, vI v10), (6, vI v14)]) dX5_touchesByCorner_115 3 rfl (by decide) rfl ?_
                  refine r_goto (tgt := 12) dX5_touchesByCorner_118 (by decide) ?_
                  refine r_sub (lv2 := [(1, vR 1), (2, vI p2), (3, vI (x3 + 1))]) [2, 3, 0] rfl ?_
                  cases h
                  exact ih _  _ (k1 _ rfl) hX
              · rw [if_neg c19] at h
                refine r_icmp_ne (tgt := 115) dX5_touchesByCorner_96 (by decide) (fun _ => ?_) (fun q => absurd q c19)
                refine r_iinc (lv2 := [(3, vI (x3 + 1)), (7, vI v18), (1, vR 1), (2, vI p2), (4, vI v6), (5, vI v10), (6, vI v14)]) dX5_touchesByCorner_115 3 rfl (by decide) rfl ?_
                refine r_goto (tgt := 12) dX5_touchesByCorner_118 (by decide) ?_
                refine r_sub (lv2 := [(1, vR 1), (2, vI p2), (3, vI (x3 + 1))]) [2, 3, 0] rfl ?_
                cases h
                exact ih _  _ (k1 _ rfl) hX
            clear h
            by_cases c17 : wr r16 < 0
            · skip
              refine r_if_lt (tgt := 89) dX5_touchesByCorner_82 (by decide) (fun _ => ?_) (fun q => absurd c17 q)
              refine r_iconst dX5_touchesByCorner_89 ?_
              rw [show v18 = 0 from by rw [ev18, if_pos c17]] at kJ
              refine r_sub (lv2 := [(1, vR 1), (2, vI p2), (3, vI x3), (4, vI v6), (5, vI v10), (6, vI v14)]) [1, 2, 3, 4, 5, 0] rfl ?_
              exact kJ
            · skip
              refine r_if_lt (tgt := 89) dX5_touchesByCorner_82 (by decide) (fun q => absurd q c17) (fun _ => ?_)
              refine r_iconst dX5_touchesByCorner_85 ?_
              refine r_goto (tgt := 90) dX5_touchesByCorner_86 (by decide) ?_
              rw [show v18 = 1 from by rw [ev18, if_neg c17]] at kJ
              refine r_sub (lv2 := [(1, vR 1), (2, vI p2), (3, vI x3), (4, vI v6), (5, vI v10), (6, vI v14)]) [1, 2, 3, 4, 5, 0] rfl ?_
              exact kJ
          clear h
          by_cases c13 : wr r12 < 0
          · skip
            refine r_if_lt (tgt := 73) dX5_touchesByCorner_66 (by decide) (fun _ => ?_) (fun q => absurd c13 q)
            refine r_iconst dX5_touchesByCorner_73 ?_
            rw [show v14 = 0 from by rw [ev14, if_pos c13]] at kJ
            refine r_sub (lv2 := [(1, vR 1), (2, vI p2), (3, vI x3), (4, vI v6), (5, vI v10)]) [1, 2, 3, 4, 0] rfl ?_
            exact kJ
          · skip
            refine r_if_lt (tgt := 73) dX5_touchesByCorner_66 (by decide) (fun q => absurd q c13) (fun _ => ?_)
            refine r_iconst dX5_touchesByCorner_69 ?_
            refine r_goto (tgt := 74) dX5_touchesByCorner_70 (by decide) ?_
            rw [show v14 = 1 from by rw [ev14, if_neg c13]] at kJ
            refine r_sub (lv2 := [(1, vR 1), (2, vI p2), (3, vI x3), (4, vI v6), (5, vI v10)]) [1, 2, 3, 4, 0] rfl ?_
            exact kJ
        clear h
        by_cases c9 : wr r8 < 0
        · skip
          refine r_if_lt (tgt := 55) dX5_touchesByCorner_48 (by decide) (fun _ => ?_) (fun q => absurd c9 q)
          refine r_iconst dX5_touchesByCorner_55 ?_
          rw [show v10 = 0 from by rw [ev10, if_pos c9]] at kJ
          refine r_sub (lv2 := [(1, vR 1), (2, vI p2), (3, vI x3), (4, vI v6)]) [1, 2, 3, 0] rfl ?_
          exact kJ
        · skip
          refine r_if_lt (tgt := 55) dX5_touchesByCorner_48 (by decide) (fun q => absurd q c9) (fun _ => ?_)
          refine r_iconst dX5_touchesByCorner_51 ?_
          refine r_goto (tgt := 56) dX5_touchesByCorner_52 (by decide) ?_
          rw [show v10 = 1 from by rw [ev10, if_neg c9]] at kJ
          refine r_sub (lv2 := [(1, vR 1), (2, vI p2), (3, vI x3), (4, vI v6)]) [1, 2, 3, 0] rfl ?_
          exact kJ
      clear h
      by_cases c5 : wr r4 < 0
      · skip
        refine r_if_lt (tgt := 37) dX5_touchesByCorner_30 (by decide) (fun _ => ?_) (fun q => absurd c5 q)
        refine r_iconst dX5_touchesByCorner_37 ?_
        rw [show v6 = 0 from by rw [ev6, if_pos c5]] at kJ
        exact kJ
      · skip
        refine r_if_lt (tgt := 37) dX5_touchesByCorner_30 (by decide) (fun q => absurd q c5) (fun _ => ?_)
        refine r_iconst dX5_touchesByCorner_33 ?_
        refine r_goto (tgt := 38) dX5_touchesByCorner_34 (by decide) ?_
        rw [show v6 = 1 from by rw [ev6, if_neg c5]] at kJ
        exact kJ

set_option maxRecDepth 10000 in
theorem lp_X5_touchesByCorner_L2 {G : Gx} (M : Mem)    (X : ((Int) ⊕ (Bool)) → Prop) (hX1 : ∀ (x2 : Int), X (.inl (x2)) → Ex G 1 cX5_touchesByCorner RX5 8 127 [(1, vR 1), (2, vI x2)] [] M) (hX2 : ∀ (r : Bool), X (.inr r) → RetI G 1 cX5_touchesByCorner RX5 8 (bI r) M) : ∀ (nn : Nat) (x2 : Int) (out : (Int) ⊕ (Bool)), itr (fun s => m_X5_touchesByCorner_L2 M  s) nn (x2) = some out → X out → Ex G 1 cX5_touchesByCorner RX5 8 2 [(1, vR 1), (2, vI x2)] [] M := by
  intro nn
  induction nn with
  | zero =>
    intro x2 out h _
    cases h
  | succ nn ih =>
    intro x2 out h0 hX
    obtain ⟨w, h, k1, k2⟩ := itr_inv h0
    have h : m_X5_touchesByCorner_L2 M  x2 = some w := h
    unfold m_X5_touchesByCorner_L2 at h
    refine r_iload_n dX5_touchesByCorner_2 rfl 1 rfl ?_
    refine r_aload_n dX5_touchesByCorner_3 rfl 0 rfl ?_
    refine r_getI (j := 1) (jz := 1) dX5_touchesByCorner_4 f_X5_67 rfl rfl rfl ?_
    by_cases c1 : wr (gI M 1 1) ≤ wr x2
    · rw [if_pos c1] at h
      refine r_icmp_ge (tgt := 127) dX5_touchesByCorner_7 (by decide) (fun _ => ?_) (fun q => absurd c1 q)
      cases h
      cases k2 _ rfl
      exact hX1 _ hX
    · rw [if_neg c1] at h
      refine r_icmp_ge (tgt := 127) dX5_touchesByCorner_7 (by decide) (fun q => absurd q c1) (fun _ => ?_)
      refine r_iconst dX5_touchesByCorner_10 ?_
      refine r_istore_n (lv2 := [(3, vI 1), (1, vR 1), (2, vI x2)]) dX5_touchesByCorner_11 rfl (by decide) rfl ?_
      obtain ⟨w9, h9, h⟩ := of_be1l h
      refine r_sub (lv2 := [(1, vR 1), (2, vI x2), (3, vI 1)]) [1, 2, 0] rfl ?_
      refine lp_X5_touchesByCorner_L12 M x2  (fun w => w = w9) ?_ ?_ FU 1 w9 h9 rfl
      · intro y22 hw
        subst hw
        have h := h.1 _  rfl
        refine r_iinc (lv2 := [(2, vI (x2 + 1)), (1, vR 1), (3, vI y22)]) dX5_touchesByCorner_121 1 rfl (by decide) rfl ?_
        refine r_goto (tgt := 2) dX5_touchesByCorner_124 (by decide) ?_
        refine r_sub (lv2 := [(1, vR 1), (2, vI (x2 + 1))]) [1, 0] rfl ?_
        cases h
        exact ih _  _ (k1 _ rfl) hX
      · intro r9 hw
        subst hw
        have h := h.2 _ rfl
        cases h
        cases k2 _ rfl
        exact hX2 _ hX

set_option maxRecDepth 10000 in
theorem run_X5_touchesByCorner {M : Mem} {r : Bool}   (h : m_X5_touchesByCorner M = some r) : RunI 1 yX5_touchesByCorner cX5_touchesByCorner 8 (some .boolean) [vR 24, vR 1] M (bI r) M := by
  refine runI_of (lv := [(0, vR 24), (1, vR 1)]) (by decide +kernel) (Or.inr ⟨rfl, bI_01 r⟩) (Nat.le_of_ble_eq_true rfl) rfl ?_
  intro G hQ
  unfold m_X5_touchesByCorner at h
  refine r_iconst dX5_touchesByCorner_0 ?_
  refine r_istore_n (lv2 := [(2, vI 1), (0, vR 24), (1, vR 1)]) dX5_touchesByCorner_1 rfl (by decide) rfl ?_
  obtain ⟨w9, h9, h⟩ := of_be1 h
  refine r_sub (lv2 := [(1, vR 1), (2, vI 1)]) [2, 0] rfl ?_
  refine lp_X5_touchesByCorner_L2 M   (fun w => w = w9) ?_ ?_ FU 1 w9 h9 rfl
  · intro y23 hw
    subst hw
    have h := h.1 _  rfl
    refine r_iconst dX5_touchesByCorner_127 ?_
    cases h
    exact hQ _ _ dX5_touchesByCorner_128
  · intro r9 hw
    subst hw
    have h := h.2 _ rfl
    cases h
    exact hQ

def m_X5_isWhole (M : Mem) : Option (Bool × Mem) :=
  bd2 (m_X5_openIsOne M) fun b2 M3 =>
  bd2 (
    if wr (bI b2) = 0 then
      some (0, M3)
    else
      bd2 (m_X5_closedIsOne M3) fun b6 M7 =>
      if wr (bI b6) = 0 then
        some (0, M7)
      else
        bd1 (m_X5_touchesByCorner M7) fun b10 =>
        if wr (bI b10) = 0 then
          some (1, M7)
        else
          some (0, M7)) fun (v12 : Int) (M13 : Mem) =>
  if v12 = 0 ∨ v12 = 1 then some ((decide (v12 = 1)), M13) else none
set_option maxRecDepth 10000 in
theorem run_X5_isWhole {M : Mem} {M2 : Mem} {r : Bool}   (h : m_X5_isWhole M = some (r, M2)) : RunI 3 yX5_isWhole cX5_isWhole 2 (some .boolean) [vR 24, vR 1] M (bI r) M2 := by
  refine runI_of (lv := [(0, vR 24), (1, vR 1)]) (by decide +kernel) (Or.inr ⟨rfl, bI_01 r⟩) (Nat.le_of_ble_eq_true rfl) rfl ?_
  intro G hQ
  unfold m_X5_isWhole at h
  refine r_aload_n dX5_isWhole_0 rfl 0 rfl ?_
  refine r_aload_n dX5_isWhole_1 rfl 1 rfl ?_
  obtain ⟨b2, M3, hc1, h⟩ := of_bd2 h
  refine r_callVI (st := []) dX5_isWhole_2 v_X5_18 (run_X5_openIsOne hc1) (by decide) (by decide) rfl rfl (Nat.le_of_ble_eq_true rfl) rfl ?_
  obtain ⟨v12, M13, h9, h⟩ := of_bd2 h
  have kJ : Ex G 3 cX5_isWhole RX5 2 29 [] [vI v12] M13 := by
    obtain ⟨cz, h⟩ := of_ck h
    rw [← bI_dec cz]
    cases h
    exact hQ _ _ dX5_isWhole_29
  clear h
  have h := h9
  clear h9
  by_cases c4 : wr (bI b2) = 0
  · rw [if_pos c4] at h
    refine r_if_eq (tgt := 28) dX5_isWhole_5 (by decide) (fun _ => ?_) (fun q => absurd c4 q)
    refine r_iconst dX5_isWhole_28 ?_
    refine r_sub (lv2 := []) [] rfl ?_
    cases h
    exact kJ
  · rw [if_neg c4] at h
    refine r_if_eq (tgt := 28) dX5_isWhole_5 (by decide) (fun q => absurd q c4) (fun _ => ?_)
    refine r_aload_n dX5_isWhole_8 rfl 0 rfl ?_
    refine r_aload_n dX5_isWhole_9 rfl 1 rfl ?_
    obtain ⟨b6, M7, hc5, h⟩ := of_bd2 h
    refine r_callVI (st := []) dX5_isWhole_10 v_X5_22 (run_X5_closedIsOne hc5) (by decide) (by decide) rfl rfl (Nat.le_of_ble_eq_true rfl) rfl ?_
    by_cases c8 : wr (bI b6) = 0
    · rw [if_pos c8] at h
      refine r_if_eq (tgt := 28) dX5_isWhole_13 (by decide) (fun _ => ?_) (fun q => absurd c8 q)
      refine r_iconst dX5_isWhole_28 ?_
      refine r_sub (lv2 := []) [] rfl ?_
      cases h
      exact kJ
    · rw [if_neg c8] at h
      refine r_if_eq (tgt := 28) dX5_isWhole_13 (by decide) (fun q => absurd q c8) (fun _ => ?_)
      refine r_aload_n dX5_isWhole_16 rfl 0 rfl ?_
      refine r_aload_n dX5_isWhole_17 rfl 1 rfl ?_
      obtain ⟨b10, hc9, h⟩ := of_bd1 h
      refine r_callVI (st := []) dX5_isWhole_18 v_X5_25 (run_X5_touchesByCorner hc9) (by decide) (by decide) rfl rfl (Nat.le_of_ble_eq_true rfl) rfl ?_
      by_cases c11 : wr (bI b10) = 0
      · rw [if_pos c11] at h
        refine r_if_ne (tgt := 28) dX5_isWhole_21 (by decide) (fun q => absurd c11 q) (fun _ => ?_)
        refine r_iconst dX5_isWhole_24 ?_
        refine r_goto (tgt := 29) dX5_isWhole_25 (by decide) ?_
        refine r_sub (lv2 := []) [] rfl ?_
        cases h
        exact kJ
      · rw [if_neg c11] at h
        refine r_if_ne (tgt := 28) dX5_isWhole_21 (by decide) (fun _ => ?_) (fun q => absurd q c11)
        refine r_iconst dX5_isWhole_28 ?_
        refine r_sub (lv2 := []) [] rfl ?_
        cases h
        exact kJ

def m_X6_start (M : Mem) (a0 : Nat) (a1 : Int) (a2 : Int) : Option (Mem) :=
  lt (sI M a0 0 1) fun M1 =>
  lt (sI M1 a0 1 a1) fun M2 =>
  lt (sI M2 a0 2 a2) fun M3 =>
  bd1 (m_J7_fill_53178 M3 (a0 + 1) 0) fun M5 =>
  some M5
set_option maxRecDepth 10000 in
theorem run_X6_start {M : Mem} {M2 : Mem} {a0 : Nat} {a1 : Int} {a2 : Int}  (ha0 : (ly a0).1 = 11) (h : m_X6_start M a0 a1 a2 = some (M2)) : RunV 1 yX6_start cX6_start 3 none [vR a0, vI a1, vI a2] M M2 := by
  refine runV_of (lv := [(0, vR a0), (1, vI a1), (2, vI a2)]) (by decide +kernel) rfl (Nat.le_of_ble_eq_true rfl) rfl ?_
  intro G hQ
  unfold m_X6_start at h
  refine r_aload_n dX6_start_0 rfl 0 rfl ?_
  refine r_iconst dX6_start_1 ?_
  obtain ⟨M1, eM1, h⟩ := of_lt h
  refine r_putI (j := 0) (jz := 0) dX6_start_2 p_X6_15 ha0 rfl rfl rfl rfl ?_
  rw [← eM1]
  refine r_aload_n dX6_start_5 rfl 0 rfl ?_
  refine r_iload_n dX6_start_6 rfl 1 rfl ?_
  obtain ⟨M2, eM2, h⟩ := of_lt h
  refine r_putI (j := 1) (jz := 1) dX6_start_7 p_X6_19 ha0 rfl rfl rfl rfl ?_
  rw [← eM2]
  refine r_aload_n dX6_start_10 rfl 0 rfl ?_
  refine r_iload_n dX6_start_11 rfl 2 rfl ?_
  obtain ⟨M3, eM3, h⟩ := of_lt h
  refine r_putI (j := 2) (jz := 2) dX6_start_12 p_X6_23 ha0 rfl rfl rfl rfl ?_
  rw [← eM3]
  refine r_aload_n dX6_start_15 rfl 0 rfl ?_
  refine r_getR (j := 3) (v := (a0 + 1)) dX6_start_16 f_X6_9 ha0 rfl (she_it ha0).1 ?_
  refine r_iconst dX6_start_19 ?_
  obtain ⟨M5, hc4, h⟩ := of_bd1 h
  refine r_callSV (st := []) dX6_start_20 v_X6_26 (run_J7_fill_53178 (congrArg Prod.fst (she_it (M := M3) ha0).2) hc4) (by decide) (by decide) rfl (Nat.le_of_ble_eq_true rfl) rfl ?_
  cases h
  exact hQ _ _ dX6_start_23

def m_X6_put (M : Mem) (a0 : Nat) (a1 : Int) (a2 : Int) : Option (Mem) :=
  bd1 (
    if wr (gI M a0 1) = 0 then
      lt (if wr a2 = 0 then 0 else 1) fun (v7 : Int) =>
      if 0 ≤ wr a1 ∧ wr a1 < 64 then
      lt (sI M (a0 + 1) (wr a1) (m_X11_bit v7)) fun M9 =>
      some (M9)
      else none
    else
      lt (if wr (gI M a0 1) = wr 1 then (i2b a2) else a2) fun (v3 : Int) =>
      if 0 ≤ wr a1 ∧ wr a1 < 64 then
      lt (sI M (a0 + 1) (wr a1) v3) fun M5 =>
      some (M5)
      else none) fun (M10 : Mem) =>
  some M10
set_option maxRecDepth 10000 in
theorem run_X6_put {M : Mem} {M2 : Mem} {a0 : Nat} {a1 : Int} {a2 : Int}  (ha0 : (ly a0).1 = 11) (h : m_X6_put M a0 a1 a2 = some (M2)) : RunV 1 yX6_put cX6_put 3 none [vR a0, vI a1, vI a2] M M2 := by
  refine runV_of (lv := [(0, vR a0), (1, vI a1), (2, vI a2)]) (by decide +kernel) rfl (Nat.le_of_ble_eq_true rfl) rfl ?_
  intro G hQ
  unfold m_X6_put at h
  refine r_aload_n dX6_put_0 rfl 0 rfl ?_
  refine r_getI (j := 1) (jz := 1) dX6_put_1 f_X6_19 ha0 rfl rfl ?_
  obtain ⟨M10, h9, h⟩ := of_bd1 h
  have kJ : Ex G 1 cX6_put RX6 3 48 [] [] M10 := by
    cases h
    exact hQ _ _ dX6_put_48
  clear h
  have h := h9
  clear h9
  by_cases c1 : wr (gI M a0 1) = 0
  · rw [if_pos c1] at h
    refine r_if_ne (tgt := 28) dX6_put_4 (by decide) (fun q => absurd c1 q) (fun _ => ?_)
    refine r_aload_n dX6_put_7 rfl 0 rfl ?_
    refine r_getR (j := 3) (v := (a0 + 1)) dX6_put_8 f_X6_9 ha0 rfl (she_it ha0).1 ?_
    refine r_iload_n dX6_put_11 rfl 1 rfl ?_
    refine r_iload_n dX6_put_12 rfl 2 rfl ?_
    obtain ⟨v7, ev7, h⟩ := of_lt h
    have kJ : Ex G 1 cX6_put RX6 3 21 [] [vI v7, vI a1, vR (a0 + 1)] M := by
      refine r_callNI (st := [vI a1, vR (a0 + 1)]) dX6_put_21 v_X6_32 (run_X11_bit rfl) (by decide) (by decide) rfl (Nat.le_of_ble_eq_true rfl) rfl ?_
      obtain ⟨c8, h⟩ := of_ck h
      obtain ⟨M9, eM9, h⟩ := of_lt h
      refine r_iast dX6_put_24 (she_it (M := M) ha0).2 c8 ?_
      rw [← eM9]
      refine r_goto (tgt := 48) dX6_put_25 (by decide) ?_
      cases h
      exact kJ
    clear h
    by_cases c6 : wr a2 = 0
    · skip
      refine r_if_eq (tgt := 20) dX6_put_13 (by decide) (fun _ => ?_) (fun q => absurd c6 q)
      refine r_iconst dX6_put_20 ?_
      rw [show v7 = 0 from by rw [ev7, if_pos c6]] at kJ
      refine r_sub (lv2 := []) [] rfl ?_
      exact kJ
    · skip
      refine r_if_eq (tgt := 20) dX6_put_13 (by decide) (fun q => absurd q c6) (fun _ => ?_)
      refine r_iconst dX6_put_16 ?_
      refine r_goto (tgt := 21) dX6_put_17 (by decide) ?_
      rw [show v7 = 1 from by rw [ev7, if_neg c6]] at kJ
      refine r_sub (lv2 := []) [] rfl ?_
      exact kJ
  · rw [if_neg c1] at h
    refine r_if_ne (tgt := 28) dX6_put_4 (by decide) (fun _ => ?_) (fun q => absurd q c1)
    refine r_aload_n dX6_put_28 rfl 0 rfl ?_
    refine r_getR (j := 3) (v := (a0 + 1)) dX6_put_29 f_X6_9 ha0 rfl (she_it ha0).1 ?_
    refine r_iload_n dX6_put_32 rfl 1 rfl ?_
    refine r_aload_n dX6_put_33 rfl 0 rfl ?_
    refine r_getI (j := 1) (jz := 1) dX6_put_34 f_X6_19 ha0 rfl rfl ?_
    refine r_iconst dX6_put_37 ?_
    obtain ⟨v3, ev3, h⟩ := of_lt h
    have kJ : Ex G 1 cX6_put RX6 3 47 [] [vI v3, vI a1, vR (a0 + 1)] M := by
      obtain ⟨c4, h⟩ := of_ck h
      obtain ⟨M5, eM5, h⟩ := of_lt h
      refine r_iast dX6_put_47 (she_it (M := M) ha0).2 c4 ?_
      rw [← eM5]
      cases h
      exact kJ
    clear h
    by_cases c2 : wr (gI M a0 1) = wr 1
    · skip
      refine r_icmp_ne (tgt := 46) dX6_put_38 (by decide) (fun q => absurd c2 q) (fun _ => ?_)
      refine r_iload_n dX6_put_41 rfl 2 rfl ?_
      refine r_i2b dX6_put_42 ?_
      refine r_goto (tgt := 47) dX6_put_43 (by decide) ?_
      rw [show v3 = (i2b a2) from by rw [ev3, if_pos c2]] at kJ
      refine r_sub (lv2 := []) [] rfl ?_
      exact kJ
    · skip
      refine r_icmp_ne (tgt := 46) dX6_put_38 (by decide) (fun _ => ?_) (fun q => absurd q c2)
      refine r_iload_n dX6_put_46 rfl 2 rfl ?_
      rw [show v3 = a2 from by rw [ev3, if_neg c2]] at kJ
      refine r_sub (lv2 := []) [] rfl ?_
      exact kJ

def m_X6_hasStretch (M : Mem) (a0 : Nat) (a1 : Int) (a2 : Int) : Option (Bool) :=
  lt (if wr a1 < 0 then 0 else (if wr a2 < 0 then 0 else (if wr (gI M a0 2) < wr a2 then 0 else (if wr ((gI M a0 2) - a2) < wr a1 then 0 else 1)))) fun (v5 : Int) =>
  if v5 = 0 ∨ v5 = 1 then some (decide (v5 = 1)) else none
set_option maxRecDepth 10000 in
theorem run_X6_hasStretch {M : Mem} {a0 : Nat} {a1 : Int} {a2 : Int} {r : Bool}  (ha0 : (ly a0).1 = 11) (h : m_X6_hasStretch M a0 a1 a2 = some r) : RunI 0 yX6_hasStretch cX6_hasStretch 3 (some .boolean) [vR a0, vI a1, vI a2] M (bI r) M := by
  refine runI_of (lv := [(0, vR a0), (1, vI a1), (2, vI a2)]) (by decide +kernel) (Or.inr ⟨rfl, bI_01 r⟩) (Nat.le_of_ble_eq_true rfl) rfl ?_
  intro G hQ
  unfold m_X6_hasStretch at h
  refine r_iload_n dX6_hasStretch_0 rfl 1 rfl ?_
  obtain ⟨v5, ev5, h⟩ := of_lt h
  have kJ : Ex G 0 cX6_hasStretch RX6 3 31 [] [vI v5] M := by
    obtain ⟨cz, h⟩ := of_ck h
    rw [← bI_dec cz]
    cases h
    exact hQ _ _ dX6_hasStretch_31
  clear h
  by_cases c1 : wr a1 < 0
  · skip
    refine r_if_lt (tgt := 30) dX6_hasStretch_1 (by decide) (fun _ => ?_) (fun q => absurd c1 q)
    refine r_iconst dX6_hasStretch_30 ?_
    rw [show v5 = 0 from by rw [ev5, if_pos c1]] at kJ
    refine r_sub (lv2 := []) [] rfl ?_
    exact kJ
  · skip
    refine r_if_lt (tgt := 30) dX6_hasStretch_1 (by decide) (fun q => absurd q c1) (fun _ => ?_)
    refine r_iload_n dX6_hasStretch_4 rfl 2 rfl ?_
    by_cases c2 : wr a2 < 0
    · skip
      refine r_if_lt (tgt := 30) dX6_hasStretch_5 (by decide) (fun _ => ?_) (fun q => absurd c2 q)
      refine r_iconst dX6_hasStretch_30 ?_
      rw [show v5 = 0 from by rw [ev5, if_neg c1, if_pos c2]] at kJ
      refine r_sub (lv2 := []) [] rfl ?_
      exact kJ
    · skip
      refine r_if_lt (tgt := 30) dX6_hasStretch_5 (by decide) (fun q => absurd q c2) (fun _ => ?_)
      refine r_iload_n dX6_hasStretch_8 rfl 2 rfl ?_
      refine r_aload_n dX6_hasStretch_9 rfl 0 rfl ?_
      refine r_getI (j := 2) (jz := 2) dX6_hasStretch_10 f_X6_23 ha0 rfl rfl ?_
      by_cases c3 : wr (gI M a0 2) < wr a2
      · skip
        refine r_icmp_gt (tgt := 30) dX6_hasStretch_13 (by decide) (fun _ => ?_) (fun q => absurd c3 q)
        refine r_iconst dX6_hasStretch_30 ?_
        rw [show v5 = 0 from by rw [ev5, if_neg c1, if_neg c2, if_pos c3]] at kJ
        refine r_sub (lv2 := []) [] rfl ?_
        exact kJ
      · skip
        refine r_icmp_gt (tgt := 30) dX6_hasStretch_13 (by decide) (fun q => absurd q c3) (fun _ => ?_)
        refine r_iload_n dX6_hasStretch_16 rfl 1 rfl ?_
        refine r_aload_n dX6_hasStretch_17 rfl 0 rfl ?_
        refine r_getI (j := 2) (jz := 2) dX6_hasStretch_18 f_X6_23 ha0 rfl rfl ?_
        refine r_iload_n dX6_hasStretch_21 rfl 2 rfl ?_
        refine r_isub dX6_hasStretch_22 ?_
        by_cases c4 : wr ((gI M a0 2) - a2) < wr a1
        · skip
          refine r_icmp_gt (tgt := 30) dX6_hasStretch_23 (by decide) (fun _ => ?_) (fun q => absurd c4 q)
          refine r_iconst dX6_hasStretch_30 ?_
          rw [show v5 = 0 from by rw [ev5, if_neg c1, if_neg c2, if_neg c3, if_pos c4]] at kJ
          refine r_sub (lv2 := []) [] rfl ?_
          exact kJ
        · skip
          refine r_icmp_gt (tgt := 30) dX6_hasStretch_23 (by decide) (fun q => absurd q c4) (fun _ => ?_)
          refine r_iconst dX6_hasStretch_26 ?_
          refine r_goto (tgt := 31) dX6_hasStretch_27 (by decide) ?_
          rw [show v5 = 1 from by rw [ev5, if_neg c1, if_neg c2, if_neg c3, if_neg c4]] at kJ
          refine r_sub (lv2 := []) [] rfl ?_
          exact kJ

def m_X7_forget (M : Mem) : Option (Mem) :=
  lt (sI M 8 5 0) fun M1 =>
  lt (sI M1 8 6 0) fun M2 =>
  some M2
set_option maxRecDepth 10000 in
theorem run_X7_forget {M : Mem} {M2 : Mem}   (h : m_X7_forget M = some (M2)) : RunV 0 yX7_forget cX7_forget 1 none [vR 8] M M2 := by
  refine runV_of (lv := [(0, vR 8)]) (by decide +kernel) rfl (Nat.le_of_ble_eq_true rfl) rfl ?_
  intro G hQ
  unfold m_X7_forget at h
  refine r_aload_n dX7_forget_0 rfl 0 rfl ?_
  refine r_iconst dX7_forget_1 ?_
  obtain ⟨M1, eM1, h⟩ := of_lt h
  refine r_putI (j := 5) (jz := 5) dX7_forget_2 p_X7_28 rfl rfl rfl rfl rfl ?_
  rw [← eM1]
  refine r_aload_n dX7_forget_5 rfl 0 rfl ?_
  refine r_iconst dX7_forget_6 ?_
  obtain ⟨M2, eM2, h⟩ := of_lt h
  refine r_putI (j := 6) (jz := 6) dX7_forget_7 p_X7_32 rfl rfl rfl rfl rfl ?_
  rw [← eM2]
  cases h
  exact hQ _ _ dX7_forget_10

def m_X10_brickOn (M : Mem) (a1 : Int) (a2 : Int) : Option (Int) :=
  if wr a2 = 0 then
    bd1 (m_X10_row M a1) fun r3 =>
    lt (if wr r3 ≤ 0 then (-1) else ((2 * (a1 - (gI M 1 0))) + 1)) fun (v5 : Int) =>
    some v5
  else
    if wr a2 = 1 then
      bd1 (m_X10_column M a1) fun r8 =>
      lt (if wr r8 ≤ 0 then (-1) else (2 * (a1 - 1))) fun (v10 : Int) =>
      some v10
    else
      if wr a2 = 2 then
        some (2 * a1)
      else
        some ((2 * a1) + 1)
set_option maxRecDepth 10000 in
theorem run_X10_brickOn {M : Mem} {a1 : Int} {a2 : Int} {r : Int}   (h : m_X10_brickOn M a1 a2 = some r) : RunI 1 yX10_brickOn cX10_brickOn 3 (some .int) [vR 1, vI a1, vI a2] M r M := by
  refine runI_of (lv := [(0, vR 1), (1, vI a1), (2, vI a2)]) (by decide +kernel) (Or.inl rfl) (Nat.le_of_ble_eq_true rfl) rfl ?_
  intro G hQ
  unfold m_X10_brickOn at h
  refine r_iload_n dX10_brickOn_0 rfl 2 rfl ?_
  by_cases c1 : wr a2 = 0
  · rw [if_pos c1] at h
    refine r_tabIn (tgt := 28) dX10_brickOn_1 0 (c1.trans rfl) (by decide) rfl (by decide) ?_
    refine r_aload_n dX10_brickOn_28 rfl 0 rfl ?_
    refine r_iload_n dX10_brickOn_29 rfl 1 rfl ?_
    obtain ⟨r3, hc2, h⟩ := of_bd1 h
    refine r_callVI (st := []) dX10_brickOn_30 v_X10_39 (run_X10_row hc2) (by decide) (by decide) rfl rfl (Nat.le_of_ble_eq_true rfl) rfl ?_
    obtain ⟨v5, ev5, h⟩ := of_lt h
    have kJ : Ex G 1 cX10_brickOn RX10 3 50 [] [vI v5] M := by
      cases h
      exact hQ _ _ dX10_brickOn_50
    clear h
    by_cases c4 : wr r3 ≤ 0
    · skip
      refine r_if_le (tgt := 49) dX10_brickOn_33 (by decide) (fun _ => ?_) (fun q => absurd c4 q)
      refine r_iconst dX10_brickOn_49 ?_
      rw [show v5 = (-1) from by rw [ev5, if_pos c4]] at kJ
      refine r_sub (lv2 := []) [] rfl ?_
      exact kJ
    · skip
      refine r_if_le (tgt := 49) dX10_brickOn_33 (by decide) (fun q => absurd q c4) (fun _ => ?_)
      refine r_iconst dX10_brickOn_36 ?_
      refine r_iload_n dX10_brickOn_37 rfl 1 rfl ?_
      refine r_aload_n dX10_brickOn_38 rfl 0 rfl ?_
      refine r_getI (j := 0) (jz := 0) dX10_brickOn_39 f_X10_22 rfl rfl rfl ?_
      refine r_isub dX10_brickOn_42 ?_
      refine r_imul dX10_brickOn_43 ?_
      refine r_iconst dX10_brickOn_44 ?_
      refine r_iadd dX10_brickOn_45 ?_
      refine r_goto (tgt := 50) dX10_brickOn_46 (by decide) ?_
      rw [show v5 = ((2 * (a1 - (gI M 1 0))) + 1) from by rw [ev5, if_neg c4]] at kJ
      refine r_sub (lv2 := []) [] rfl ?_
      exact kJ
  · rw [if_neg c1] at h
    by_cases c6 : wr a2 = 1
    · rw [if_pos c6] at h
      refine r_tabIn (tgt := 51) dX10_brickOn_1 1 (c6.trans rfl) (by decide) rfl (by decide) ?_
      refine r_aload_n dX10_brickOn_51 rfl 0 rfl ?_
      refine r_iload_n dX10_brickOn_52 rfl 1 rfl ?_
      obtain ⟨r8, hc7, h⟩ := of_bd1 h
      refine r_callVI (st := []) dX10_brickOn_53 v_X10_43 (run_X10_column hc7) (by decide) (by decide) rfl rfl (Nat.le_of_ble_eq_true rfl) rfl ?_
      obtain ⟨v10, ev10, h⟩ := of_lt h
      have kJ : Ex G 1 cX10_brickOn RX10 3 68 [] [vI v10] M := by
        cases h
        exact hQ _ _ dX10_brickOn_68
      clear h
      by_cases c9 : wr r8 ≤ 0
      · skip
        refine r_if_le (tgt := 67) dX10_brickOn_56 (by decide) (fun _ => ?_) (fun q => absurd c9 q)
        refine r_iconst dX10_brickOn_67 ?_
        rw [show v10 = (-1) from by rw [ev10, if_pos c9]] at kJ
        refine r_sub (lv2 := []) [] rfl ?_
        exact kJ
      · skip
        refine r_if_le (tgt := 67) dX10_brickOn_56 (by decide) (fun q => absurd q c9) (fun _ => ?_)
        refine r_iconst dX10_brickOn_59 ?_
        refine r_iload_n dX10_brickOn_60 rfl 1 rfl ?_
        refine r_iconst dX10_brickOn_61 ?_
        refine r_isub dX10_brickOn_62 ?_
        refine r_imul dX10_brickOn_63 ?_
        refine r_goto (tgt := 68) dX10_brickOn_64 (by decide) ?_
        rw [show v10 = (2 * (a1 - 1)) from by rw [ev10, if_neg c9]] at kJ
        refine r_sub (lv2 := []) [] rfl ?_
        exact kJ
    · rw [if_neg c6] at h
      by_cases c11 : wr a2 = 2
      · rw [if_pos c11] at h
        refine r_tabIn (tgt := 69) dX10_brickOn_1 2 (c11.trans rfl) (by decide) rfl (by decide) ?_
        refine r_iconst dX10_brickOn_69 ?_
        refine r_iload_n dX10_brickOn_70 rfl 1 rfl ?_
        refine r_imul dX10_brickOn_71 ?_
        cases h
        exact hQ _ _ dX10_brickOn_72
      · rw [if_neg c11] at h
        refine r_tabOut (tgt := 73) dX10_brickOn_1 (by omega) (by decide) ?_
        refine r_iconst dX10_brickOn_73 ?_
        refine r_iload_n dX10_brickOn_74 rfl 1 rfl ?_
        refine r_imul dX10_brickOn_75 ?_
        refine r_iconst dX10_brickOn_76 ?_
        refine r_iadd dX10_brickOn_77 ?_
        cases h
        exact hQ _ _ dX10_brickOn_78

def m_X7_dropOthers_L8 (M : Mem) (p2 : Int) (p3 : Int) (x4 : Int) : Option ((Int × Mem) ⊕ (Int × Mem)) :=
  if wr 4 ≤ wr x4 then
    some (.inr (x4, M))
  else
    bd1 (m_X10_brickOn M p2 x4) fun r4 =>
    bd1 (
      if wr r4 < 0 then
        some (M)
      else
        if wr r4 = wr p3 then
          some (M)
        else
          if 0 ≤ wr r4 ∧ wr r4 < 128 then
          lt (sI M 11 (wr r4) 0) fun M8 =>
          some (M8)
          else none) fun (M9 : Mem) =>
    some (.inl ((x4 + 1), M9))
def m_X7_dropOthers (M : Mem) (a2 : Int) (a3 : Int) : Option (Mem) :=
  if 0 ≤ wr a2 then
    bd2 (itr (fun s => m_X7_dropOthers_L8 s.2 a2 a3 s.1) FU (0, M)) fun y10 M11 =>
    some M11
  else
    some M
set_option maxRecDepth 10000 in
theorem lp_X7_dropOthers_L8 {G : Gx} (p2 : Int) (p3 : Int)   (X : (Int × Mem) → Prop) (hX1 : ∀ (x4 : Int) (M : Mem), X (x4, M) → Ex G 2 cX7_dropOthers RX7 6 48 [(0, vR 8), (1, vR 1), (2, vI p2), (3, vI p3), (4, vI x4)] [] M) : ∀ (nn : Nat) (x4 : Int) (M : Mem) (out : Int × Mem), itr (fun s => m_X7_dropOthers_L8 s.2 p2 p3 s.1) nn (x4, M) = some out → X out → Ex G 2 cX7_dropOthers RX7 6 8 [(0, vR 8), (1, vR 1), (2, vI p2), (3, vI p3), (4, vI x4)] [] M := by
  intro nn
  induction nn with
  | zero =>
    intro x4 M out h _
    cases h
  | succ nn ih =>
    intro x4 M out h0 hX
    obtain ⟨w, h, k1, k2⟩ := itr_inv h0
    have h : m_X7_dropOthers_L8 M p2 p3 x4 = some w := h
    unfold m_X7_dropOthers_L8 at h
    refine r_iload dX7_dropOthers_8 4 rfl ?_
    refine r_iconst dX7_dropOthers_10 ?_
    by_cases c2 : wr 4 ≤ wr x4
    · rw [if_pos c2] at h
      refine r_icmp_ge (tgt := 48) dX7_dropOthers_11 (by decide) (fun _ => ?_) (fun q => absurd c2 q)
      cases h
      cases k2 _ rfl
      exact hX1 _ _ hX
    · rw [if_neg c2] at h
      refine r_icmp_ge (tgt := 48) dX7_dropOthers_11 (by decide) (fun q => absurd q c2) (fun _ => ?_)
      refine r_aload_n dX7_dropOthers_14 rfl 1 rfl ?_
      refine r_iload_n dX7_dropOthers_15 rfl 2 rfl ?_
      refine r_iload dX7_dropOthers_16 4 rfl ?_
      obtain ⟨r4, hc3, h⟩ := of_bd1 h
      refine r_callVI (st := []) dX7_dropOthers_18 v_X7_65 (run_X10_brickOn hc3) (by decide) (by decide) rfl rfl (Nat.le_of_ble_eq_true rfl) rfl ?_
      refine r_istore (lv2 := [(5, vI r4), (0, vR 8), (1, vR 1), (2, vI p2), (3, vI p3), (4, vI x4)]) dX7_dropOthers_21 (by decide) rfl ?_
      refine r_iload dX7_dropOthers_23 0 rfl ?_
      obtain ⟨M9, h9, h⟩ := of_bd1 h
      have kJ : Ex G 2 cX7_dropOthers RX7 6 42 [(0, vR 8), (1, vR 1), (2, vI p2), (3, vI p3), (4, vI x4)] [] M9 := by
        refine r_iinc (lv2 := [(4, vI (x4 + 1)), (0, vR 8), (1, vR 1), (2, vI p2), (3, vI p3)]) dX7_dropOthers_42 4 rfl (by decide) rfl ?_
        refine r_goto (tgt := 8) dX7_dropOthers_45 (by decide) ?_
        refine r_sub (lv2 := [(0, vR 8), (1, vR 1), (2, vI p2), (3, vI p3), (4, vI (x4 + 1))]) [1, 2, 3, 4, 0] rfl ?_
        cases h
        exact ih _ _  _ (k1 _ rfl) hX
      clear h
      have h := h9
      clear h9
      by_cases c5 : wr r4 < 0
      · rw [if_pos c5] at h
        refine r_if_lt (tgt := 42) dX7_dropOthers_25 (by decide) (fun _ => ?_) (fun q => absurd c5 q)
        refine r_sub (lv2 := [(0, vR 8), (1, vR 1), (2, vI p2), (3, vI p3), (4, vI x4)]) [1, 2, 3, 4, 5] rfl ?_
        cases h
        exact kJ
      · rw [if_neg c5] at h
        refine r_if_lt (tgt := 42) dX7_dropOthers_25 (by decide) (fun q => absurd q c5) (fun _ => ?_)
        refine r_iload dX7_dropOthers_28 0 rfl ?_
        refine r_iload_n dX7_dropOthers_30 rfl 4 rfl ?_
        by_cases c6 : wr r4 = wr p3
        · rw [if_pos c6] at h
          refine r_icmp_eq (tgt := 42) dX7_dropOthers_31 (by decide) (fun _ => ?_) (fun q => absurd c6 q)
          refine r_sub (lv2 := [(0, vR 8), (1, vR 1), (2, vI p2), (3, vI p3), (4, vI x4)]) [1, 2, 3, 4, 5] rfl ?_
          cases h
          exact kJ
        · rw [if_neg c6] at h
          refine r_icmp_eq (tgt := 42) dX7_dropOthers_31 (by decide) (fun q => absurd q c6) (fun _ => ?_)
          refine r_aload_n dX7_dropOthers_34 rfl 1 rfl ?_
          refine r_getR (j := 2) (v := 11) dX7_dropOthers_35 f_X7_18 rfl rfl rfl ?_
          refine r_iload dX7_dropOthers_38 0 rfl ?_
          refine r_iconst dX7_dropOthers_40 ?_
          obtain ⟨c7, h⟩ := of_ck h
          obtain ⟨M8, eM8, h⟩ := of_lt h
          refine r_zast dX7_dropOthers_41 rfl c7 (by decide) ?_
          rw [← eM8]
          refine r_sub (lv2 := [(0, vR 8), (1, vR 1), (2, vI p2), (3, vI p3), (4, vI x4)]) [1, 2, 3, 4, 5] rfl ?_
          cases h
          exact kJ

set_option maxRecDepth 10000 in
theorem run_X7_dropOthers {M : Mem} {M2 : Mem} {a2 : Int} {a3 : Int}   (h : m_X7_dropOthers M a2 a3 = some (M2)) : RunV 2 yX7_dropOthers cX7_dropOthers 6 none [vR 8, vR 1, vI a2, vI a3] M M2 := by
  refine runV_of (lv := [(0, vR 8), (1, vR 1), (2, vI a2), (3, vI a3)]) (by decide +kernel) rfl (Nat.le_of_ble_eq_true rfl) rfl ?_
  intro G hQ
  unfold m_X7_dropOthers at h
  refine r_iload_n dX7_dropOthers_0 rfl 2 rfl ?_
  by_cases c1 : 0 ≤ wr a2
  · rw [if_pos c1] at h
    refine r_if_ge (tgt := 5) dX7_dropOthers_1 (by decide) (fun _ => ?_) (fun q => absurd c1 q)
    refine r_iconst dX7_dropOthers_5 ?_
    refine r_istore (lv2 := [(4, vI 0), (0, vR 8), (1, vR 1), (2, vI a2), (3, vI a3)]) dX7_dropOthers_6 (by decide) rfl ?_
    obtain ⟨y10, M11, h9, h⟩ := of_bd2 h
    refine r_sub (lv2 := [(0, vR 8), (1, vR 1), (2, vI a2), (3, vI a3), (4, vI 0)]) [1, 2, 3, 4, 0] rfl ?_
    refine lp_X7_dropOthers_L8 a2 a3  (fun w => w = (y10, M11)) ?_ FU 0 M _ h9 rfl
    intro z0 z1 hw
    cases hw
    cases h
    exact hQ _ _ dX7_dropOthers_48
  · rw [if_neg c1] at h
    refine r_if_ge (tgt := 5) dX7_dropOthers_1 (by decide) (fun q => absurd q c1) (fun _ => ?_)
    cases h
    exact hQ _ _ dX7_dropOthers_4

def m_X7_findFits_L9 (M : Mem) (p2 : Int) (x3 : Int) : Option ((Int × Mem) ⊕ (Int × Mem)) :=
  if wr p2 ≤ wr x3 then
    some (.inr (x3, M))
  else
    bd1 (m_X10_stands M x3) fun b3 =>
    bd1 (
      if wr (bI b3) = 0 then
        some (0)
      else
        if 0 ≤ wr x3 ∧ wr x3 < 128 then
        if wr (gI M 3 (wr x3)) = wr 2 then
          some (0)
        else
          some (1)
        else none) fun (v7 : Int) =>
    if 0 ≤ wr x3 ∧ wr x3 < 128 then
    if v7 = 0 ∨ v7 = 1 then
    lt (sI M 11 (wr x3) v7) fun M10 =>
    some (.inl ((x3 + 1), M10))
    else none
    else none
def m_X7_findFits_L51 (M : Mem) (p2 : Int) (x3 : Int) : Option ((Int × Mem) ⊕ (Int × Mem)) :=
  if wr p2 ≤ wr x3 then
    some (.inr (x3, M))
  else
    if 0 ≤ wr x3 ∧ wr x3 < 128 then
    bd1 (
      if wr (gI M 3 (wr x3)) = wr 1 then
        bd1 (m_X7_dropOthers M (idv x3 2) x3) fun M17 =>
        bd1 (m_X10_secondCell M17 x3) fun r19 =>
        bd1 (m_X7_dropOthers M17 r19 x3) fun M21 =>
        some (M21)
      else
        some (M)) fun (M22 : Mem) =>
    some (.inl ((x3 + 1), M22))
    else none
def m_X7_findFits (M : Mem) : Option (Mem) :=
  bd2 (itr (fun s => m_X7_findFits_L9 s.2 (2 * (m_X10_cells M)) s.1) FU (0, M)) fun y11 M12 =>
  bd2 (itr (fun s => m_X7_findFits_L51 s.2 (2 * (m_X10_cells M)) s.1) FU (0, M12)) fun y23 M24 =>
  some M24
set_option maxRecDepth 10000 in
theorem lp_X7_findFits_L9 {G : Gx} (p2 : Int)   (X : (Int × Mem) → Prop) (hX1 : ∀ (x3 : Int) (M : Mem), X (x3, M) → Ex G 3 cX7_findFits RX7 4 49 [(0, vR 8), (1, vR 1), (2, vI p2), (3, vI x3)] [] M) : ∀ (nn : Nat) (x3 : Int) (M : Mem) (out : Int × Mem), itr (fun s => m_X7_findFits_L9 s.2 p2 s.1) nn (x3, M) = some out → X out → Ex G 3 cX7_findFits RX7 4 9 [(0, vR 8), (1, vR 1), (2, vI p2), (3, vI x3)] [] M := by
  intro nn
  induction nn with
  | zero =>
    intro x3 M out h _
    cases h
  | succ nn ih =>
    intro x3 M out h0 hX
    obtain ⟨w, h, k1, k2⟩ := itr_inv h0
    have h : m_X7_findFits_L9 M p2 x3 = some w := h
    unfold m_X7_findFits_L9 at h
    refine r_iload_n dX7_findFits_9 rfl 3 rfl ?_
    refine r_iload_n dX7_findFits_10 rfl 2 rfl ?_
    by_cases c1 : wr p2 ≤ wr x3
    · rw [if_pos c1] at h
      refine r_icmp_ge (tgt := 49) dX7_findFits_11 (by decide) (fun _ => ?_) (fun q => absurd c1 q)
      cases h
      cases k2 _ rfl
      exact hX1 _ _ hX
    · rw [if_neg c1] at h
      refine r_icmp_ge (tgt := 49) dX7_findFits_11 (by decide) (fun q => absurd q c1) (fun _ => ?_)
      refine r_aload_n dX7_findFits_14 rfl 0 rfl ?_
      refine r_getR (j := 2) (v := 11) dX7_findFits_15 f_X7_18 rfl rfl rfl ?_
      refine r_iload_n dX7_findFits_18 rfl 3 rfl ?_
      refine r_aload_n dX7_findFits_19 rfl 1 rfl ?_
      refine r_iload_n dX7_findFits_20 rfl 3 rfl ?_
      obtain ⟨b3, hc2, h⟩ := of_bd1 h
      refine r_callVI (st := [vI x3, vR 11]) dX7_findFits_21 v_X7_49 (run_X10_stands hc2) (by decide) (by decide) rfl rfl (Nat.le_of_ble_eq_true rfl) rfl ?_
      obtain ⟨v7, h9, h⟩ := of_bd1 h
      have kJ : Ex G 3 cX7_findFits RX7 4 42 [(0, vR 8), (1, vR 1), (2, vI p2), (3, vI x3)] [vI v7, vI x3, vR 11] M := by
        obtain ⟨c8, h⟩ := of_ck h
        obtain ⟨c9, h⟩ := of_ck h
        obtain ⟨M10, eM10, h⟩ := of_lt h
        refine r_zast dX7_findFits_42 rfl c8 c9 ?_
        rw [← eM10]
        refine r_iinc (lv2 := [(3, vI (x3 + 1)), (0, vR 8), (1, vR 1), (2, vI p2)]) dX7_findFits_43 3 rfl (by decide) rfl ?_
        refine r_goto (tgt := 9) dX7_findFits_46 (by decide) ?_
        refine r_sub (lv2 := [(0, vR 8), (1, vR 1), (2, vI p2), (3, vI (x3 + 1))]) [1, 2, 3, 0] rfl ?_
        cases h
        exact ih _ _  _ (k1 _ rfl) hX
      clear h
      have h := h9
      clear h9
      by_cases c4 : wr (bI b3) = 0
      · rw [if_pos c4] at h
        refine r_if_eq (tgt := 41) dX7_findFits_24 (by decide) (fun _ => ?_) (fun q => absurd c4 q)
        refine r_iconst dX7_findFits_41 ?_
        cases h
        exact kJ
      · rw [if_neg c4] at h
        refine r_if_eq (tgt := 41) dX7_findFits_24 (by decide) (fun q => absurd q c4) (fun _ => ?_)
        refine r_aload_n dX7_findFits_27 rfl 1 rfl ?_
        refine r_getR (j := 3) (v := 3) dX7_findFits_28 f_X7_53 rfl rfl rfl ?_
        refine r_iload_n dX7_findFits_31 rfl 3 rfl ?_
        obtain ⟨c5, h⟩ := of_ck h
        refine r_iald dX7_findFits_32 rfl c5 ?_
        refine r_iconst dX7_findFits_33 ?_
        by_cases c6 : wr (gI M 3 (wr x3)) = wr 2
        · rw [if_pos c6] at h
          refine r_icmp_eq (tgt := 41) dX7_findFits_34 (by decide) (fun _ => ?_) (fun q => absurd c6 q)
          refine r_iconst dX7_findFits_41 ?_
          cases h
          exact kJ
        · rw [if_neg c6] at h
          refine r_icmp_eq (tgt := 41) dX7_findFits_34 (by decide) (fun q => absurd q c6) (fun _ => ?_)
          refine r_iconst dX7_findFits_37 ?_
          refine r_goto (tgt := 42) dX7_findFits_38 (by decide) ?_
          cases h
          exact kJ

set_option maxRecDepth 10000 in
theorem lp_X7_findFits_L51 {G : Gx} (p2 : Int)   (X : (Int × Mem) → Prop) (hX1 : ∀ (x3 : Int) (M : Mem), X (x3, M) → Ex G 3 cX7_findFits RX7 4 95 [(0, vR 8), (1, vR 1), (2, vI p2), (3, vI x3)] [] M) : ∀ (nn : Nat) (x3 : Int) (M : Mem) (out : Int × Mem), itr (fun s => m_X7_findFits_L51 s.2 p2 s.1) nn (x3, M) = some out → X out → Ex G 3 cX7_findFits RX7 4 51 [(0, vR 8), (1, vR 1), (2, vI p2), (3, vI x3)] [] M := by
  intro nn
  induction nn with
  | zero =>
    intro x3 M out h _
    cases h
  | succ nn ih =>
    intro x3 M out h0 hX
    obtain ⟨w, h, k1, k2⟩ := itr_inv h0
    have h : m_X7_findFits_L51 M p2 x3 = some w := h
    unfold m_X7_findFits_L51 at h
    refine r_iload_n dX7_findFits_51 rfl 3 rfl ?_
    refine r_iload_n dX7_findFits_52 rfl 2 rfl ?_
    by_cases c13 : wr p2 ≤ wr x3
    · rw [if_pos c13] at h
      refine r_icmp_ge (tgt := 95) dX7_findFits_53 (by decide) (fun _ => ?_) (fun q => absurd c13 q)
      cases h
      cases k2 _ rfl
      exact hX1 _ _ hX
    · rw [if_neg c13] at h
      refine r_icmp_ge (tgt := 95) dX7_findFits_53 (by decide) (fun q => absurd q c13) (fun _ => ?_)
      refine r_aload_n dX7_findFits_56 rfl 1 rfl ?_
      refine r_getR (j := 3) (v := 3) dX7_findFits_57 f_X7_53 rfl rfl rfl ?_
      refine r_iload_n dX7_findFits_60 rfl 3 rfl ?_
      obtain ⟨c14, h⟩ := of_ck h
      refine r_iald dX7_findFits_61 rfl c14 ?_
      refine r_iconst dX7_findFits_62 ?_
      obtain ⟨M22, h9, h⟩ := of_bd1 h
      have kJ : Ex G 3 cX7_findFits RX7 4 89 [(0, vR 8), (1, vR 1), (2, vI p2), (3, vI x3)] [] M22 := by
        refine r_iinc (lv2 := [(3, vI (x3 + 1)), (0, vR 8), (1, vR 1), (2, vI p2)]) dX7_findFits_89 3 rfl (by decide) rfl ?_
        refine r_goto (tgt := 51) dX7_findFits_92 (by decide) ?_
        refine r_sub (lv2 := [(0, vR 8), (1, vR 1), (2, vI p2), (3, vI (x3 + 1))]) [1, 2, 3, 0] rfl ?_
        cases h
        exact ih _ _  _ (k1 _ rfl) hX
      clear h
      have h := h9
      clear h9
      by_cases c15 : wr (gI M 3 (wr x3)) = wr 1
      · rw [if_pos c15] at h
        refine r_icmp_eq (tgt := 69) dX7_findFits_63 (by decide) (fun _ => ?_) (fun q => absurd c15 q)
        refine r_aload_n dX7_findFits_69 rfl 0 rfl ?_
        refine r_aload_n dX7_findFits_70 rfl 1 rfl ?_
        refine r_iload_n dX7_findFits_71 rfl 3 rfl ?_
        refine r_iconst dX7_findFits_72 ?_
        refine r_idiv dX7_findFits_73 (by decide) ?_
        refine r_iload_n dX7_findFits_74 rfl 3 rfl ?_
        obtain ⟨M17, hc16, h⟩ := of_bd1 h
        refine r_callVV (st := []) dX7_findFits_75 v_X7_57 (run_X7_dropOthers hc16) (by decide) (by decide) rfl rfl (Nat.le_of_ble_eq_true rfl) rfl ?_
        refine r_aload_n dX7_findFits_78 rfl 0 rfl ?_
        refine r_aload_n dX7_findFits_79 rfl 1 rfl ?_
        refine r_aload_n dX7_findFits_80 rfl 1 rfl ?_
        refine r_iload_n dX7_findFits_81 rfl 3 rfl ?_
        obtain ⟨r19, hc18, h⟩ := of_bd1 h
        refine r_callVI (st := [vR 1, vR 8]) dX7_findFits_82 v_X7_61 (run_X10_secondCell hc18) (by decide) (by decide) rfl rfl (Nat.le_of_ble_eq_true rfl) rfl ?_
        refine r_iload_n dX7_findFits_85 rfl 3 rfl ?_
        obtain ⟨M21, hc20, h⟩ := of_bd1 h
        refine r_callVV (st := []) dX7_findFits_86 v_X7_57 (run_X7_dropOthers hc20) (by decide) (by decide) rfl rfl (Nat.le_of_ble_eq_true rfl) rfl ?_
        cases h
        exact kJ
      · rw [if_neg c15] at h
        refine r_icmp_eq (tgt := 69) dX7_findFits_63 (by decide) (fun q => absurd q c15) (fun _ => ?_)
        refine r_goto (tgt := 89) dX7_findFits_66 (by decide) ?_
        cases h
        exact kJ

set_option maxRecDepth 10000 in
theorem run_X7_findFits {M : Mem} {M2 : Mem}   (h : m_X7_findFits M = some (M2)) : RunV 3 yX7_findFits cX7_findFits 4 none [vR 8, vR 1] M M2 := by
  refine runV_of (lv := [(0, vR 8), (1, vR 1)]) (by decide +kernel) rfl (Nat.le_of_ble_eq_true rfl) rfl ?_
  intro G hQ
  unfold m_X7_findFits at h
  refine r_iconst dX7_findFits_0 ?_
  refine r_aload_n dX7_findFits_1 rfl 1 rfl ?_
  refine r_callVI (st := [vI 2]) dX7_findFits_2 v_X7_43 (run_X10_cells rfl) (by decide) (by decide) rfl rfl (Nat.le_of_ble_eq_true rfl) rfl ?_
  refine r_imul dX7_findFits_5 ?_
  refine r_istore_n (lv2 := [(2, vI (2 * (m_X10_cells M))), (0, vR 8), (1, vR 1)]) dX7_findFits_6 rfl (by decide) rfl ?_
  refine r_iconst dX7_findFits_7 ?_
  refine r_istore_n (lv2 := [(3, vI 0), (2, vI (2 * (m_X10_cells M))), (0, vR 8), (1, vR 1)]) dX7_findFits_8 rfl (by decide) rfl ?_
  obtain ⟨y11, M12, h9, h⟩ := of_bd2 h
  refine r_sub (lv2 := [(0, vR 8), (1, vR 1), (2, vI (2 * (m_X10_cells M))), (3, vI 0)]) [2, 3, 1, 0] rfl ?_
  refine lp_X7_findFits_L9 (2 * (m_X10_cells M))  (fun w => w = (y11, M12)) ?_ FU 0 M _ h9 rfl
  intro z0 z1 hw
  cases hw
  refine r_iconst dX7_findFits_49 ?_
  refine r_istore_n (lv2 := [(3, vI 0), (0, vR 8), (1, vR 1), (2, vI (2 * (m_X10_cells M)))]) dX7_findFits_50 rfl (by decide) rfl ?_
  obtain ⟨y23, M24, h9, h⟩ := of_bd2 h
  refine r_sub (lv2 := [(0, vR 8), (1, vR 1), (2, vI (2 * (m_X10_cells M))), (3, vI 0)]) [1, 2, 3, 0] rfl ?_
  refine lp_X7_findFits_L51 (2 * (m_X10_cells M))  (fun w => w = (y23, M24)) ?_ FU 0 M12 _ h9 rfl
  intro z0 z1 hw
  cases hw
  cases h
  exact hQ _ _ dX7_findFits_95

def m_X7_startTable_L13 (M : Mem) (p2 : Int64) (p4 : Int64) (p6 : Int) (x7 : Int) : Option ((Int × Mem) ⊕ (Int × Mem)) :=
  if wr (shl 1 (gI M 1 0)) ≤ wr x7 then
    some (.inr (x7, M))
  else
    if 0 ≤ wr (p6 + x7) ∧ wr (p6 + x7) < 16640 then
    lt (sL M 9 (wr (p6 + x7)) p4) fun M3 =>
    some (.inl ((x7 + 1), M3))
    else none
def m_X7_startTable (M : Mem) (a2 : Int64) (a3 : Int64) : Option (Mem) :=
  bd2 (itr (fun s => m_X7_startTable_L13 s.2 a2 a3 ((m_X10_cells M) * 256) s.1) FU (0, M)) fun y4 M5 =>
  if 0 ≤ wr ((m_X10_cells M) * 256) ∧ wr ((m_X10_cells M) * 256) < 16640 then
  lt (sL M5 9 (wr ((m_X10_cells M) * 256)) a2) fun M7 =>
  some M7
  else none
set_option maxRecDepth 10000 in
theorem lp_X7_startTable_L13 {G : Gx} (p2 : Int64) (p4 : Int64) (p6 : Int)   (X : (Int × Mem) → Prop) (hX1 : ∀ (x7 : Int) (M : Mem), X (x7, M) → Ex G 1 cX7_startTable RX7 8 42 [(0, vR 8), (1, vR 1), (2, vL p2), (4, vL p4), (6, vI p6), (7, vI x7)] [] M) : ∀ (nn : Nat) (x7 : Int) (M : Mem) (out : Int × Mem), itr (fun s => m_X7_startTable_L13 s.2 p2 p4 p6 s.1) nn (x7, M) = some out → X out → Ex G 1 cX7_startTable RX7 8 13 [(0, vR 8), (1, vR 1), (2, vL p2), (4, vL p4), (6, vI p6), (7, vI x7)] [] M := by
  intro nn
  induction nn with
  | zero =>
    intro x7 M out h _
    cases h
  | succ nn ih =>
    intro x7 M out h0 hX
    obtain ⟨w, h, k1, k2⟩ := itr_inv h0
    have h : m_X7_startTable_L13 M p2 p4 p6 x7 = some w := h
    unfold m_X7_startTable_L13 at h
    refine r_iload dX7_startTable_13 5 rfl ?_
    refine r_iconst dX7_startTable_15 ?_
    refine r_aload_n dX7_startTable_16 rfl 1 rfl ?_
    refine r_getI (j := 0) (jz := 0) dX7_startTable_17 f_X7_85 rfl rfl rfl ?_
    refine r_ishl dX7_startTable_20 ?_
    by_cases c1 : wr (shl 1 (gI M 1 0)) ≤ wr x7
    · rw [if_pos c1] at h
      refine r_icmp_ge (tgt := 42) dX7_startTable_21 (by decide) (fun _ => ?_) (fun q => absurd c1 q)
      cases h
      cases k2 _ rfl
      exact hX1 _ _ hX
    · rw [if_neg c1] at h
      refine r_icmp_ge (tgt := 42) dX7_startTable_21 (by decide) (fun q => absurd q c1) (fun _ => ?_)
      refine r_aload_n dX7_startTable_24 rfl 0 rfl ?_
      refine r_getR (j := 0) (v := 9) dX7_startTable_25 f_X7_9 rfl rfl rfl ?_
      refine r_iload dX7_startTable_28 4 rfl ?_
      refine r_iload dX7_startTable_30 5 rfl ?_
      refine r_iadd dX7_startTable_32 ?_
      refine r_lload dX7_startTable_33 3 rfl ?_
      obtain ⟨c2, h⟩ := of_ck h
      obtain ⟨M3, eM3, h⟩ := of_lt h
      refine r_last dX7_startTable_35 rfl c2 ?_
      rw [← eM3]
      refine r_iinc (lv2 := [(7, vI (x7 + 1)), (0, vR 8), (1, vR 1), (2, vL p2), (4, vL p4), (6, vI p6)]) dX7_startTable_36 5 rfl (by decide) rfl ?_
      refine r_goto (tgt := 13) dX7_startTable_39 (by decide) ?_
      refine r_sub (lv2 := [(0, vR 8), (1, vR 1), (2, vL p2), (4, vL p4), (6, vI p6), (7, vI (x7 + 1))]) [1, 2, 3, 4, 5, 0] rfl ?_
      cases h
      exact ih _ _  _ (k1 _ rfl) hX

set_option maxRecDepth 10000 in
theorem run_X7_startTable {M : Mem} {M2 : Mem} {a2 : Int64} {a3 : Int64}   (h : m_X7_startTable M a2 a3 = some (M2)) : RunV 1 yX7_startTable cX7_startTable 8 none [vR 8, vR 1, vL a2, vL a3] M M2 := by
  refine runV_of (lv := [(0, vR 8), (1, vR 1), (2, vL a2), (4, vL a3)]) (by decide +kernel) rfl (Nat.le_of_ble_eq_true rfl) rfl ?_
  intro G hQ
  unfold m_X7_startTable at h
  refine r_aload_n dX7_startTable_0 rfl 1 rfl ?_
  refine r_callVI (st := []) dX7_startTable_1 v_X7_43 (run_X10_cells rfl) (by decide) (by decide) rfl rfl (Nat.le_of_ble_eq_true rfl) rfl ?_
  refine r_sipush dX7_startTable_4 (by decide) ?_
  refine r_imul dX7_startTable_7 ?_
  refine r_istore (lv2 := [(6, vI ((m_X10_cells M) * 256)), (0, vR 8), (1, vR 1), (2, vL a2), (4, vL a3)]) dX7_startTable_8 (by decide) rfl ?_
  refine r_iconst dX7_startTable_10 ?_
  refine r_istore (lv2 := [(7, vI 0), (6, vI ((m_X10_cells M) * 256)), (0, vR 8), (1, vR 1), (2, vL a2), (4, vL a3)]) dX7_startTable_11 (by decide) rfl ?_
  obtain ⟨y4, M5, h9, h⟩ := of_bd2 h
  refine r_sub (lv2 := [(0, vR 8), (1, vR 1), (2, vL a2), (4, vL a3), (6, vI ((m_X10_cells M) * 256)), (7, vI 0)]) [2, 3, 4, 5, 1, 0] rfl ?_
  refine lp_X7_startTable_L13 a2 a3 ((m_X10_cells M) * 256)  (fun w => w = (y4, M5)) ?_ FU 0 M _ h9 rfl
  intro z0 z1 hw
  cases hw
  refine r_aload_n dX7_startTable_42 rfl 0 rfl ?_
  refine r_getR (j := 0) (v := 9) dX7_startTable_43 f_X7_9 rfl rfl rfl ?_
  refine r_iload dX7_startTable_46 4 rfl ?_
  refine r_lload_n dX7_startTable_48 rfl 2 rfl ?_
  obtain ⟨c6, h⟩ := of_ck h
  obtain ⟨M7, eM7, h⟩ := of_lt h
  refine r_last dX7_startTable_49 rfl c6 ?_
  rw [← eM7]
  cases h
  exact hQ _ _ dX7_startTable_50

def m_X7_fillWaysAt_L47 (M : Mem) (p2 : Int) (p3 : Int) (p4 : Int) (p5 : Int) (p6 : Int) (p7 : Int) (x8 : Int) : Option ((Int × Mem) ⊕ (Int × Mem)) :=
  if wr (shl 1 (gI M 1 0)) ≤ wr x8 then
    some (.inr (x8, M))
  else
    if 0 ≤ wr p2 ∧ wr p2 < 64 then
    bd1 (
      if wr (gI M 2 (wr p2)) = 0 then
        if wr (iand x8 p5) = 0 then
          if 0 ≤ wr (p4 + x8) ∧ wr (p4 + x8) < 16640 then
          some ((gL M 9 (wr (p4 + x8))))
          else none
        else
          some ((0 : Int64))
      else
        if wr (iand x8 p5) = 0 then
          bd1 (
            if wr p6 = 0 then
              some ((0 : Int64))
            else
              if wr (iand x8 (2 * p5)) = 0 then
                if 0 ≤ wr ((p4 + x8) + (2 * p5)) ∧ wr ((p4 + x8) + (2 * p5)) < 16640 then
                some ((gL M 9 (wr ((p4 + x8) + (2 * p5)))))
                else none
              else
                some ((0 : Int64))) fun (v12 : Int64) =>
          if wr p7 = 0 then
            some (v12)
          else
            if 0 ≤ wr ((p4 + x8) + p5) ∧ wr ((p4 + x8) + p5) < 16640 then
            some ((v12 + (gL M 9 (wr ((p4 + x8) + p5)))))
            else none
        else
          if 0 ≤ wr ((p4 + x8) - p5) ∧ wr ((p4 + x8) - p5) < 16640 then
          some ((gL M 9 (wr ((p4 + x8) - p5))))
          else none) fun (v18 : Int64) =>
    if 0 ≤ wr (p3 + x8) ∧ wr (p3 + x8) < 16640 then
    lt (sL M 9 (wr (p3 + x8)) v18) fun M20 =>
    some (.inl ((x8 + 1), M20))
    else none
    else none
def m_X7_fillWaysAt (M : Mem) (a2 : Int) : Option (Mem) :=
  bd1 (m_X10_column M a2) fun r2 =>
  if 0 ≤ wr (2 * a2) ∧ wr (2 * a2) < 128 then
  if 0 ≤ wr ((2 * a2) + 1) ∧ wr ((2 * a2) + 1) < 128 then
  bd2 (itr (fun s => m_X7_fillWaysAt_L47 s.2 a2 (a2 * 256) ((a2 * 256) + 256) (shl 1 r2) (gI M 11 (wr (2 * a2))) (gI M 11 (wr ((2 * a2) + 1))) s.1) FU (0, M)) fun y21 M22 =>
  some M22
  else none
  else none
set_option maxRecDepth 10000 in
theorem lp_X7_fillWaysAt_L47 {G : Gx} (p2 : Int) (p3 : Int) (p4 : Int) (p5 : Int) (p6 : Int) (p7 : Int)   (X : (Int × Mem) → Prop) (hX1 : ∀ (x8 : Int) (M : Mem), X (x8, M) → Ex G 1 cX7_fillWaysAt RX7 11 191 [(0, vR 8), (1, vR 1), (2, vI p2), (3, vI p3), (4, vI p4), (5, vI p5), (6, vI p6), (7, vI p7), (8, vI x8)] [] M) : ∀ (nn : Nat) (x8 : Int) (M : Mem) (out : Int × Mem), itr (fun s => m_X7_fillWaysAt_L47 s.2 p2 p3 p4 p5 p6 p7 s.1) nn (x8, M) = some out → X out → Ex G 1 cX7_fillWaysAt RX7 11 47 [(0, vR 8), (1, vR 1), (2, vI p2), (3, vI p3), (4, vI p4), (5, vI p5), (6, vI p6), (7, vI p7), (8, vI x8)] [] M := by
  intro nn
  induction nn with
  | zero =>
    intro x8 M out h _
    cases h
  | succ nn ih =>
    intro x8 M out h0 hX
    obtain ⟨w, h, k1, k2⟩ := itr_inv h0
    have h : m_X7_fillWaysAt_L47 M p2 p3 p4 p5 p6 p7 x8 = some w := h
    unfold m_X7_fillWaysAt_L47 at h
    refine r_iload dX7_fillWaysAt_47 8 rfl ?_
    refine r_iconst dX7_fillWaysAt_49 ?_
    refine r_aload_n dX7_fillWaysAt_50 rfl 1 rfl ?_
    refine r_getI (j := 0) (jz := 0) dX7_fillWaysAt_51 f_X7_85 rfl rfl rfl ?_
    refine r_ishl dX7_fillWaysAt_54 ?_
    by_cases c5 : wr (shl 1 (gI M 1 0)) ≤ wr x8
    · rw [if_pos c5] at h
      refine r_icmp_ge (tgt := 191) dX7_fillWaysAt_55 (by decide) (fun _ => ?_) (fun q => absurd c5 q)
      cases h
      cases k2 _ rfl
      exact hX1 _ _ hX
    · rw [if_neg c5] at h
      refine r_icmp_ge (tgt := 191) dX7_fillWaysAt_55 (by decide) (fun q => absurd q c5) (fun _ => ?_)
      refine r_lconst (v := 0) dX7_fillWaysAt_58 rfl ?_
      refine r_lstore (lv2 := [(9, vL (0 : Int64)), (0, vR 8), (1, vR 1), (2, vI p2), (3, vI p3), (4, vI p4), (5, vI p5), (6, vI p6), (7, vI p7), (8, vI x8)]) dX7_fillWaysAt_59 (by decide) rfl ?_
      refine r_aload_n dX7_fillWaysAt_61 rfl 2 rfl ?_
      refine r_getR (j := 2) (v := 2) dX7_fillWaysAt_62 f_X7_91 rfl rfl rfl ?_
      refine r_iload_n dX7_fillWaysAt_65 rfl 3 rfl ?_
      obtain ⟨c6, h⟩ := of_ck h
      refine r_zald dX7_fillWaysAt_66 rfl c6 ?_
      obtain ⟨v18, h9, h⟩ := of_bd1 h
      have kJ : Ex G 1 cX7_fillWaysAt RX7 11 174 [(0, vR 8), (1, vR 1), (2, vI p2), (3, vI p3), (4, vI p4), (5, vI p5), (6, vI p6), (7, vI p7), (8, vI x8), (9, vL v18)] [] M := by
        refine r_aload_n dX7_fillWaysAt_174 rfl 0 rfl ?_
        refine r_getR (j := 0) (v := 9) dX7_fillWaysAt_175 f_X7_9 rfl rfl rfl ?_
        refine r_iload_n dX7_fillWaysAt_178 rfl 3 rfl ?_
        refine r_iload dX7_fillWaysAt_179 8 rfl ?_
        refine r_iadd dX7_fillWaysAt_181 ?_
        refine r_lload dX7_fillWaysAt_182 9 rfl ?_
        obtain ⟨c19, h⟩ := of_ck h
        obtain ⟨M20, eM20, h⟩ := of_lt h
        refine r_last dX7_fillWaysAt_184 rfl c19 ?_
        rw [← eM20]
        refine r_iinc (lv2 := [(8, vI (x8 + 1)), (0, vR 8), (1, vR 1), (2, vI p2), (3, vI p3), (4, vI p4), (5, vI p5), (6, vI p6), (7, vI p7), (9, vL v18)]) dX7_fillWaysAt_185 8 rfl (by decide) rfl ?_
        refine r_goto (tgt := 47) dX7_fillWaysAt_188 (by decide) ?_
        refine r_sub (lv2 := [(0, vR 8), (1, vR 1), (2, vI p2), (3, vI p3), (4, vI p4), (5, vI p5), (6, vI p6), (7, vI p7), (8, vI (x8 + 1))]) [1, 2, 3, 4, 5, 6, 7, 8, 0] rfl ?_
        cases h
        exact ih _ _  _ (k1 _ rfl) hX
      clear h
      have h := h9
      clear h9
      by_cases c7 : wr (gI M 2 (wr p2)) = 0
      · rw [if_pos c7] at h
        refine r_if_ne (tgt := 93) dX7_fillWaysAt_67 (by decide) (fun q => absurd c7 q) (fun _ => ?_)
        refine r_iload dX7_fillWaysAt_70 9 rfl ?_
        refine r_iload dX7_fillWaysAt_72 6 rfl ?_
        refine r_iand dX7_fillWaysAt_74 ?_
        by_cases c16 : wr (iand x8 p5) = 0
        · rw [if_pos c16] at h
          refine r_if_ne (tgt := 174) dX7_fillWaysAt_75 (by decide) (fun q => absurd c16 q) (fun _ => ?_)
          refine r_aload_n dX7_fillWaysAt_78 rfl 1 rfl ?_
          refine r_getR (j := 0) (v := 9) dX7_fillWaysAt_79 f_X7_9 rfl rfl rfl ?_
          refine r_iload dX7_fillWaysAt_82 5 rfl ?_
          refine r_iload dX7_fillWaysAt_84 9 rfl ?_
          refine r_iadd dX7_fillWaysAt_86 ?_
          obtain ⟨c17, h⟩ := of_ck h
          refine r_lald dX7_fillWaysAt_87 rfl c17 ?_
          refine r_lstore (lv2 := [(9, vL (gL M 9 (wr (p4 + x8)))), (0, vR 8), (1, vR 1), (2, vI p2), (3, vI p3), (4, vI p4), (5, vI p5), (6, vI p6), (7, vI p7), (8, vI x8)]) dX7_fillWaysAt_88 (by decide) rfl ?_
          refine r_goto (tgt := 174) dX7_fillWaysAt_90 (by decide) ?_
          refine r_sub (lv2 := [(0, vR 8), (1, vR 1), (2, vI p2), (3, vI p3), (4, vI p4), (5, vI p5), (6, vI p6), (7, vI p7), (8, vI x8), (9, vL (gL M 9 (wr (p4 + x8))))]) [1, 2, 3, 4, 5, 6, 7, 8, 9, 0] rfl ?_
          cases h
          exact kJ
        · rw [if_neg c16] at h
          refine r_if_ne (tgt := 174) dX7_fillWaysAt_75 (by decide) (fun _ => ?_) (fun q => absurd q c16)
          refine r_sub (lv2 := [(0, vR 8), (1, vR 1), (2, vI p2), (3, vI p3), (4, vI p4), (5, vI p5), (6, vI p6), (7, vI p7), (8, vI x8), (9, vL (0 : Int64))]) [1, 2, 3, 4, 5, 6, 7, 8, 9, 0] rfl ?_
          cases h
          exact kJ
      · rw [if_neg c7] at h
        refine r_if_ne (tgt := 93) dX7_fillWaysAt_67 (by decide) (fun _ => ?_) (fun q => absurd q c7)
        refine r_iload dX7_fillWaysAt_93 9 rfl ?_
        refine r_iload dX7_fillWaysAt_95 6 rfl ?_
        refine r_iand dX7_fillWaysAt_97 ?_
        by_cases c8 : wr (iand x8 p5) = 0
        · rw [if_pos c8] at h
          refine r_if_eq (tgt := 119) dX7_fillWaysAt_98 (by decide) (fun _ => ?_) (fun q => absurd c8 q)
          refine r_iload dX7_fillWaysAt_119 7 rfl ?_
          obtain ⟨v12, h9, h⟩ := of_bd1 h
          have kJ : Ex G 1 cX7_fillWaysAt RX7 11 151 [(0, vR 8), (1, vR 1), (2, vI p2), (3, vI p3), (4, vI p4), (5, vI p5), (6, vI p6), (7, vI p7), (8, vI x8), (9, vL v12)] [] M := by
            refine r_iload dX7_fillWaysAt_151 7 rfl ?_
            by_cases c13 : wr p7 = 0
            · rw [if_pos c13] at h
              refine r_if_eq (tgt := 174) dX7_fillWaysAt_153 (by decide) (fun _ => ?_) (fun q => absurd c13 q)
              cases h
              exact kJ
            · rw [if_neg c13] at h
              refine r_if_eq (tgt := 174) dX7_fillWaysAt_153 (by decide) (fun q => absurd q c13) (fun _ => ?_)
              refine r_lload dX7_fillWaysAt_156 9 rfl ?_
              refine r_aload_n dX7_fillWaysAt_158 rfl 0 rfl ?_
              refine r_getR (j := 0) (v := 9) dX7_fillWaysAt_159 f_X7_9 rfl rfl rfl ?_
              refine r_iload dX7_fillWaysAt_162 4 rfl ?_
              refine r_iload dX7_fillWaysAt_164 8 rfl ?_
              refine r_iadd dX7_fillWaysAt_166 ?_
              refine r_iload dX7_fillWaysAt_167 5 rfl ?_
              refine r_iadd dX7_fillWaysAt_169 ?_
              obtain ⟨c14, h⟩ := of_ck h
              refine r_lald dX7_fillWaysAt_170 rfl c14 ?_
              refine r_ladd dX7_fillWaysAt_171 ?_
              refine r_lstore (lv2 := [(9, vL (v12 + (gL M 9 (wr ((p4 + x8) + p5))))), (0, vR 8), (1, vR 1), (2, vI p2), (3, vI p3), (4, vI p4), (5, vI p5), (6, vI p6), (7, vI p7), (8, vI x8)]) dX7_fillWaysAt_172 (by decide) rfl ?_
              refine r_sub (lv2 := [(0, vR 8), (1, vR 1), (2, vI p2), (3, vI p3), (4, vI p4), (5, vI p5), (6, vI p6), (7, vI p7), (8, vI x8), (9, vL (v12 + (gL M 9 (wr ((p4 + x8) + p5)))))]) [1, 2, 3, 4, 5, 6, 7, 8, 9, 0] rfl ?_
              cases h
              exact kJ
          clear h
          have h := h9
          clear h9
          by_cases c9 : wr p6 = 0
          · rw [if_pos c9] at h
            refine r_if_eq (tgt := 151) dX7_fillWaysAt_121 (by decide) (fun _ => ?_) (fun q => absurd c9 q)
            refine r_sub (lv2 := [(0, vR 8), (1, vR 1), (2, vI p2), (3, vI p3), (4, vI p4), (5, vI p5), (6, vI p6), (7, vI p7), (8, vI x8), (9, vL (0 : Int64))]) [1, 2, 3, 4, 5, 6, 7, 8, 9, 0] rfl ?_
            cases h
            exact kJ
          · rw [if_neg c9] at h
            refine r_if_eq (tgt := 151) dX7_fillWaysAt_121 (by decide) (fun q => absurd q c9) (fun _ => ?_)
            refine r_iload dX7_fillWaysAt_124 9 rfl ?_
            refine r_iconst dX7_fillWaysAt_126 ?_
            refine r_iload dX7_fillWaysAt_127 6 rfl ?_
            refine r_imul dX7_fillWaysAt_129 ?_
            refine r_iand dX7_fillWaysAt_130 ?_
            by_cases c10 : wr (iand x8 (2 * p5)) = 0
            · rw [if_pos c10] at h
              refine r_if_ne (tgt := 151) dX7_fillWaysAt_131 (by decide) (fun q => absurd c10 q) (fun _ => ?_)
              refine r_aload_n dX7_fillWaysAt_134 rfl 1 rfl ?_
              refine r_getR (j := 0) (v := 9) dX7_fillWaysAt_135 f_X7_9 rfl rfl rfl ?_
              refine r_iload dX7_fillWaysAt_138 5 rfl ?_
              refine r_iload dX7_fillWaysAt_140 9 rfl ?_
              refine r_iadd dX7_fillWaysAt_142 ?_
              refine r_iconst dX7_fillWaysAt_143 ?_
              refine r_iload dX7_fillWaysAt_144 6 rfl ?_
              refine r_imul dX7_fillWaysAt_146 ?_
              refine r_iadd dX7_fillWaysAt_147 ?_
              obtain ⟨c11, h⟩ := of_ck h
              refine r_lald dX7_fillWaysAt_148 rfl c11 ?_
              refine r_lstore (lv2 := [(9, vL (gL M 9 (wr ((p4 + x8) + (2 * p5))))), (0, vR 8), (1, vR 1), (2, vI p2), (3, vI p3), (4, vI p4), (5, vI p5), (6, vI p6), (7, vI p7), (8, vI x8)]) dX7_fillWaysAt_149 (by decide) rfl ?_
              refine r_sub (lv2 := [(0, vR 8), (1, vR 1), (2, vI p2), (3, vI p3), (4, vI p4), (5, vI p5), (6, vI p6), (7, vI p7), (8, vI x8), (9, vL (gL M 9 (wr ((p4 + x8) + (2 * p5)))))]) [1, 2, 3, 4, 5, 6, 7, 8, 9, 0] rfl ?_
              cases h
              exact kJ
            · rw [if_neg c10] at h
              refine r_if_ne (tgt := 151) dX7_fillWaysAt_131 (by decide) (fun _ => ?_) (fun q => absurd q c10)
              refine r_sub (lv2 := [(0, vR 8), (1, vR 1), (2, vI p2), (3, vI p3), (4, vI p4), (5, vI p5), (6, vI p6), (7, vI p7), (8, vI x8), (9, vL (0 : Int64))]) [1, 2, 3, 4, 5, 6, 7, 8, 9, 0] rfl ?_
              cases h
              exact kJ
        · rw [if_neg c8] at h
          refine r_if_eq (tgt := 119) dX7_fillWaysAt_98 (by decide) (fun q => absurd q c8) (fun _ => ?_)
          refine r_aload_n dX7_fillWaysAt_101 rfl 1 rfl ?_
          refine r_getR (j := 0) (v := 9) dX7_fillWaysAt_102 f_X7_9 rfl rfl rfl ?_
          refine r_iload dX7_fillWaysAt_105 5 rfl ?_
          refine r_iload dX7_fillWaysAt_107 9 rfl ?_
          refine r_iadd dX7_fillWaysAt_109 ?_
          refine r_iload dX7_fillWaysAt_110 6 rfl ?_
          refine r_isub dX7_fillWaysAt_112 ?_
          obtain ⟨c15, h⟩ := of_ck h
          refine r_lald dX7_fillWaysAt_113 rfl c15 ?_
          refine r_lstore (lv2 := [(9, vL (gL M 9 (wr ((p4 + x8) - p5)))), (0, vR 8), (1, vR 1), (2, vI p2), (3, vI p3), (4, vI p4), (5, vI p5), (6, vI p6), (7, vI p7), (8, vI x8)]) dX7_fillWaysAt_114 (by decide) rfl ?_
          refine r_goto (tgt := 174) dX7_fillWaysAt_116 (by decide) ?_
          refine r_sub (lv2 := [(0, vR 8), (1, vR 1), (2, vI p2), (3, vI p3), (4, vI p4), (5, vI p5), (6, vI p6), (7, vI p7), (8, vI x8), (9, vL (gL M 9 (wr ((p4 + x8) - p5))))]) [1, 2, 3, 4, 5, 6, 7, 8, 9, 0] rfl ?_
          cases h
          exact kJ

set_option maxRecDepth 10000 in
theorem run_X7_fillWaysAt {M : Mem} {M2 : Mem} {a2 : Int}   (h : m_X7_fillWaysAt M a2 = some (M2)) : RunV 1 yX7_fillWaysAt cX7_fillWaysAt 11 none [vR 8, vR 1, vI a2] M M2 := by
  refine runV_of (lv := [(0, vR 8), (1, vR 1), (2, vI a2)]) (by decide +kernel) rfl (Nat.le_of_ble_eq_true rfl) rfl ?_
  intro G hQ
  unfold m_X7_fillWaysAt at h
  refine r_iload_n dX7_fillWaysAt_0 rfl 2 rfl ?_
  refine r_sipush dX7_fillWaysAt_1 (by decide) ?_
  refine r_imul dX7_fillWaysAt_4 ?_
  refine r_istore_n (lv2 := [(3, vI (a2 * 256)), (0, vR 8), (1, vR 1), (2, vI a2)]) dX7_fillWaysAt_5 rfl (by decide) rfl ?_
  refine r_iload_n dX7_fillWaysAt_6 rfl 0 rfl ?_
  refine r_sipush dX7_fillWaysAt_7 (by decide) ?_
  refine r_iadd dX7_fillWaysAt_10 ?_
  refine r_istore (lv2 := [(4, vI ((a2 * 256) + 256)), (3, vI (a2 * 256)), (0, vR 8), (1, vR 1), (2, vI a2)]) dX7_fillWaysAt_11 (by decide) rfl ?_
  refine r_iconst dX7_fillWaysAt_13 ?_
  refine r_aload_n dX7_fillWaysAt_14 rfl 3 rfl ?_
  refine r_iload_n dX7_fillWaysAt_15 rfl 4 rfl ?_
  obtain ⟨r2, hc1, h⟩ := of_bd1 h
  refine r_callVI (st := [vI 1]) dX7_fillWaysAt_16 v_X7_88 (run_X10_column hc1) (by decide) (by decide) rfl rfl (Nat.le_of_ble_eq_true rfl) rfl ?_
  refine r_ishl dX7_fillWaysAt_19 ?_
  refine r_istore (lv2 := [(5, vI (shl 1 r2)), (4, vI ((a2 * 256) + 256)), (3, vI (a2 * 256)), (0, vR 8), (1, vR 1), (2, vI a2)]) dX7_fillWaysAt_20 (by decide) rfl ?_
  refine r_aload_n dX7_fillWaysAt_22 rfl 3 rfl ?_
  refine r_getR (j := 2) (v := 11) dX7_fillWaysAt_23 f_X7_18 rfl rfl rfl ?_
  refine r_iconst dX7_fillWaysAt_26 ?_
  refine r_iload_n dX7_fillWaysAt_27 rfl 5 rfl ?_
  refine r_imul dX7_fillWaysAt_28 ?_
  obtain ⟨c3, h⟩ := of_ck h
  refine r_zald dX7_fillWaysAt_29 rfl c3 ?_
  refine r_istore (lv2 := [(6, vI (gI M 11 (wr (2 * a2)))), (5, vI (shl 1 r2)), (4, vI ((a2 * 256) + 256)), (3, vI (a2 * 256)), (0, vR 8), (1, vR 1), (2, vI a2)]) dX7_fillWaysAt_30 (by decide) rfl ?_
  refine r_aload_n dX7_fillWaysAt_32 rfl 4 rfl ?_
  refine r_getR (j := 2) (v := 11) dX7_fillWaysAt_33 f_X7_18 rfl rfl rfl ?_
  refine r_iconst dX7_fillWaysAt_36 ?_
  refine r_iload_n dX7_fillWaysAt_37 rfl 6 rfl ?_
  refine r_imul dX7_fillWaysAt_38 ?_
  refine r_iconst dX7_fillWaysAt_39 ?_
  refine r_iadd dX7_fillWaysAt_40 ?_
  obtain ⟨c4, h⟩ := of_ck h
  refine r_zald dX7_fillWaysAt_41 rfl c4 ?_
  refine r_istore (lv2 := [(7, vI (gI M 11 (wr ((2 * a2) + 1)))), (6, vI (gI M 11 (wr (2 * a2)))), (5, vI (shl 1 r2)), (4, vI ((a2 * 256) + 256)), (3, vI (a2 * 256)), (0, vR 8), (1, vR 1), (2, vI a2)]) dX7_fillWaysAt_42 (by decide) rfl ?_
  refine r_iconst dX7_fillWaysAt_44 ?_
  refine r_istore (lv2 := [(8, vI 0), (7, vI (gI M 11 (wr ((2 * a2) + 1)))), (6, vI (gI M 11 (wr (2 * a2)))), (5, vI (shl 1 r2)), (4, vI ((a2 * 256) + 256)), (3, vI (a2 * 256)), (0, vR 8), (1, vR 1), (2, vI a2)]) dX7_fillWaysAt_45 (by decide) rfl ?_
  obtain ⟨y21, M22, h9, h⟩ := of_bd2 h
  refine r_sub (lv2 := [(0, vR 8), (1, vR 1), (2, vI a2), (3, vI (a2 * 256)), (4, vI ((a2 * 256) + 256)), (5, vI (shl 1 r2)), (6, vI (gI M 11 (wr (2 * a2)))), (7, vI (gI M 11 (wr ((2 * a2) + 1)))), (8, vI 0)]) [6, 7, 8, 5, 4, 3, 2, 1, 0] rfl ?_
  refine lp_X7_fillWaysAt_L47 a2 (a2 * 256) ((a2 * 256) + 256) (shl 1 r2) (gI M 11 (wr (2 * a2))) (gI M 11 (wr ((2 * a2) + 1)))  (fun w => w = (y21, M22)) ?_ FU 0 M _ h9 rfl
  intro z0 z1 hw
  cases hw
  cases h
  exact hQ _ _ dX7_fillWaysAt_191

def m_X7_fillWays_L28 (M : Mem)  (x2 : Int) : Option ((Int × Mem) ⊕ (Int × Mem)) :=
  if wr x2 < 0 then
    some (.inr (x2, M))
  else
    bd1 (m_X7_fillWaysAt M x2) fun M8 =>
    some (.inl ((x2 + (-1)), M8))
def m_X7_fillWays (M : Mem) : Option (Mem) :=
  if wr (gI M 8 5) = wr 1 then
    some M
  else
    bd1 (m_X7_findFits M) fun M3 =>
    bd1 (m_X7_startTable M3 (1 : Int64) (0 : Int64)) fun M5 =>
    bd2 (itr (fun s => m_X7_fillWays_L28 s.2  s.1) FU (((m_X10_cells M5) - 1), M5)) fun y9 M10 =>
    lt (sI M10 8 5 1) fun M11 =>
    some M11
set_option maxRecDepth 10000 in
theorem lp_X7_fillWays_L28 {G : Gx}    (X : (Int × Mem) → Prop) (hX1 : ∀ (x2 : Int) (M : Mem), X (x2, M) → Ex G 4 cX7_fillWays RX7 3 44 [(0, vR 8), (1, vR 1), (2, vI x2)] [] M) : ∀ (nn : Nat) (x2 : Int) (M : Mem) (out : Int × Mem), itr (fun s => m_X7_fillWays_L28 s.2  s.1) nn (x2, M) = some out → X out → Ex G 4 cX7_fillWays RX7 3 28 [(0, vR 8), (1, vR 1), (2, vI x2)] [] M := by
  intro nn
  induction nn with
  | zero =>
    intro x2 M out h _
    cases h
  | succ nn ih =>
    intro x2 M out h0 hX
    obtain ⟨w, h, k1, k2⟩ := itr_inv h0
    have h : m_X7_fillWays_L28 M  x2 = some w := h
    unfold m_X7_fillWays_L28 at h
    refine r_iload_n dX7_fillWays_28 rfl 2 rfl ?_
    by_cases c6 : wr x2 < 0
    · rw [if_pos c6] at h
      refine r_if_lt (tgt := 44) dX7_fillWays_29 (by decide) (fun _ => ?_) (fun q => absurd c6 q)
      cases h
      cases k2 _ rfl
      exact hX1 _ _ hX
    · rw [if_neg c6] at h
      refine r_if_lt (tgt := 44) dX7_fillWays_29 (by decide) (fun q => absurd q c6) (fun _ => ?_)
      refine r_aload_n dX7_fillWays_32 rfl 0 rfl ?_
      refine r_aload_n dX7_fillWays_33 rfl 1 rfl ?_
      refine r_iload_n dX7_fillWays_34 rfl 2 rfl ?_
      obtain ⟨M8, hc7, h⟩ := of_bd1 h
      refine r_callVV (st := []) dX7_fillWays_35 v_X7_76 (run_X7_fillWaysAt hc7) (by decide) (by decide) rfl rfl (Nat.le_of_ble_eq_true rfl) rfl ?_
      refine r_iinc (lv2 := [(2, vI (x2 + (-1))), (0, vR 8), (1, vR 1)]) dX7_fillWays_38 2 rfl (by decide) rfl ?_
      refine r_goto (tgt := 28) dX7_fillWays_41 (by decide) ?_
      refine r_sub (lv2 := [(0, vR 8), (1, vR 1), (2, vI (x2 + (-1)))]) [1, 2, 0] rfl ?_
      cases h
      exact ih _ _  _ (k1 _ rfl) hX

set_option maxRecDepth 10000 in
theorem run_X7_fillWays {M : Mem} {M2 : Mem}   (h : m_X7_fillWays M = some (M2)) : RunV 4 yX7_fillWays cX7_fillWays 3 none [vR 8, vR 1] M M2 := by
  refine runV_of (lv := [(0, vR 8), (1, vR 1)]) (by decide +kernel) rfl (Nat.le_of_ble_eq_true rfl) rfl ?_
  intro G hQ
  unfold m_X7_fillWays at h
  refine r_aload_n dX7_fillWays_0 rfl 0 rfl ?_
  refine r_getI (j := 5) (jz := 5) dX7_fillWays_1 f_X7_28 rfl rfl rfl ?_
  refine r_iconst dX7_fillWays_4 ?_
  by_cases c1 : wr (gI M 8 5) = wr 1
  · rw [if_pos c1] at h
    refine r_icmp_ne (tgt := 9) dX7_fillWays_5 (by decide) (fun q => absurd c1 q) (fun _ => ?_)
    cases h
    exact hQ _ _ dX7_fillWays_8
  · rw [if_neg c1] at h
    refine r_icmp_ne (tgt := 9) dX7_fillWays_5 (by decide) (fun _ => ?_) (fun q => absurd q c1)
    refine r_aload_n dX7_fillWays_9 rfl 0 rfl ?_
    refine r_aload_n dX7_fillWays_10 rfl 1 rfl ?_
    obtain ⟨M3, hc2, h⟩ := of_bd1 h
    refine r_callVV (st := []) dX7_fillWays_11 v_X7_69 (run_X7_findFits hc2) (by decide) (by decide) rfl rfl (Nat.le_of_ble_eq_true rfl) rfl ?_
    refine r_aload_n dX7_fillWays_14 rfl 0 rfl ?_
    refine r_aload_n dX7_fillWays_15 rfl 1 rfl ?_
    refine r_lconst (v := 1) dX7_fillWays_16 rfl ?_
    refine r_lconst (v := 0) dX7_fillWays_17 rfl ?_
    obtain ⟨M5, hc4, h⟩ := of_bd1 h
    refine r_callVV (st := []) dX7_fillWays_18 v_X7_72 (run_X7_startTable hc4) (by decide) (by decide) rfl rfl (Nat.le_of_ble_eq_true rfl) rfl ?_
    refine r_aload_n dX7_fillWays_21 rfl 1 rfl ?_
    refine r_callVI (st := []) dX7_fillWays_22 v_X7_43 (run_X10_cells rfl) (by decide) (by decide) rfl rfl (Nat.le_of_ble_eq_true rfl) rfl ?_
    refine r_iconst dX7_fillWays_25 ?_
    refine r_isub dX7_fillWays_26 ?_
    refine r_istore_n (lv2 := [(2, vI ((m_X10_cells M5) - 1)), (0, vR 8), (1, vR 1)]) dX7_fillWays_27 rfl (by decide) rfl ?_
    obtain ⟨y9, M10, h9, h⟩ := of_bd2 h
    refine r_sub (lv2 := [(0, vR 8), (1, vR 1), (2, vI ((m_X10_cells M5) - 1))]) [1, 2, 0] rfl ?_
    refine lp_X7_fillWays_L28   (fun w => w = (y9, M10)) ?_ FU ((m_X10_cells M5) - 1) M5 _ h9 rfl
    intro z0 z1 hw
    cases hw
    refine r_aload_n dX7_fillWays_44 rfl 0 rfl ?_
    refine r_iconst dX7_fillWays_45 ?_
    obtain ⟨M11, eM11, h⟩ := of_lt h
    refine r_putI (j := 5) (jz := 5) dX7_fillWays_46 p_X7_28 rfl rfl rfl rfl rfl ?_
    rw [← eM11]
    cases h
    exact hQ _ _ dX7_fillWays_49

def m_X7_total (M : Mem) : Option (Int64 × Mem) :=
  bd1 (m_X7_fillWays M) fun M2 =>
  some ((gL M2 9 (wr 0)), M2)
set_option maxRecDepth 10000 in
theorem run_X7_total {M : Mem} {M2 : Mem} {r : Int64}   (h : m_X7_total M = some (r, M2)) : RunL 5 yX7_total cX7_total 2 (some .long) [vR 8, vR 1] M r M2 := by
  refine runL_of (lv := [(0, vR 8), (1, vR 1)]) (by decide +kernel) rfl (Nat.le_of_ble_eq_true rfl) rfl ?_
  intro G hQ
  unfold m_X7_total at h
  refine r_aload_n dX7_total_0 rfl 0 rfl ?_
  refine r_aload_n dX7_total_1 rfl 1 rfl ?_
  obtain ⟨M2, hc1, h⟩ := of_bd1 h
  refine r_callVV (st := []) dX7_total_2 v_X7_36 (run_X7_fillWays hc1) (by decide) (by decide) rfl rfl (Nat.le_of_ble_eq_true rfl) rfl ?_
  refine r_aload_n dX7_total_5 rfl 0 rfl ?_
  refine r_getR (j := 0) (v := 9) dX7_total_6 f_X7_9 rfl rfl rfl ?_
  refine r_iconst dX7_total_9 ?_
  refine r_lald dX7_total_10 rfl (by decide) ?_
  cases h
  exact hQ _ _ dX7_total_11

def m_X7_canEast (M : Mem) (a2 : Int) (a3 : Int) : Option (Bool) :=
  if 0 ≤ wr (2 * a2) ∧ wr (2 * a2) < 128 then
  bd1 (
    if wr (gI M 11 (wr (2 * a2))) = 0 then
      some (0)
    else
      bd1 (m_X10_column M a2) fun r4 =>
      if wr (iand a3 (shl 2 r4)) = 0 then
        some (1)
      else
        some (0)) fun (v6 : Int) =>
  if v6 = 0 ∨ v6 = 1 then some (decide (v6 = 1)) else none
  else none
set_option maxRecDepth 10000 in
theorem run_X7_canEast {M : Mem} {a2 : Int} {a3 : Int} {r : Bool}   (h : m_X7_canEast M a2 a3 = some r) : RunI 1 yX7_canEast cX7_canEast 4 (some .boolean) [vR 8, vR 1, vI a2, vI a3] M (bI r) M := by
  refine runI_of (lv := [(0, vR 8), (1, vR 1), (2, vI a2), (3, vI a3)]) (by decide +kernel) (Or.inr ⟨rfl, bI_01 r⟩) (Nat.le_of_ble_eq_true rfl) rfl ?_
  intro G hQ
  unfold m_X7_canEast at h
  refine r_aload_n dX7_canEast_0 rfl 0 rfl ?_
  refine r_getR (j := 2) (v := 11) dX7_canEast_1 f_X7_18 rfl rfl rfl ?_
  refine r_iconst dX7_canEast_4 ?_
  refine r_iload_n dX7_canEast_5 rfl 2 rfl ?_
  refine r_imul dX7_canEast_6 ?_
  obtain ⟨c1, h⟩ := of_ck h
  refine r_zald dX7_canEast_7 rfl c1 ?_
  obtain ⟨v6, h9, h⟩ := of_bd1 h
  have kJ : Ex G 1 cX7_canEast RX7 4 28 [] [vI v6] M := by
    obtain ⟨cz, h⟩ := of_ck h
    rw [← bI_dec cz]
    cases h
    exact hQ _ _ dX7_canEast_28
  clear h
  have h := h9
  clear h9
  by_cases c2 : wr (gI M 11 (wr (2 * a2))) = 0
  · rw [if_pos c2] at h
    refine r_if_eq (tgt := 27) dX7_canEast_8 (by decide) (fun _ => ?_) (fun q => absurd c2 q)
    refine r_iconst dX7_canEast_27 ?_
    refine r_sub (lv2 := []) [] rfl ?_
    cases h
    exact kJ
  · rw [if_neg c2] at h
    refine r_if_eq (tgt := 27) dX7_canEast_8 (by decide) (fun q => absurd q c2) (fun _ => ?_)
    refine r_iload_n dX7_canEast_11 rfl 3 rfl ?_
    refine r_iconst dX7_canEast_12 ?_
    refine r_aload_n dX7_canEast_13 rfl 1 rfl ?_
    refine r_iload_n dX7_canEast_14 rfl 2 rfl ?_
    obtain ⟨r4, hc3, h⟩ := of_bd1 h
    refine r_callVI (st := [vI 2, vI a3]) dX7_canEast_15 v_X7_88 (run_X10_column hc3) (by decide) (by decide) rfl rfl (Nat.le_of_ble_eq_true rfl) rfl ?_
    refine r_ishl dX7_canEast_18 ?_
    refine r_iand dX7_canEast_19 ?_
    by_cases c5 : wr (iand a3 (shl 2 r4)) = 0
    · rw [if_pos c5] at h
      refine r_if_ne (tgt := 27) dX7_canEast_20 (by decide) (fun q => absurd c5 q) (fun _ => ?_)
      refine r_iconst dX7_canEast_23 ?_
      refine r_goto (tgt := 28) dX7_canEast_24 (by decide) ?_
      refine r_sub (lv2 := []) [] rfl ?_
      cases h
      exact kJ
    · rw [if_neg c5] at h
      refine r_if_ne (tgt := 27) dX7_canEast_20 (by decide) (fun _ => ?_) (fun q => absurd q c5)
      refine r_iconst dX7_canEast_27 ?_
      refine r_sub (lv2 := []) [] rfl ?_
      cases h
      exact kJ

def m_X7_costEast (M : Mem) (a2 : Int) (a3 : Int) : Option (Int64) :=
  bd1 (m_X7_canEast M a2 a3) fun b2 =>
  if wr (bI b2) = 0 then
    some (1099511627776)
  else
    if 0 ≤ wr (2 * a2) ∧ wr (2 * a2) < 128 then
    bd1 (m_X10_column M a2) fun r6 =>
    if 0 ≤ wr ((((a2 + 1) * 256) + a3) + (shl 2 r6)) ∧ wr ((((a2 + 1) * 256) + a3) + (shl 2 r6)) < 16640 then
    some (lmn (1099511627776) ((i2l (gI M 4 (wr (2 * a2)))) + (gL M 9 (wr ((((a2 + 1) * 256) + a3) + (shl 2 r6))))))
    else none
    else none
set_option maxRecDepth 10000 in
theorem run_X7_costEast {M : Mem} {a2 : Int} {a3 : Int} {r : Int64}   (h : m_X7_costEast M a2 a3 = some r) : RunL 2 yX7_costEast cX7_costEast 4 (some .long) [vR 8, vR 1, vI a2, vI a3] M r M := by
  refine runL_of (lv := [(0, vR 8), (1, vR 1), (2, vI a2), (3, vI a3)]) (by decide +kernel) rfl (Nat.le_of_ble_eq_true rfl) rfl ?_
  intro G hQ
  unfold m_X7_costEast at h
  refine r_aload_n dX7_costEast_0 rfl 0 rfl ?_
  refine r_aload_n dX7_costEast_1 rfl 1 rfl ?_
  refine r_iload_n dX7_costEast_2 rfl 2 rfl ?_
  refine r_iload_n dX7_costEast_3 rfl 3 rfl ?_
  obtain ⟨b2, hc1, h⟩ := of_bd1 h
  refine r_callVI (st := []) dX7_costEast_4 v_X7_107 (run_X7_canEast hc1) (by decide) (by decide) rfl rfl (Nat.le_of_ble_eq_true rfl) rfl ?_
  by_cases c3 : wr (bI b2) = 0
  · rw [if_pos c3] at h
    refine r_if_ne (tgt := 14) dX7_costEast_7 (by decide) (fun q => absurd c3 q) (fun _ => ?_)
    refine r_ldc2 (v := (1099511627776)) dX7_costEast_10 kl_X7_80 ?_
    cases h
    exact hQ _ _ dX7_costEast_13
  · rw [if_neg c3] at h
    refine r_if_ne (tgt := 14) dX7_costEast_7 (by decide) (fun _ => ?_) (fun q => absurd q c3)
    refine r_ldc2 (v := (1099511627776)) dX7_costEast_14 kl_X7_80 ?_
    refine r_aload_n dX7_costEast_17 rfl 1 rfl ?_
    refine r_getR (j := 4) (v := 4) dX7_costEast_18 f_X7_111 rfl rfl rfl ?_
    refine r_iconst dX7_costEast_21 ?_
    refine r_iload_n dX7_costEast_22 rfl 2 rfl ?_
    refine r_imul dX7_costEast_23 ?_
    obtain ⟨c4, h⟩ := of_ck h
    refine r_iald dX7_costEast_24 rfl c4 ?_
    refine r_i2l dX7_costEast_25 ?_
    refine r_aload_n dX7_costEast_26 rfl 0 rfl ?_
    refine r_getR (j := 0) (v := 9) dX7_costEast_27 f_X7_9 rfl rfl rfl ?_
    refine r_iload_n dX7_costEast_30 rfl 2 rfl ?_
    refine r_iconst dX7_costEast_31 ?_
    refine r_iadd dX7_costEast_32 ?_
    refine r_sipush dX7_costEast_33 (by decide) ?_
    refine r_imul dX7_costEast_36 ?_
    refine r_iload_n dX7_costEast_37 rfl 3 rfl ?_
    refine r_iadd dX7_costEast_38 ?_
    refine r_iconst dX7_costEast_39 ?_
    refine r_aload_n dX7_costEast_40 rfl 1 rfl ?_
    refine r_iload_n dX7_costEast_41 rfl 2 rfl ?_
    obtain ⟨r6, hc5, h⟩ := of_bd1 h
    refine r_callVI (st := [vI 2, vI (((a2 + 1) * 256) + a3), vR 9, vL (i2l (gI M 4 (wr (2 * a2)))), vL (1099511627776)]) dX7_costEast_42 v_X7_88 (run_X10_column hc5) (by decide) (by decide) rfl rfl (Nat.le_of_ble_eq_true rfl) rfl ?_
    refine r_ishl dX7_costEast_45 ?_
    refine r_iadd dX7_costEast_46 ?_
    obtain ⟨c7, h⟩ := of_ck h
    refine r_lald dX7_costEast_47 rfl c7 ?_
    refine r_ladd dX7_costEast_48 ?_
    refine r_lmin dX7_costEast_49 mm_X7_101 (by decide) (Nat.le_of_ble_eq_true rfl) ?_
    cases h
    exact hQ _ _ dX7_costEast_52

def m_X7_costSouth (M : Mem) (a2 : Int) (a3 : Int) : Option (Int64) :=
  if 0 ≤ wr ((2 * a2) + 1) ∧ wr ((2 * a2) + 1) < 128 then
  if wr (gI M 11 (wr ((2 * a2) + 1))) = 0 then
    some (1099511627776)
  else
    bd1 (m_X10_column M a2) fun r4 =>
    if 0 ≤ wr ((((a2 + 1) * 256) + a3) + (shl 1 r4)) ∧ wr ((((a2 + 1) * 256) + a3) + (shl 1 r4)) < 16640 then
    some (lmn (1099511627776) ((i2l (gI M 4 (wr ((2 * a2) + 1)))) + (gL M 9 (wr ((((a2 + 1) * 256) + a3) + (shl 1 r4))))))
    else none
  else none
set_option maxRecDepth 10000 in
theorem run_X7_costSouth {M : Mem} {a2 : Int} {a3 : Int} {r : Int64}   (h : m_X7_costSouth M a2 a3 = some r) : RunL 1 yX7_costSouth cX7_costSouth 4 (some .long) [vR 8, vR 1, vI a2, vI a3] M r M := by
  refine runL_of (lv := [(0, vR 8), (1, vR 1), (2, vI a2), (3, vI a3)]) (by decide +kernel) rfl (Nat.le_of_ble_eq_true rfl) rfl ?_
  intro G hQ
  unfold m_X7_costSouth at h
  refine r_aload_n dX7_costSouth_0 rfl 0 rfl ?_
  refine r_getR (j := 2) (v := 11) dX7_costSouth_1 f_X7_18 rfl rfl rfl ?_
  refine r_iconst dX7_costSouth_4 ?_
  refine r_iload_n dX7_costSouth_5 rfl 2 rfl ?_
  refine r_imul dX7_costSouth_6 ?_
  refine r_iconst dX7_costSouth_7 ?_
  refine r_iadd dX7_costSouth_8 ?_
  obtain ⟨c1, h⟩ := of_ck h
  refine r_zald dX7_costSouth_9 rfl c1 ?_
  by_cases c2 : wr (gI M 11 (wr ((2 * a2) + 1))) = 0
  · rw [if_pos c2] at h
    refine r_if_ne (tgt := 17) dX7_costSouth_10 (by decide) (fun q => absurd c2 q) (fun _ => ?_)
    refine r_ldc2 (v := (1099511627776)) dX7_costSouth_13 kl_X7_80 ?_
    cases h
    exact hQ _ _ dX7_costSouth_16
  · rw [if_neg c2] at h
    refine r_if_ne (tgt := 17) dX7_costSouth_10 (by decide) (fun _ => ?_) (fun q => absurd q c2)
    refine r_ldc2 (v := (1099511627776)) dX7_costSouth_17 kl_X7_80 ?_
    refine r_aload_n dX7_costSouth_20 rfl 1 rfl ?_
    refine r_getR (j := 4) (v := 4) dX7_costSouth_21 f_X7_111 rfl rfl rfl ?_
    refine r_iconst dX7_costSouth_24 ?_
    refine r_iload_n dX7_costSouth_25 rfl 2 rfl ?_
    refine r_imul dX7_costSouth_26 ?_
    refine r_iconst dX7_costSouth_27 ?_
    refine r_iadd dX7_costSouth_28 ?_
    refine r_iald dX7_costSouth_29 rfl c1 ?_
    refine r_i2l dX7_costSouth_30 ?_
    refine r_aload_n dX7_costSouth_31 rfl 0 rfl ?_
    refine r_getR (j := 0) (v := 9) dX7_costSouth_32 f_X7_9 rfl rfl rfl ?_
    refine r_iload_n dX7_costSouth_35 rfl 2 rfl ?_
    refine r_iconst dX7_costSouth_36 ?_
    refine r_iadd dX7_costSouth_37 ?_
    refine r_sipush dX7_costSouth_38 (by decide) ?_
    refine r_imul dX7_costSouth_41 ?_
    refine r_iload_n dX7_costSouth_42 rfl 3 rfl ?_
    refine r_iadd dX7_costSouth_43 ?_
    refine r_iconst dX7_costSouth_44 ?_
    refine r_aload_n dX7_costSouth_45 rfl 1 rfl ?_
    refine r_iload_n dX7_costSouth_46 rfl 2 rfl ?_
    obtain ⟨r4, hc3, h⟩ := of_bd1 h
    refine r_callVI (st := [vI 1, vI (((a2 + 1) * 256) + a3), vR 9, vL (i2l (gI M 4 (wr ((2 * a2) + 1)))), vL (1099511627776)]) dX7_costSouth_47 v_X7_88 (run_X10_column hc3) (by decide) (by decide) rfl rfl (Nat.le_of_ble_eq_true rfl) rfl ?_
    refine r_ishl dX7_costSouth_50 ?_
    refine r_iadd dX7_costSouth_51 ?_
    obtain ⟨c5, h⟩ := of_ck h
    refine r_lald dX7_costSouth_52 rfl c5 ?_
    refine r_ladd dX7_costSouth_53 ?_
    refine r_lmin dX7_costSouth_54 mm_X7_101 (by decide) (Nat.le_of_ble_eq_true rfl) ?_
    cases h
    exact hQ _ _ dX7_costSouth_57

def m_X7_fillCostsAt_L25 (M : Mem) (p2 : Int) (p3 : Int) (p4 : Int) (p5 : Int) (x6 : Int) : Option ((Int × Mem) ⊕ (Int × Mem)) :=
  if wr (shl 1 (gI M 1 0)) ≤ wr x6 then
    some (.inr (x6, M))
  else
    if 0 ≤ wr p2 ∧ wr p2 < 64 then
    bd1 (
      if wr (gI M 2 (wr p2)) = 0 then
        if wr (iand x6 p5) = 0 then
          if 0 ≤ wr (p4 + x6) ∧ wr (p4 + x6) < 16640 then
          some ((gL M 9 (wr (p4 + x6))))
          else none
        else
          some ((1099511627776))
      else
        if wr (iand x6 p5) = 0 then
          bd1 (m_X7_costEast M p2 x6) fun r8 =>
          bd1 (m_X7_costSouth M p2 x6) fun r10 =>
          some ((lmn r8 r10))
        else
          if 0 ≤ wr ((p4 + x6) - p5) ∧ wr ((p4 + x6) - p5) < 16640 then
          some ((gL M 9 (wr ((p4 + x6) - p5))))
          else none) fun (v14 : Int64) =>
    if 0 ≤ wr (p3 + x6) ∧ wr (p3 + x6) < 16640 then
    lt (sL M 9 (wr (p3 + x6)) v14) fun M16 =>
    some (.inl ((x6 + 1), M16))
    else none
    else none
def m_X7_fillCostsAt (M : Mem) (a2 : Int) : Option (Mem) :=
  bd1 (m_X10_column M a2) fun r2 =>
  bd2 (itr (fun s => m_X7_fillCostsAt_L25 s.2 a2 (a2 * 256) ((a2 * 256) + 256) (shl 1 r2) s.1) FU (0, M)) fun y17 M18 =>
  some M18
set_option maxRecDepth 10000 in
theorem lp_X7_fillCostsAt_L25 {G : Gx} (p2 : Int) (p3 : Int) (p4 : Int) (p5 : Int)   (X : (Int × Mem) → Prop) (hX1 : ∀ (x6 : Int) (M : Mem), X (x6, M) → Ex G 3 cX7_fillCostsAt RX7 9 137 [(0, vR 8), (1, vR 1), (2, vI p2), (3, vI p3), (4, vI p4), (5, vI p5), (6, vI x6)] [] M) : ∀ (nn : Nat) (x6 : Int) (M : Mem) (out : Int × Mem), itr (fun s => m_X7_fillCostsAt_L25 s.2 p2 p3 p4 p5 s.1) nn (x6, M) = some out → X out → Ex G 3 cX7_fillCostsAt RX7 9 25 [(0, vR 8), (1, vR 1), (2, vI p2), (3, vI p3), (4, vI p4), (5, vI p5), (6, vI x6)] [] M := by
  intro nn
  induction nn with
  | zero =>
    intro x6 M out h _
    cases h
  | succ nn ih =>
    intro x6 M out h0 hX
    obtain ⟨w, h, k1, k2⟩ := itr_inv h0
    have h : m_X7_fillCostsAt_L25 M p2 p3 p4 p5 x6 = some w := h
    unfold m_X7_fillCostsAt_L25 at h
    refine r_iload dX7_fillCostsAt_25 6 rfl ?_
    refine r_iconst dX7_fillCostsAt_27 ?_
    refine r_aload_n dX7_fillCostsAt_28 rfl 1 rfl ?_
    refine r_getI (j := 0) (jz := 0) dX7_fillCostsAt_29 f_X7_85 rfl rfl rfl ?_
    refine r_ishl dX7_fillCostsAt_32 ?_
    by_cases c3 : wr (shl 1 (gI M 1 0)) ≤ wr x6
    · rw [if_pos c3] at h
      refine r_icmp_ge (tgt := 137) dX7_fillCostsAt_33 (by decide) (fun _ => ?_) (fun q => absurd c3 q)
      cases h
      cases k2 _ rfl
      exact hX1 _ _ hX
    · rw [if_neg c3] at h
      refine r_icmp_ge (tgt := 137) dX7_fillCostsAt_33 (by decide) (fun q => absurd q c3) (fun _ => ?_)
      refine r_ldc2 (v := (1099511627776)) dX7_fillCostsAt_36 kl_X7_80 ?_
      refine r_lstore (lv2 := [(7, vL (1099511627776)), (0, vR 8), (1, vR 1), (2, vI p2), (3, vI p3), (4, vI p4), (5, vI p5), (6, vI x6)]) dX7_fillCostsAt_39 (by decide) rfl ?_
      refine r_aload_n dX7_fillCostsAt_41 rfl 2 rfl ?_
      refine r_getR (j := 2) (v := 2) dX7_fillCostsAt_42 f_X7_91 rfl rfl rfl ?_
      refine r_iload_n dX7_fillCostsAt_45 rfl 3 rfl ?_
      obtain ⟨c4, h⟩ := of_ck h
      refine r_zald dX7_fillCostsAt_46 rfl c4 ?_
      obtain ⟨v14, h9, h⟩ := of_bd1 h
      have kJ : Ex G 3 cX7_fillCostsAt RX7 9 120 [(0, vR 8), (1, vR 1), (2, vI p2), (3, vI p3), (4, vI p4), (5, vI p5), (6, vI x6), (7, vL v14)] [] M := by
        refine r_aload_n dX7_fillCostsAt_120 rfl 0 rfl ?_
        refine r_getR (j := 0) (v := 9) dX7_fillCostsAt_121 f_X7_9 rfl rfl rfl ?_
        refine r_iload_n dX7_fillCostsAt_124 rfl 3 rfl ?_
        refine r_iload dX7_fillCostsAt_125 6 rfl ?_
        refine r_iadd dX7_fillCostsAt_127 ?_
        refine r_lload dX7_fillCostsAt_128 7 rfl ?_
        obtain ⟨c15, h⟩ := of_ck h
        obtain ⟨M16, eM16, h⟩ := of_lt h
        refine r_last dX7_fillCostsAt_130 rfl c15 ?_
        rw [← eM16]
        refine r_iinc (lv2 := [(6, vI (x6 + 1)), (0, vR 8), (1, vR 1), (2, vI p2), (3, vI p3), (4, vI p4), (5, vI p5), (7, vL v14)]) dX7_fillCostsAt_131 6 rfl (by decide) rfl ?_
        refine r_goto (tgt := 25) dX7_fillCostsAt_134 (by decide) ?_
        refine r_sub (lv2 := [(0, vR 8), (1, vR 1), (2, vI p2), (3, vI p3), (4, vI p4), (5, vI p5), (6, vI (x6 + 1))]) [1, 2, 3, 4, 5, 6, 0] rfl ?_
        cases h
        exact ih _ _  _ (k1 _ rfl) hX
      clear h
      have h := h9
      clear h9
      by_cases c5 : wr (gI M 2 (wr p2)) = 0
      · rw [if_pos c5] at h
        refine r_if_ne (tgt := 73) dX7_fillCostsAt_47 (by decide) (fun q => absurd c5 q) (fun _ => ?_)
        refine r_iload dX7_fillCostsAt_50 7 rfl ?_
        refine r_iload dX7_fillCostsAt_52 6 rfl ?_
        refine r_iand dX7_fillCostsAt_54 ?_
        by_cases c12 : wr (iand x6 p5) = 0
        · rw [if_pos c12] at h
          refine r_if_ne (tgt := 120) dX7_fillCostsAt_55 (by decide) (fun q => absurd c12 q) (fun _ => ?_)
          refine r_aload_n dX7_fillCostsAt_58 rfl 1 rfl ?_
          refine r_getR (j := 0) (v := 9) dX7_fillCostsAt_59 f_X7_9 rfl rfl rfl ?_
          refine r_iload dX7_fillCostsAt_62 5 rfl ?_
          refine r_iload dX7_fillCostsAt_64 7 rfl ?_
          refine r_iadd dX7_fillCostsAt_66 ?_
          obtain ⟨c13, h⟩ := of_ck h
          refine r_lald dX7_fillCostsAt_67 rfl c13 ?_
          refine r_lstore (lv2 := [(7, vL (gL M 9 (wr (p4 + x6)))), (0, vR 8), (1, vR 1), (2, vI p2), (3, vI p3), (4, vI p4), (5, vI p5), (6, vI x6)]) dX7_fillCostsAt_68 (by decide) rfl ?_
          refine r_goto (tgt := 120) dX7_fillCostsAt_70 (by decide) ?_
          refine r_sub (lv2 := [(0, vR 8), (1, vR 1), (2, vI p2), (3, vI p3), (4, vI p4), (5, vI p5), (6, vI x6), (7, vL (gL M 9 (wr (p4 + x6))))]) [1, 2, 3, 4, 5, 6, 7, 0] rfl ?_
          cases h
          exact kJ
        · rw [if_neg c12] at h
          refine r_if_ne (tgt := 120) dX7_fillCostsAt_55 (by decide) (fun _ => ?_) (fun q => absurd q c12)
          refine r_sub (lv2 := [(0, vR 8), (1, vR 1), (2, vI p2), (3, vI p3), (4, vI p4), (5, vI p5), (6, vI x6), (7, vL (1099511627776))]) [1, 2, 3, 4, 5, 6, 7, 0] rfl ?_
          cases h
          exact kJ
      · rw [if_neg c5] at h
        refine r_if_ne (tgt := 73) dX7_fillCostsAt_47 (by decide) (fun _ => ?_) (fun q => absurd q c5)
        refine r_iload dX7_fillCostsAt_73 7 rfl ?_
        refine r_iload dX7_fillCostsAt_75 6 rfl ?_
        refine r_iand dX7_fillCostsAt_77 ?_
        by_cases c6 : wr (iand x6 p5) = 0
        · rw [if_pos c6] at h
          refine r_if_eq (tgt := 99) dX7_fillCostsAt_78 (by decide) (fun _ => ?_) (fun q => absurd c6 q)
          refine r_aload_n dX7_fillCostsAt_99 rfl 1 rfl ?_
          refine r_aload_n dX7_fillCostsAt_100 rfl 2 rfl ?_
          refine r_iload_n dX7_fillCostsAt_101 rfl 3 rfl ?_
          refine r_iload dX7_fillCostsAt_102 7 rfl ?_
          obtain ⟨r8, hc7, h⟩ := of_bd1 h
          refine r_callVL (st := []) dX7_fillCostsAt_104 v_X7_94 (run_X7_costEast hc7) (by decide) (by decide) rfl rfl (Nat.le_of_ble_eq_true rfl) rfl ?_
          refine r_aload_n dX7_fillCostsAt_107 rfl 1 rfl ?_
          refine r_aload_n dX7_fillCostsAt_108 rfl 2 rfl ?_
          refine r_iload_n dX7_fillCostsAt_109 rfl 3 rfl ?_
          refine r_iload dX7_fillCostsAt_110 7 rfl ?_
          obtain ⟨r10, hc9, h⟩ := of_bd1 h
          refine r_callVL (st := [vL r8]) dX7_fillCostsAt_112 v_X7_98 (run_X7_costSouth hc9) (by decide) (by decide) rfl rfl (Nat.le_of_ble_eq_true rfl) rfl ?_
          refine r_lmin dX7_fillCostsAt_115 mm_X7_101 (by decide) (Nat.le_of_ble_eq_true rfl) ?_
          refine r_lstore (lv2 := [(7, vL (lmn r8 r10)), (0, vR 8), (1, vR 1), (2, vI p2), (3, vI p3), (4, vI p4), (5, vI p5), (6, vI x6)]) dX7_fillCostsAt_118 (by decide) rfl ?_
          refine r_sub (lv2 := [(0, vR 8), (1, vR 1), (2, vI p2), (3, vI p3), (4, vI p4), (5, vI p5), (6, vI x6), (7, vL (lmn r8 r10))]) [1, 2, 3, 4, 5, 6, 7, 0] rfl ?_
          cases h
          exact kJ
        · rw [if_neg c6] at h
          refine r_if_eq (tgt := 99) dX7_fillCostsAt_78 (by decide) (fun q => absurd q c6) (fun _ => ?_)
          refine r_aload_n dX7_fillCostsAt_81 rfl 1 rfl ?_
          refine r_getR (j := 0) (v := 9) dX7_fillCostsAt_82 f_X7_9 rfl rfl rfl ?_
          refine r_iload dX7_fillCostsAt_85 5 rfl ?_
          refine r_iload dX7_fillCostsAt_87 7 rfl ?_
          refine r_iadd dX7_fillCostsAt_89 ?_
          refine r_iload dX7_fillCostsAt_90 6 rfl ?_
          refine r_isub dX7_fillCostsAt_92 ?_
          obtain ⟨c11, h⟩ := of_ck h
          refine r_lald dX7_fillCostsAt_93 rfl c11 ?_
          refine r_lstore (lv2 := [(7, vL (gL M 9 (wr ((p4 + x6) - p5)))), (0, vR 8), (1, vR 1), (2, vI p2), (3, vI p3), (4, vI p4), (5, vI p5), (6, vI x6)]) dX7_fillCostsAt_94 (by decide) rfl ?_
          refine r_goto (tgt := 120) dX7_fillCostsAt_96 (by decide) ?_
          refine r_sub (lv2 := [(0, vR 8), (1, vR 1), (2, vI p2), (3, vI p3), (4, vI p4), (5, vI p5), (6, vI x6), (7, vL (gL M 9 (wr ((p4 + x6) - p5))))]) [1, 2, 3, 4, 5, 6, 7, 0] rfl ?_
          cases h
          exact kJ

set_option maxRecDepth 10000 in
theorem run_X7_fillCostsAt {M : Mem} {M2 : Mem} {a2 : Int}   (h : m_X7_fillCostsAt M a2 = some (M2)) : RunV 3 yX7_fillCostsAt cX7_fillCostsAt 9 none [vR 8, vR 1, vI a2] M M2 := by
  refine runV_of (lv := [(0, vR 8), (1, vR 1), (2, vI a2)]) (by decide +kernel) rfl (Nat.le_of_ble_eq_true rfl) rfl ?_
  intro G hQ
  unfold m_X7_fillCostsAt at h
  refine r_iload_n dX7_fillCostsAt_0 rfl 2 rfl ?_
  refine r_sipush dX7_fillCostsAt_1 (by decide) ?_
  refine r_imul dX7_fillCostsAt_4 ?_
  refine r_istore_n (lv2 := [(3, vI (a2 * 256)), (0, vR 8), (1, vR 1), (2, vI a2)]) dX7_fillCostsAt_5 rfl (by decide) rfl ?_
  refine r_iload_n dX7_fillCostsAt_6 rfl 0 rfl ?_
  refine r_sipush dX7_fillCostsAt_7 (by decide) ?_
  refine r_iadd dX7_fillCostsAt_10 ?_
  refine r_istore (lv2 := [(4, vI ((a2 * 256) + 256)), (3, vI (a2 * 256)), (0, vR 8), (1, vR 1), (2, vI a2)]) dX7_fillCostsAt_11 (by decide) rfl ?_
  refine r_iconst dX7_fillCostsAt_13 ?_
  refine r_aload_n dX7_fillCostsAt_14 rfl 3 rfl ?_
  refine r_iload_n dX7_fillCostsAt_15 rfl 4 rfl ?_
  obtain ⟨r2, hc1, h⟩ := of_bd1 h
  refine r_callVI (st := [vI 1]) dX7_fillCostsAt_16 v_X7_88 (run_X10_column hc1) (by decide) (by decide) rfl rfl (Nat.le_of_ble_eq_true rfl) rfl ?_
  refine r_ishl dX7_fillCostsAt_19 ?_
  refine r_istore (lv2 := [(5, vI (shl 1 r2)), (4, vI ((a2 * 256) + 256)), (3, vI (a2 * 256)), (0, vR 8), (1, vR 1), (2, vI a2)]) dX7_fillCostsAt_20 (by decide) rfl ?_
  refine r_iconst dX7_fillCostsAt_22 ?_
  refine r_istore (lv2 := [(6, vI 0), (5, vI (shl 1 r2)), (4, vI ((a2 * 256) + 256)), (3, vI (a2 * 256)), (0, vR 8), (1, vR 1), (2, vI a2)]) dX7_fillCostsAt_23 (by decide) rfl ?_
  obtain ⟨y17, M18, h9, h⟩ := of_bd2 h
  refine r_sub (lv2 := [(0, vR 8), (1, vR 1), (2, vI a2), (3, vI (a2 * 256)), (4, vI ((a2 * 256) + 256)), (5, vI (shl 1 r2)), (6, vI 0)]) [4, 5, 6, 3, 2, 1, 0] rfl ?_
  refine lp_X7_fillCostsAt_L25 a2 (a2 * 256) ((a2 * 256) + 256) (shl 1 r2)  (fun w => w = (y17, M18)) ?_ FU 0 M _ h9 rfl
  intro z0 z1 hw
  cases hw
  cases h
  exact hQ _ _ dX7_fillCostsAt_137

