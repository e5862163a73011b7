def m_X12_forgets_L2 (M : Mem)  (x1 : Int) : Option ((Int × Mem) ⊕ (Int × Mem)) :=
  if wr 64 ≤ wr x1 then
    some (.inr (x1, M))
  else
    if 0 ≤ wr x1 ∧ wr x1 < 64 then
    lt (sI M 68 (wr x1) (-1)) fun M3 =>
    some (.inl ((x1 + 1), M3))
    else none
def m_X12_forgets (M : Mem) : Option (Mem) :=
  bd2 (itr (fun s => m_X12_forgets_L2 s.2  s.1) FU (0, M)) fun y4 M5 =>
  some M5
set_option maxRecDepth 10000 in
theorem lp_X12_forgets_L2 {G : Gx}    (X : (Int × Mem) → Prop) (hX1 : ∀ (x1 : Int) (M : Mem), X (x1, M) → Ex G 0 cX12_forgets RX12 2 21 [(0, vR 55), (1, vI x1)] [] M) : ∀ (nn : Nat) (x1 : Int) (M : Mem) (out : Int × Mem), itr (fun s => m_X12_forgets_L2 s.2  s.1) nn (x1, M) = some out → X out → Ex G 0 cX12_forgets RX12 2 2 [(0, vR 55), (1, vI x1)] [] M := by
  intro nn
  induction nn with
  | zero =>
    intro x1 M out h _
    cases h
  | succ nn ih =>
    intro x1 M out h0 hX
    obtain ⟨w, h, k1, k2⟩ := itr_inv h0
    have h : m_X12_forgets_L2 M  x1 = some w := h
    unfold m_X12_forgets_L2 at h
    refine r_iload_n dX12_forgets_2 rfl 1 rfl ?_
    refine r_bipush dX12_forgets_3 (by decide) ?_
    by_cases c1 : wr 64 ≤ wr x1
    · rw [if_pos c1] at h
      refine r_icmp_ge (tgt := 21) dX12_forgets_5 (by decide) (fun _ => ?_) (fun q => absurd c1 q)
      cases h
      cases k2 _ rfl
      exact hX1 _ _ hX
    · rw [if_neg c1] at h
      refine r_icmp_ge (tgt := 21) dX12_forgets_5 (by decide) (fun q => absurd q c1) (fun _ => ?_)
      refine r_aload_n dX12_forgets_8 rfl 0 rfl ?_
      refine r_getR (j := 16) (v := 68) dX12_forgets_9 f_X12_48 rfl rfl rfl ?_
      refine r_iload_n dX12_forgets_12 rfl 1 rfl ?_
      refine r_iconst dX12_forgets_13 ?_
      obtain ⟨c2, h⟩ := of_ck h
      obtain ⟨M3, eM3, h⟩ := of_lt h
      refine r_iast dX12_forgets_14 rfl c2 ?_
      rw [← eM3]
      refine r_iinc (lv2 := [(1, vI (x1 + 1)), (0, vR 55)]) dX12_forgets_15 1 rfl (by decide) rfl ?_
      refine r_goto (tgt := 2) dX12_forgets_18 (by decide) ?_
      refine r_sub (lv2 := [(0, vR 55), (1, vI (x1 + 1))]) [1, 0] rfl ?_
      cases h
      exact ih _ _  _ (k1 _ rfl) hX

set_option maxRecDepth 10000 in
theorem run_X12_forgets {M : Mem} {M2 : Mem}   (h : m_X12_forgets M = some (M2)) : RunV 0 yX12_forgets cX12_forgets 2 none [vR 55] M M2 := by
  refine runV_of (lv := [(0, vR 55)]) (by decide +kernel) rfl (Nat.le_of_ble_eq_true rfl) rfl ?_
  intro G hQ
  unfold m_X12_forgets at h
  refine r_iconst dX12_forgets_0 ?_
  refine r_istore_n (lv2 := [(1, vI 0), (0, vR 55)]) dX12_forgets_1 rfl (by decide) rfl ?_
  obtain ⟨y4, M5, h9, h⟩ := of_bd2 h
  refine r_sub (lv2 := [(0, vR 55), (1, vI 0)]) [1, 0] rfl ?_
  refine lp_X12_forgets_L2   (fun w => w = (y4, M5)) ?_ FU 0 M _ h9 rfl
  intro z0 z1 hw
  cases hw
  cases h
  exact hQ _ _ dX12_forgets_21

def m_X12_matches_L4 (M : Mem) (p1 : Int) (x2 : Int) : Option ((Int × Mem) ⊕ (Int × Mem)) :=
  if wr 64 ≤ wr x2 then
    some (.inr (x2, M))
  else
    if 0 ≤ wr x2 ∧ wr x2 < 64 then
    lt (sI M 67 (wr x2) (-1)) fun M3 =>
    some (.inl ((x2 + 1), M3))
    else none
def m_X12_matches_L77 (M : Mem) (p1 : Int) (p2 : Int) (x3 : Int) : Option ((Int × Mem) ⊕ (Int × Mem)) :=
  if wr x3 < 0 then
    some (.inr (x3, M))
  else
    if 0 ≤ wr x3 ∧ wr x3 < 64 then
    if 0 ≤ wr (gI M 68 (wr x3)) ∧ wr (gI M 68 (wr x3)) < 64 then
    lt (sI M 67 (wr x3) (gI M 68 (wr x3))) fun M22 =>
    lt (sI M22 67 (wr (gI M 68 (wr x3))) x3) fun M23 =>
    lt (if wr (gI M 68 (wr x3)) = wr p2 then (-1) else (gI M 67 (wr (gI M 68 (wr x3))))) fun (v25 : Int) =>
    some (.inl (v25, M23))
    else none
    else none
def m_X12_matches_L25 (M : Mem)  (x1 : Int) (x2 : Int) : Option ((Int × Int × Mem) ⊕ (Int × Int × Mem)) :=
  if wr ((gI M 55 0) * (gI M 55 1)) ≤ wr x2 then
    some (.inr (x1, x2, M))
  else
    if 0 ≤ wr x2 ∧ wr x2 < 64 then
    bd2 (
      if wr (gI M 56 (wr x2)) = 0 then
        some (x1, M)
      else
        bd1 (m_X12_isDarkCell M x2) fun b10 =>
        if wr (bI b10) = 0 then
          some (x1, M)
        else
          bd1 (m_X12_forgets M) fun M13 =>
          bd2 (m_X12_searches M13 x2) fun r15 M16 =>
          lt (if wr r15 < 0 then 0 else 1) fun (v18 : Int) =>
          bd2 (itr (fun s => m_X12_matches_L77 s.2 (x1 + v18) x2 s.1) FU (r15, M16)) fun y26 M27 =>
          some ((x1 + v18), M27)) fun (v28 : Int) (M29 : Mem) =>
    some (.inl (v28, (x2 + 1), M29))
    else none
def m_X12_matches (M : Mem) : Option (Int × Mem) :=
  bd2 (itr (fun s => m_X12_matches_L4 s.2 0 s.1) FU (0, M)) fun y4 M5 =>
  bd3 (itr (fun s => m_X12_matches_L25 s.2.2  s.1 s.2.1) FU (0, 0, M5)) fun y30 y31 M32 =>
  some (y30, M32)
set_option maxRecDepth 10000 in
theorem lp_X12_matches_L4 {G : Gx} (p1 : Int)   (X : (Int × Mem) → Prop) (hX1 : ∀ (x2 : Int) (M : Mem), X (x2, M) → Ex G 4 cX12_matches RX12 6 23 [(0, vR 55), (1, vI p1), (2, vI x2)] [] M) : ∀ (nn : Nat) (x2 : Int) (M : Mem) (out : Int × Mem), itr (fun s => m_X12_matches_L4 s.2 p1 s.1) nn (x2, M) = some out → X out → Ex G 4 cX12_matches RX12 6 4 [(0, vR 55), (1, vI p1), (2, vI x2)] [] M := by
  intro nn
  induction nn with
  | zero =>
    intro x2 M out h _
    cases h
  | succ nn ih =>
    intro x2 M out h0 hX
    obtain ⟨w, h, k1, k2⟩ := itr_inv h0
    have h : m_X12_matches_L4 M p1 x2 = some w := h
    unfold m_X12_matches_L4 at h
    refine r_iload_n dX12_matches_4 rfl 2 rfl ?_
    refine r_bipush dX12_matches_5 (by decide) ?_
    by_cases c1 : wr 64 ≤ wr x2
    · rw [if_pos c1] at h
      refine r_icmp_ge (tgt := 23) dX12_matches_7 (by decide) (fun _ => ?_) (fun q => absurd c1 q)
      cases h
      cases k2 _ rfl
      exact hX1 _ _ hX
    · rw [if_neg c1] at h
      refine r_icmp_ge (tgt := 23) dX12_matches_7 (by decide) (fun q => absurd q c1) (fun _ => ?_)
      refine r_aload_n dX12_matches_10 rfl 0 rfl ?_
      refine r_getR (j := 15) (v := 67) dX12_matches_11 f_X12_45 rfl rfl rfl ?_
      refine r_iload_n dX12_matches_14 rfl 2 rfl ?_
      refine r_iconst dX12_matches_15 ?_
      obtain ⟨c2, h⟩ := of_ck h
      obtain ⟨M3, eM3, h⟩ := of_lt h
      refine r_iast dX12_matches_16 rfl c2 ?_
      rw [← eM3]
      refine r_iinc (lv2 := [(2, vI (x2 + 1)), (0, vR 55), (1, vI p1)]) dX12_matches_17 2 rfl (by decide) rfl ?_
      refine r_goto (tgt := 4) dX12_matches_20 (by decide) ?_
      refine r_sub (lv2 := [(0, vR 55), (1, vI p1), (2, vI (x2 + 1))]) [1, 2, 0] rfl ?_
      cases h
      exact ih _ _  _ (k1 _ rfl) hX

set_option maxRecDepth 10000 in
theorem lp_X12_matches_L77 {G : Gx} (p1 : Int) (p2 : Int)   (X : (Int × Mem) → Prop) (hX1 : ∀ (x3 : Int) (M : Mem), X (x3, M) → Ex G 4 cX12_matches RX12 6 130 [(0, vR 55), (1, vI p1), (2, vI p2), (3, vI x3)] [] M) : ∀ (nn : Nat) (x3 : Int) (M : Mem) (out : Int × Mem), itr (fun s => m_X12_matches_L77 s.2 p1 p2 s.1) nn (x3, M) = some out → X out → Ex G 4 cX12_matches RX12 6 77 [(0, vR 55), (1, vI p1), (2, vI p2), (3, vI x3)] [] M := by
  intro nn
  induction nn with
  | zero =>
    intro x3 M out h _
    cases h
  | succ nn ih =>
    intro x3 M out h0 hX
    obtain ⟨w, h, k1, k2⟩ := itr_inv h0
    have h : m_X12_matches_L77 M p1 p2 x3 = some w := h
    unfold m_X12_matches_L77 at h
    refine r_iload_n dX12_matches_77 rfl 3 rfl ?_
    by_cases c19 : wr x3 < 0
    · rw [if_pos c19] at h
      refine r_if_lt (tgt := 130) dX12_matches_78 (by decide) (fun _ => ?_) (fun q => absurd c19 q)
      cases h
      cases k2 _ rfl
      exact hX1 _ _ hX
    · rw [if_neg c19] at h
      refine r_if_lt (tgt := 130) dX12_matches_78 (by decide) (fun q => absurd q c19) (fun _ => ?_)
      refine r_aload_n dX12_matches_81 rfl 0 rfl ?_
      refine r_getR (j := 16) (v := 68) dX12_matches_82 f_X12_48 rfl rfl rfl ?_
      refine r_iload_n dX12_matches_85 rfl 3 rfl ?_
      obtain ⟨c20, h⟩ := of_ck h
      refine r_iald dX12_matches_86 rfl c20 ?_
      refine r_istore (lv2 := [(4, vI (gI M 68 (wr x3))), (0, vR 55), (1, vI p1), (2, vI p2), (3, vI x3)]) dX12_matches_87 (by decide) rfl ?_
      refine r_aload_n dX12_matches_89 rfl 1 rfl ?_
      refine r_getR (j := 15) (v := 67) dX12_matches_90 f_X12_45 rfl rfl rfl ?_
      refine r_iload dX12_matches_93 0 rfl ?_
      obtain ⟨c21, h⟩ := of_ck h
      refine r_iald dX12_matches_95 rfl c21 ?_
      refine r_istore (lv2 := [(5, vI (gI M 67 (wr (gI M 68 (wr x3))))), (4, vI (gI M 68 (wr x3))), (0, vR 55), (1, vI p1), (2, vI p2), (3, vI x3)]) dX12_matches_96 (by decide) rfl ?_
      refine r_aload_n dX12_matches_98 rfl 2 rfl ?_
      refine r_getR (j := 15) (v := 67) dX12_matches_99 f_X12_45 rfl rfl rfl ?_
      refine r_iload_n dX12_matches_102 rfl 5 rfl ?_
      refine r_iload dX12_matches_103 1 rfl ?_
      obtain ⟨M22, eM22, h⟩ := of_lt h
      refine r_iast dX12_matches_105 rfl c20 ?_
      rw [← eM22]
      refine r_aload_n dX12_matches_106 rfl 2 rfl ?_
      refine r_getR (j := 15) (v := 67) dX12_matches_107 f_X12_45 rfl rfl rfl ?_
      refine r_iload dX12_matches_110 1 rfl ?_
      refine r_iload_n dX12_matches_112 rfl 5 rfl ?_
      obtain ⟨M23, eM23, h⟩ := of_lt h
      refine r_iast dX12_matches_113 rfl c21 ?_
      rw [← eM23]
      refine r_iload dX12_matches_114 1 rfl ?_
      refine r_iload_n dX12_matches_116 rfl 4 rfl ?_
      obtain ⟨v25, ev25, h⟩ := of_lt h
      have kJ : Ex G 4 cX12_matches RX12 6 126 [(0, vR 55), (1, vI p1), (2, vI p2)] [vI v25] M23 := by
        refine r_istore_n (lv2 := [(3, vI v25), (0, vR 55), (1, vI p1), (2, vI p2)]) dX12_matches_126 rfl (by decide) rfl ?_
        refine r_goto (tgt := 77) dX12_matches_127 (by decide) ?_
        refine r_sub (lv2 := [(0, vR 55), (1, vI p1), (2, vI p2), (3, vI v25)]) [1, 2, 3, 0] rfl ?_
        cases h
        exact ih _ _  _ (k1 _ rfl) hX
      clear h
      by_cases c24 : wr (gI M 68 (wr x3)) = wr p2
      · skip
        refine r_icmp_ne (tgt := 124) dX12_matches_117 (by decide) (fun q => absurd c24 q) (fun _ => ?_)
        refine r_iconst dX12_matches_120 ?_
        refine r_goto (tgt := 126) dX12_matches_121 (by decide) ?_
        rw [show v25 = (-1) from by rw [ev25, if_pos c24]] at kJ
        refine r_sub (lv2 := [(0, vR 55), (1, vI p1), (2, vI p2)]) [2, 3, 4] rfl ?_
        exact kJ
      · skip
        refine r_icmp_ne (tgt := 124) dX12_matches_117 (by decide) (fun _ => ?_) (fun q => absurd q c24)
        refine r_iload dX12_matches_124 0 rfl ?_
        rw [show v25 = (gI M 67 (wr (gI M 68 (wr x3)))) from by rw [ev25, if_neg c24]] at kJ
        refine r_sub (lv2 := [(0, vR 55), (1, vI p1), (2, vI p2)]) [2, 3, 4] rfl ?_
        exact kJ

set_option maxRecDepth 10000 in
theorem lp_X12_matches_L25 {G : Gx}    (X : (Int × Int × Mem) → Prop) (hX1 : ∀ (x1 : Int) (x2 : Int) (M : Mem), X (x1, x2, M) → Ex G 4 cX12_matches RX12 6 136 [(0, vR 55), (1, vI x1), (2, vI x2)] [] M) : ∀ (nn : Nat) (x1 : Int) (x2 : Int) (M : Mem) (out : Int × Int × Mem), itr (fun s => m_X12_matches_L25 s.2.2  s.1 s.2.1) nn (x1, x2, M) = some out → X out → Ex G 4 cX12_matches RX12 6 25 [(0, vR 55), (1, vI x1), (2, vI x2)] [] M := by
  intro nn
  induction nn with
  | zero =>
    intro x1 x2 M out h _
    cases h
  | succ nn ih =>
    intro x1 x2 M out h0 hX
    obtain ⟨w, h, k1, k2⟩ := itr_inv h0
    have h : m_X12_matches_L25 M  x1 x2 = some w := h
    unfold m_X12_matches_L25 at h
    refine r_iload_n dX12_matches_25 rfl 2 rfl ?_
    refine r_aload_n dX12_matches_26 rfl 0 rfl ?_
    refine r_getI (j := 0) (jz := 0) dX12_matches_27 f_X12_88 rfl rfl rfl ?_
    refine r_aload_n dX12_matches_30 rfl 0 rfl ?_
    refine r_getI (j := 1) (jz := 1) dX12_matches_31 f_X12_92 rfl rfl rfl ?_
    refine r_imul dX12_matches_34 ?_
    by_cases c6 : wr ((gI M 55 0) * (gI M 55 1)) ≤ wr x2
    · rw [if_pos c6] at h
      refine r_icmp_ge (tgt := 136) dX12_matches_35 (by decide) (fun _ => ?_) (fun q => absurd c6 q)
      cases h
      cases k2 _ rfl
      exact hX1 _ _ _ hX
    · rw [if_neg c6] at h
      refine r_icmp_ge (tgt := 136) dX12_matches_35 (by decide) (fun q => absurd q c6) (fun _ => ?_)
      refine r_aload_n dX12_matches_38 rfl 0 rfl ?_
      refine r_getR (j := 2) (v := 56) dX12_matches_39 f_X12_7 rfl rfl rfl ?_
      refine r_iload_n dX12_matches_42 rfl 2 rfl ?_
      obtain ⟨c7, h⟩ := of_ck h
      refine r_zald dX12_matches_43 rfl c7 ?_
      obtain ⟨v28, M29, h9, h⟩ := of_bd2 h
      have kJ : Ex G 4 cX12_matches RX12 6 130 [(0, vR 55), (1, vI v28), (2, vI x2)] [] M29 := by
        refine r_iinc (lv2 := [(2, vI (x2 + 1)), (0, vR 55), (1, vI v28)]) dX12_matches_130 2 rfl (by decide) rfl ?_
        refine r_goto (tgt := 25) dX12_matches_133 (by decide) ?_
        refine r_sub (lv2 := [(0, vR 55), (1, vI v28), (2, vI (x2 + 1))]) [1, 2, 0] rfl ?_
        cases h
        exact ih _ _ _  _ (k1 _ rfl) hX
      clear h
      have h := h9
      clear h9
      by_cases c8 : wr (gI M 56 (wr x2)) = 0
      · rw [if_pos c8] at h
        refine r_if_eq (tgt := 130) dX12_matches_44 (by decide) (fun _ => ?_) (fun q => absurd c8 q)
        cases h
        exact kJ
      · rw [if_neg c8] at h
        refine r_if_eq (tgt := 130) dX12_matches_44 (by decide) (fun q => absurd q c8) (fun _ => ?_)
        refine r_aload_n dX12_matches_47 rfl 0 rfl ?_
        refine r_iload_n dX12_matches_48 rfl 2 rfl ?_
        obtain ⟨b10, hc9, h⟩ := of_bd1 h
        refine r_callVI (st := []) dX12_matches_49 v_X12_150 (run_X12_isDarkCell hc9) (by decide) (by decide) rfl rfl (Nat.le_of_ble_eq_true rfl) rfl ?_
        by_cases c11 : wr (bI b10) = 0
        · rw [if_pos c11] at h
          refine r_if_eq (tgt := 130) dX12_matches_52 (by decide) (fun _ => ?_) (fun q => absurd c11 q)
          cases h
          exact kJ
        · rw [if_neg c11] at h
          refine r_if_eq (tgt := 130) dX12_matches_52 (by decide) (fun q => absurd q c11) (fun _ => ?_)
          refine r_aload_n dX12_matches_55 rfl 0 rfl ?_
          obtain ⟨M13, hc12, h⟩ := of_bd1 h
          refine r_callVV (st := []) dX12_matches_56 v_X12_216 (run_X12_forgets hc12) (by decide) (by decide) rfl rfl (Nat.le_of_ble_eq_true rfl) rfl ?_
          refine r_aload_n dX12_matches_59 rfl 0 rfl ?_
          refine r_iload_n dX12_matches_60 rfl 2 rfl ?_
          obtain ⟨r15, M16, hc14, h⟩ := of_bd2 h
          refine r_callVI (st := []) dX12_matches_61 v_X12_219 (run_X12_searches hc14) (by decide) (by decide) rfl rfl (Nat.le_of_ble_eq_true rfl) rfl ?_
          refine r_istore_n (lv2 := [(3, vI r15), (0, vR 55), (1, vI x1), (2, vI x2)]) dX12_matches_64 rfl (by decide) rfl ?_
          refine r_iload_n dX12_matches_65 rfl 2 rfl ?_
          refine r_iload_n dX12_matches_66 rfl 0 rfl ?_
          obtain ⟨v18, ev18, h⟩ := of_lt h
          have kJ : Ex G 4 cX12_matches RX12 6 75 [(0, vR 55), (2, vI x2), (3, vI r15)] [vI v18, vI x1] M16 := by
            refine r_iadd dX12_matches_75 ?_
            refine r_istore_n (lv2 := [(1, vI (x1 + v18)), (0, vR 55), (2, vI x2), (3, vI r15)]) dX12_matches_76 rfl (by decide) rfl ?_
            obtain ⟨y26, M27, h9, h⟩ := of_bd2 h
            refine r_sub (lv2 := [(0, vR 55), (1, vI (x1 + v18)), (2, vI x2), (3, vI r15)]) [1, 0, 2, 3] rfl ?_
            refine lp_X12_matches_L77 (x1 + v18) x2  (fun w => w = (y26, M27)) ?_ FU r15 M16 _ h9 rfl
            intro z0 z1 hw
            cases hw
            refine r_sub (lv2 := [(0, vR 55), (1, vI (x1 + v18)), (2, vI x2)]) [0, 1, 2] rfl ?_
            cases h
            exact kJ
          clear h
          by_cases c17 : wr r15 < 0
          · skip
            refine r_if_lt (tgt := 74) dX12_matches_67 (by decide) (fun _ => ?_) (fun q => absurd c17 q)
            refine r_iconst dX12_matches_74 ?_
            rw [show v18 = 0 from by rw [ev18, if_pos c17]] at kJ
            refine r_sub (lv2 := [(0, vR 55), (2, vI x2), (3, vI r15)]) [1, 3, 0] rfl ?_
            exact kJ
          · skip
            refine r_if_lt (tgt := 74) dX12_matches_67 (by decide) (fun q => absurd q c17) (fun _ => ?_)
            refine r_iconst dX12_matches_70 ?_
            refine r_goto (tgt := 75) dX12_matches_71 (by decide) ?_
            rw [show v18 = 1 from by rw [ev18, if_neg c17]] at kJ
            refine r_sub (lv2 := [(0, vR 55), (2, vI x2), (3, vI r15)]) [1, 3, 0] rfl ?_
            exact kJ

set_option maxRecDepth 10000 in
theorem run_X12_matches {M : Mem} {M2 : Mem} {r : Int}   (h : m_X12_matches M = some (r, M2)) : RunI 4 yX12_matches cX12_matches 6 (some .int) [vR 55] M r M2 := by
  refine runI_of (lv := [(0, vR 55)]) (by decide +kernel) (Or.inl rfl) (Nat.le_of_ble_eq_true rfl) rfl ?_
  intro G hQ
  unfold m_X12_matches at h
  refine r_iconst dX12_matches_0 ?_
  refine r_istore_n (lv2 := [(1, vI 0), (0, vR 55)]) dX12_matches_1 rfl (by decide) rfl ?_
  refine r_iconst dX12_matches_2 ?_
  refine r_istore_n (lv2 := [(2, vI 0), (1, vI 0), (0, vR 55)]) dX12_matches_3 rfl (by decide) rfl ?_
  obtain ⟨y4, M5, h9, h⟩ := of_bd2 h
  refine r_sub (lv2 := [(0, vR 55), (1, vI 0), (2, vI 0)]) [2, 1, 0] rfl ?_
  refine lp_X12_matches_L4 0  (fun w => w = (y4, M5)) ?_ FU 0 M _ h9 rfl
  intro z0 z1 hw
  cases hw
  refine r_iconst dX12_matches_23 ?_
  refine r_istore_n (lv2 := [(2, vI 0), (0, vR 55), (1, vI 0)]) dX12_matches_24 rfl (by decide) rfl ?_
  obtain ⟨y30, y31, M32, h9, h⟩ := of_bd3 h
  refine r_sub (lv2 := [(0, vR 55), (1, vI 0), (2, vI 0)]) [1, 2, 0] rfl ?_
  refine lp_X12_matches_L25   (fun w => w = (y30, y31, M32)) ?_ FU 0 0 M5 _ h9 rfl
  intro z0 z1 z2 hw
  cases hw
  refine r_iload_n dX12_matches_136 rfl 1 rfl ?_
  cases h
  exact hQ _ _ dX12_matches_137

def m_X12_most (M : Mem) : Option (Int × Mem) :=
  bd2 (m_X12_matches M) fun r2 M3 =>
  some (r2, M3)
set_option maxRecDepth 10000 in
theorem run_X12_most {M : Mem} {M2 : Mem} {r : Int}   (h : m_X12_most M = some (r, M2)) : RunI 5 yX12_most cX12_most 1 (some .int) [vR 55] M r M2 := by
  refine runI_of (lv := [(0, vR 55)]) (by decide +kernel) (Or.inl rfl) (Nat.le_of_ble_eq_true rfl) rfl ?_
  intro G hQ
  unfold m_X12_most at h
  refine r_aload_n dX12_most_0 rfl 0 rfl ?_
  obtain ⟨r2, M3, hc1, h⟩ := of_bd2 h
  refine r_callVI (st := []) dX12_most_1 v_X12_222 (run_X12_matches hc1) (by decide) (by decide) rfl rfl (Nat.le_of_ble_eq_true rfl) rfl ?_
  cases h
  exact hQ _ _ dX12_most_4

def m_X12_doubtAll_L7 (M : Mem) (p1 : Int) (p2 : Int) (x3 : Int) : Option ((Int × Mem) ⊕ (Int × Mem)) :=
  if wr 64 ≤ wr x3 then
    some (.inr (x3, M))
  else
    lt (if 0 ≤ wr p2 then 0 else 1) fun (v6 : Int) =>
    if 0 ≤ wr x3 ∧ wr x3 < 64 then
    lt (sI M 70 (wr x3) v6) fun M8 =>
    some (.inl ((x3 + 1), M8))
    else none
def m_X12_doubtAll_L40 (M : Mem) (p1 : Int) (x3 : Int) : Option ((Int × Mem) ⊕ (Int × Mem)) :=
  if wr ((gI M 55 0) * (gI M 55 1)) ≤ wr x3 then
    some (.inr (x3, M))
  else
    if 0 ≤ wr x3 ∧ wr x3 < 64 then
    bd1 (
      if wr (gI M 56 (wr x3)) = 0 then
        some (M)
      else
        bd1 (m_X12_isDarkCell M x3) fun b17 =>
        lt (if wr p1 = 0 then 1 else 0) fun (v19 : Int) =>
        if wr (bI b17) = wr v19 then
          if 0 ≤ wr (gI M 67 (wr x3)) then
            some (M)
          else
            if 0 ≤ wr (gI M 68 (wr x3)) then
              some (M)
            else
              bd2 (m_X12_searches M x3) fun r24 M25 =>
              some (M25)
        else
          some (M)) fun (M26 : Mem) =>
    some (.inl ((x3 + 1), M26))
    else none
def m_X12_doubtAll_L111 (M : Mem) (p1 : Int) (x3 : Int) : Option ((Int × Mem) ⊕ (Int × Mem)) :=
  if wr ((gI M 55 0) * (gI M 55 1)) ≤ wr x3 then
    some (.inr (x3, M))
  else
    if 0 ≤ wr x3 ∧ wr x3 < 64 then
    bd1 (
      if wr (gI M 56 (wr x3)) = 0 then
        some (0)
      else
        if wr (gI M 68 (wr x3)) < 0 then
          some (0)
        else
          bd1 (m_X12_isDarkCell M x3) fun b34 =>
          lt (if wr p1 = 0 then 1 else 0) fun (v36 : Int) =>
          if wr (bI b34) = wr v36 then
            some (2)
          else
            some (0)) fun (v38 : Int) =>
    lt (sI M 70 (wr x3) v38) fun M39 =>
    some (.inl ((x3 + 1), M39))
    else none
def m_X12_doubtAll_L194 (M : Mem) (p3 : Int) (x4 : Int) : Option ((Int × Mem) ⊕ (Int × Mem)) :=
  if wr 4 ≤ wr x4 then
    some (.inr (x4, M))
  else
    if 0 ≤ wr p3 ∧ wr p3 < 64 then
    if wr (gI M 56 (wr p3)) = 0 then
      some (.inr (x4, M))
    else
      if wr (gI M 70 (wr p3)) = 0 then
        bd1 (m_X12_beside M p3 x4) fun r48 =>
        bd1 (
          if wr r48 < 0 then
            some (0)
          else
            if 0 ≤ wr r48 ∧ wr r48 < 64 then
            if wr (gI M 70 (wr r48)) = wr 2 then
              some (1)
            else
              some (0)
            else none) fun (v52 : Int) =>
        lt (sI M 70 (wr p3) v52) fun M53 =>
        some (.inl ((x4 + 1), M53))
      else
        some (.inr (x4, M))
    else none
def m_X12_doubtAll_L178 (M : Mem)  (x3 : Int) : Option ((Int × Mem) ⊕ (Int × Mem)) :=
  if wr ((gI M 55 0) * (gI M 55 1)) ≤ wr x3 then
    some (.inr (x3, M))
  else
    bd2 (itr (fun s => m_X12_doubtAll_L194 s.2 x3 s.1) FU (0, M)) fun y54 M55 =>
    some (.inl ((x3 + 1), M55))
def m_X12_doubtAll (M : Mem) (a1 : Int) : Option (Mem) :=
  bd2 (m_X12_matches M) fun r2 M3 =>
  bd2 (itr (fun s => m_X12_doubtAll_L7 s.2 a1 r2 s.1) FU (0, M3)) fun y9 M10 =>
  bd1 (m_X12_forgets M10) fun M12 =>
  bd2 (itr (fun s => m_X12_doubtAll_L40 s.2 a1 s.1) FU (0, M12)) fun y27 M28 =>
  bd2 (itr (fun s => m_X12_doubtAll_L111 s.2 a1 s.1) FU (0, M28)) fun y40 M41 =>
  bd2 (itr (fun s => m_X12_doubtAll_L178 s.2  s.1) FU (0, M41)) fun y56 M57 =>
  some M57
set_option maxRecDepth 10000 in
theorem lp_X12_doubtAll_L7 {G : Gx} (p1 : Int) (p2 : Int)   (X : (Int × Mem) → Prop) (hX1 : ∀ (x3 : Int) (M : Mem), X (x3, M) → Ex G 5 cX12_doubtAll RX12 6 34 [(0, vR 55), (1, vI p1), (2, vI p2), (3, vI x3)] [] M) : ∀ (nn : Nat) (x3 : Int) (M : Mem) (out : Int × Mem), itr (fun s => m_X12_doubtAll_L7 s.2 p1 p2 s.1) nn (x3, M) = some out → X out → Ex G 5 cX12_doubtAll RX12 6 7 [(0, vR 55), (1, vI p1), (2, vI p2), (3, vI x3)] [] M := by
  intro nn
  induction nn with
  | zero =>
    intro x3 M out h _
    cases h
  | succ nn ih =>
    intro x3 M out h0 hX
    obtain ⟨w, h, k1, k2⟩ := itr_inv h0
    have h : m_X12_doubtAll_L7 M p1 p2 x3 = some w := h
    unfold m_X12_doubtAll_L7 at h
    refine r_iload_n dX12_doubtAll_7 rfl 3 rfl ?_
    refine r_bipush dX12_doubtAll_8 (by decide) ?_
    by_cases c4 : wr 64 ≤ wr x3
    · rw [if_pos c4] at h
      refine r_icmp_ge (tgt := 34) dX12_doubtAll_10 (by decide) (fun _ => ?_) (fun q => absurd c4 q)
      cases h
      cases k2 _ rfl
      exact hX1 _ _ hX
    · rw [if_neg c4] at h
      refine r_icmp_ge (tgt := 34) dX12_doubtAll_10 (by decide) (fun q => absurd q c4) (fun _ => ?_)
      refine r_aload_n dX12_doubtAll_13 rfl 0 rfl ?_
      refine r_getR (j := 18) (v := 70) dX12_doubtAll_14 f_X12_54 rfl rfl rfl ?_
      refine r_iload_n dX12_doubtAll_17 rfl 3 rfl ?_
      refine r_iload_n dX12_doubtAll_18 rfl 2 rfl ?_
      obtain ⟨v6, ev6, h⟩ := of_lt h
      have kJ : Ex G 5 cX12_doubtAll RX12 6 27 [(0, vR 55), (1, vI p1), (2, vI p2), (3, vI x3)] [vI v6, vI x3, vR 70] M := by
        obtain ⟨c7, h⟩ := of_ck h
        obtain ⟨M8, eM8, h⟩ := of_lt h
        refine r_iast dX12_doubtAll_27 rfl c7 ?_
        rw [← eM8]
        refine r_iinc (lv2 := [(3, vI (x3 + 1)), (0, vR 55), (1, vI p1), (2, vI p2)]) dX12_doubtAll_28 3 rfl (by decide) rfl ?_
        refine r_goto (tgt := 7) dX12_doubtAll_31 (by decide) ?_
        refine r_sub (lv2 := [(0, vR 55), (1, vI p1), (2, vI p2), (3, vI (x3 + 1))]) [1, 2, 3, 0] rfl ?_
        cases h
        exact ih _ _  _ (k1 _ rfl) hX
      clear h
      by_cases c5 : 0 ≤ wr p2
      · skip
        refine r_if_ge (tgt := 26) dX12_doubtAll_19 (by decide) (fun _ => ?_) (fun q => absurd c5 q)
        refine r_iconst dX12_doubtAll_26 ?_
        rw [show v6 = 0 from by rw [ev6, if_pos c5]] at kJ
        exact kJ
      · skip
        refine r_if_ge (tgt := 26) dX12_doubtAll_19 (by decide) (fun q => absurd q c5) (fun _ => ?_)
        refine r_iconst dX12_doubtAll_22 ?_
        refine r_goto (tgt := 27) dX12_doubtAll_23 (by decide) ?_
        rw [show v6 = 1 from by rw [ev6, if_neg c5]] at kJ
        exact kJ

set_option maxRecDepth 10000 in
theorem lp_X12_doubtAll_L40 {G : Gx} (p1 : Int)   (X : (Int × Mem) → Prop) (hX1 : ∀ (x3 : Int) (M : Mem), X (x3, M) → Ex G 5 cX12_doubtAll RX12 6 109 [(0, vR 55), (1, vI p1), (3, vI x3)] [] M) : ∀ (nn : Nat) (x3 : Int) (M : Mem) (out : Int × Mem), itr (fun s => m_X12_doubtAll_L40 s.2 p1 s.1) nn (x3, M) = some out → X out → Ex G 5 cX12_doubtAll RX12 6 40 [(0, vR 55), (1, vI p1), (3, vI x3)] [] M := by
  intro nn
  induction nn with
  | zero =>
    intro x3 M out h _
    cases h
  | succ nn ih =>
    intro x3 M out h0 hX
    obtain ⟨w, h, k1, k2⟩ := itr_inv h0
    have h : m_X12_doubtAll_L40 M p1 x3 = some w := h
    unfold m_X12_doubtAll_L40 at h
    refine r_iload_n dX12_doubtAll_40 rfl 2 rfl ?_
    refine r_aload_n dX12_doubtAll_41 rfl 0 rfl ?_
    refine r_getI (j := 0) (jz := 0) dX12_doubtAll_42 f_X12_88 rfl rfl rfl ?_
    refine r_aload_n dX12_doubtAll_45 rfl 0 rfl ?_
    refine r_getI (j := 1) (jz := 1) dX12_doubtAll_46 f_X12_92 rfl rfl rfl ?_
    refine r_imul dX12_doubtAll_49 ?_
    by_cases c13 : wr ((gI M 55 0) * (gI M 55 1)) ≤ wr x3
    · rw [if_pos c13] at h
      refine r_icmp_ge (tgt := 109) dX12_doubtAll_50 (by decide) (fun _ => ?_) (fun q => absurd c13 q)
      cases h
      cases k2 _ rfl
      exact hX1 _ _ hX
    · rw [if_neg c13] at h
      refine r_icmp_ge (tgt := 109) dX12_doubtAll_50 (by decide) (fun q => absurd q c13) (fun _ => ?_)
      refine r_aload_n dX12_doubtAll_53 rfl 0 rfl ?_
      refine r_getR (j := 2) (v := 56) dX12_doubtAll_54 f_X12_7 rfl rfl rfl ?_
      refine r_iload_n dX12_doubtAll_57 rfl 2 rfl ?_
      obtain ⟨c14, h⟩ := of_ck h
      refine r_zald dX12_doubtAll_58 rfl c14 ?_
      obtain ⟨M26, h9, h⟩ := of_bd1 h
      have kJ : Ex G 5 cX12_doubtAll RX12 6 103 [(0, vR 55), (1, vI p1), (3, vI x3)] [] M26 := by
        refine r_iinc (lv2 := [(3, vI (x3 + 1)), (0, vR 55), (1, vI p1)]) dX12_doubtAll_103 2 rfl (by decide) rfl ?_
        refine r_goto (tgt := 40) dX12_doubtAll_106 (by decide) ?_
        refine r_sub (lv2 := [(0, vR 55), (1, vI p1), (3, vI (x3 + 1))]) [1, 2, 0] rfl ?_
        cases h
        exact ih _ _  _ (k1 _ rfl) hX
      clear h
      have h := h9
      clear h9
      by_cases c15 : wr (gI M 56 (wr x3)) = 0
      · rw [if_pos c15] at h
        refine r_if_eq (tgt := 103) dX12_doubtAll_59 (by decide) (fun _ => ?_) (fun q => absurd c15 q)
        cases h
        exact kJ
      · rw [if_neg c15] at h
        refine r_if_eq (tgt := 103) dX12_doubtAll_59 (by decide) (fun q => absurd q c15) (fun _ => ?_)
        refine r_aload_n dX12_doubtAll_62 rfl 0 rfl ?_
        refine r_iload_n dX12_doubtAll_63 rfl 2 rfl ?_
        obtain ⟨b17, hc16, h⟩ := of_bd1 h
        refine r_callVI (st := []) dX12_doubtAll_64 v_X12_150 (run_X12_isDarkCell hc16) (by decide) (by decide) rfl rfl (Nat.le_of_ble_eq_true rfl) rfl ?_
        refine r_iload_n dX12_doubtAll_67 rfl 1 rfl ?_
        obtain ⟨v19, ev19, h⟩ := of_lt h
        have kJ : Ex G 5 cX12_doubtAll RX12 6 76 [(0, vR 55), (1, vI p1), (3, vI x3)] [vI v19, vI (bI b17)] M := by
          by_cases c20 : wr (bI b17) = wr v19
          · rw [if_pos c20] at h
            refine r_icmp_ne (tgt := 103) dX12_doubtAll_76 (by decide) (fun q => absurd c20 q) (fun _ => ?_)
            refine r_aload_n dX12_doubtAll_79 rfl 0 rfl ?_
            refine r_getR (j := 15) (v := 67) dX12_doubtAll_80 f_X12_45 rfl rfl rfl ?_
            refine r_iload_n dX12_doubtAll_83 rfl 2 rfl ?_
            refine r_iald dX12_doubtAll_84 rfl c14 ?_
            by_cases c21 : 0 ≤ wr (gI M 67 (wr x3))
            · rw [if_pos c21] at h
              refine r_if_ge (tgt := 103) dX12_doubtAll_85 (by decide) (fun _ => ?_) (fun q => absurd c21 q)
              cases h
              exact kJ
            · rw [if_neg c21] at h
              refine r_if_ge (tgt := 103) dX12_doubtAll_85 (by decide) (fun q => absurd q c21) (fun _ => ?_)
              refine r_aload_n dX12_doubtAll_88 rfl 0 rfl ?_
              refine r_getR (j := 16) (v := 68) dX12_doubtAll_89 f_X12_48 rfl rfl rfl ?_
              refine r_iload_n dX12_doubtAll_92 rfl 2 rfl ?_
              refine r_iald dX12_doubtAll_93 rfl c14 ?_
              by_cases c22 : 0 ≤ wr (gI M 68 (wr x3))
              · rw [if_pos c22] at h
                refine r_if_ge (tgt := 103) dX12_doubtAll_94 (by decide) (fun _ => ?_) (fun q => absurd c22 q)
                cases h
                exact kJ
              · rw [if_neg c22] at h
                refine r_if_ge (tgt := 103) dX12_doubtAll_94 (by decide) (fun q => absurd q c22) (fun _ => ?_)
                refine r_aload_n dX12_doubtAll_97 rfl 0 rfl ?_
                refine r_iload_n dX12_doubtAll_98 rfl 2 rfl ?_
                obtain ⟨r24, M25, hc23, h⟩ := of_bd2 h
                refine r_callVI (st := []) dX12_doubtAll_99 v_X12_219 (run_X12_searches hc23) (by decide) (by decide) rfl rfl (Nat.le_of_ble_eq_true rfl) rfl ?_
                refine r_pop dX12_doubtAll_102 rfl ?_
                cases h
                exact kJ
          · rw [if_neg c20] at h
            refine r_icmp_ne (tgt := 103) dX12_doubtAll_76 (by decide) (fun _ => ?_) (fun q => absurd q c20)
            cases h
            exact kJ
        clear h
        by_cases c18 : wr p1 = 0
        · skip
          refine r_if_ne (tgt := 75) dX12_doubtAll_68 (by decide) (fun q => absurd c18 q) (fun _ => ?_)
          refine r_iconst dX12_doubtAll_71 ?_
          refine r_goto (tgt := 76) dX12_doubtAll_72 (by decide) ?_
          rw [show v19 = 1 from by rw [ev19, if_pos c18]] at kJ
          exact kJ
        · skip
          refine r_if_ne (tgt := 75) dX12_doubtAll_68 (by decide) (fun _ => ?_) (fun q => absurd q c18)
          refine r_iconst dX12_doubtAll_75 ?_
          rw [show v19 = 0 from by rw [ev19, if_neg c18]] at kJ
          exact kJ

set_option maxRecDepth 10000 in
theorem lp_X12_doubtAll_L111 {G : Gx} (p1 : Int)   (X : (Int × Mem) → Prop) (hX1 : ∀ (x3 : Int) (M : Mem), X (x3, M) → Ex G 5 cX12_doubtAll RX12 6 176 [(0, vR 55), (1, vI p1), (3, vI x3)] [] M) : ∀ (nn : Nat) (x3 : Int) (M : Mem) (out : Int × Mem), itr (fun s => m_X12_doubtAll_L111 s.2 p1 s.1) nn (x3, M) = some out → X out → Ex G 5 cX12_doubtAll RX12 6 111 [(0, vR 55), (1, vI p1), (3, vI x3)] [] M := by
  intro nn
  induction nn with
  | zero =>
    intro x3 M out h _
    cases h
  | succ nn ih =>
    intro x3 M out h0 hX
    obtain ⟨w, h, k1, k2⟩ := itr_inv h0
    have h : m_X12_doubtAll_L111 M p1 x3 = some w := h
    unfold m_X12_doubtAll_L111 at h
    refine r_iload_n dX12_doubtAll_111 rfl 2 rfl ?_
    refine r_aload_n dX12_doubtAll_112 rfl 0 rfl ?_
    refine r_getI (j := 0) (jz := 0) dX12_doubtAll_113 f_X12_88 rfl rfl rfl ?_
    refine r_aload_n dX12_doubtAll_116 rfl 0 rfl ?_
    refine r_getI (j := 1) (jz := 1) dX12_doubtAll_117 f_X12_92 rfl rfl rfl ?_
    refine r_imul dX12_doubtAll_120 ?_
    by_cases c29 : wr ((gI M 55 0) * (gI M 55 1)) ≤ wr x3
    · rw [if_pos c29] at h
      refine r_icmp_ge (tgt := 176) dX12_doubtAll_121 (by decide) (fun _ => ?_) (fun q => absurd c29 q)
      cases h
      cases k2 _ rfl
      exact hX1 _ _ hX
    · rw [if_neg c29] at h
      refine r_icmp_ge (tgt := 176) dX12_doubtAll_121 (by decide) (fun q => absurd q c29) (fun _ => ?_)
      refine r_aload_n dX12_doubtAll_124 rfl 0 rfl ?_
      refine r_getR (j := 18) (v := 70) dX12_doubtAll_125 f_X12_54 rfl rfl rfl ?_
      refine r_iload_n dX12_doubtAll_128 rfl 2 rfl ?_
      refine r_aload_n dX12_doubtAll_129 rfl 0 rfl ?_
      refine r_getR (j := 2) (v := 56) dX12_doubtAll_130 f_X12_7 rfl rfl rfl ?_
      refine r_iload_n dX12_doubtAll_133 rfl 2 rfl ?_
      obtain ⟨c30, h⟩ := of_ck h
      refine r_zald dX12_doubtAll_134 rfl c30 ?_
      obtain ⟨v38, h9, h⟩ := of_bd1 h
      have kJ : Ex G 5 cX12_doubtAll RX12 6 169 [(0, vR 55), (1, vI p1), (3, vI x3)] [vI v38, vI x3, vR 70] M := by
        obtain ⟨M39, eM39, h⟩ := of_lt h
        refine r_iast dX12_doubtAll_169 rfl c30 ?_
        rw [← eM39]
        refine r_iinc (lv2 := [(3, vI (x3 + 1)), (0, vR 55), (1, vI p1)]) dX12_doubtAll_170 2 rfl (by decide) rfl ?_
        refine r_goto (tgt := 111) dX12_doubtAll_173 (by decide) ?_
        refine r_sub (lv2 := [(0, vR 55), (1, vI p1), (3, vI (x3 + 1))]) [1, 2, 0] rfl ?_
        cases h
        exact ih _ _  _ (k1 _ rfl) hX
      clear h
      have h := h9
      clear h9
      by_cases c31 : wr (gI M 56 (wr x3)) = 0
      · rw [if_pos c31] at h
        refine r_if_eq (tgt := 168) dX12_doubtAll_135 (by decide) (fun _ => ?_) (fun q => absurd c31 q)
        refine r_iconst dX12_doubtAll_168 ?_
        cases h
        exact kJ
      · rw [if_neg c31] at h
        refine r_if_eq (tgt := 168) dX12_doubtAll_135 (by decide) (fun q => absurd q c31) (fun _ => ?_)
        refine r_aload_n dX12_doubtAll_138 rfl 0 rfl ?_
        refine r_getR (j := 16) (v := 68) dX12_doubtAll_139 f_X12_48 rfl rfl rfl ?_
        refine r_iload_n dX12_doubtAll_142 rfl 2 rfl ?_
        refine r_iald dX12_doubtAll_143 rfl c30 ?_
        by_cases c32 : wr (gI M 68 (wr x3)) < 0
        · rw [if_pos c32] at h
          refine r_if_lt (tgt := 168) dX12_doubtAll_144 (by decide) (fun _ => ?_) (fun q => absurd c32 q)
          refine r_iconst dX12_doubtAll_168 ?_
          cases h
          exact kJ
        · rw [if_neg c32] at h
          refine r_if_lt (tgt := 168) dX12_doubtAll_144 (by decide) (fun q => absurd q c32) (fun _ => ?_)
          refine r_aload_n dX12_doubtAll_147 rfl 0 rfl ?_
          refine r_iload_n dX12_doubtAll_148 rfl 2 rfl ?_
          obtain ⟨b34, hc33, h⟩ := of_bd1 h
          refine r_callVI (st := [vI x3, vR 70]) dX12_doubtAll_149 v_X12_150 (run_X12_isDarkCell hc33) (by decide) (by decide) rfl rfl (Nat.le_of_ble_eq_true rfl) rfl ?_
          refine r_iload_n dX12_doubtAll_152 rfl 1 rfl ?_
          obtain ⟨v36, ev36, h⟩ := of_lt h
          have kJ : Ex G 5 cX12_doubtAll RX12 6 161 [(0, vR 55), (1, vI p1), (3, vI x3)] [vI v36, vI (bI b34), vI x3, vR 70] M := by
            by_cases c37 : wr (bI b34) = wr v36
            · rw [if_pos c37] at h
              refine r_icmp_ne (tgt := 168) dX12_doubtAll_161 (by decide) (fun q => absurd c37 q) (fun _ => ?_)
              refine r_iconst dX12_doubtAll_164 ?_
              refine r_goto (tgt := 169) dX12_doubtAll_165 (by decide) ?_
              cases h
              exact kJ
            · rw [if_neg c37] at h
              refine r_icmp_ne (tgt := 168) dX12_doubtAll_161 (by decide) (fun _ => ?_) (fun q => absurd q c37)
              refine r_iconst dX12_doubtAll_168 ?_
              cases h
              exact kJ
          clear h
          by_cases c35 : wr p1 = 0
          · skip
            refine r_if_ne (tgt := 160) dX12_doubtAll_153 (by decide) (fun q => absurd c35 q) (fun _ => ?_)
            refine r_iconst dX12_doubtAll_156 ?_
            refine r_goto (tgt := 161) dX12_doubtAll_157 (by decide) ?_
            rw [show v36 = 1 from by rw [ev36, if_pos c35]] at kJ
            exact kJ
          · skip
            refine r_if_ne (tgt := 160) dX12_doubtAll_153 (by decide) (fun _ => ?_) (fun q => absurd q c35)
            refine r_iconst dX12_doubtAll_160 ?_
            rw [show v36 = 0 from by rw [ev36, if_neg c35]] at kJ
            exact kJ

set_option maxRecDepth 10000 in
theorem lp_X12_doubtAll_L194 {G : Gx} (p3 : Int)   (X : (Int × Mem) → Prop) (hX1 : ∀ (x4 : Int) (M : Mem), X (x4, M) → Ex G 5 cX12_doubtAll RX12 6 260 [(0, vR 55), (3, vI p3), (4, vI x4)] [] M) : ∀ (nn : Nat) (x4 : Int) (M : Mem) (out : Int × Mem), itr (fun s => m_X12_doubtAll_L194 s.2 p3 s.1) nn (x4, M) = some out → X out → Ex G 5 cX12_doubtAll RX12 6 194 [(0, vR 55), (3, vI p3), (4, vI x4)] [] M := by
  intro nn
  induction nn with
  | zero =>
    intro x4 M out h _
    cases h
  | succ nn ih =>
    intro x4 M out h0 hX
    obtain ⟨w, h, k1, k2⟩ := itr_inv h0
    have h : m_X12_doubtAll_L194 M p3 x4 = some w := h
    unfold m_X12_doubtAll_L194 at h
    refine r_iload dX12_doubtAll_194 2 rfl ?_
    refine r_iconst dX12_doubtAll_196 ?_
    by_cases c43 : wr 4 ≤ wr x4
    · rw [if_pos c43] at h
      refine r_icmp_ge (tgt := 260) dX12_doubtAll_197 (by decide) (fun _ => ?_) (fun q => absurd c43 q)
      cases h
      cases k2 _ rfl
      exact hX1 _ _ hX
    · rw [if_neg c43] at h
      refine r_icmp_ge (tgt := 260) dX12_doubtAll_197 (by decide) (fun q => absurd q c43) (fun _ => ?_)
      refine r_aload_n dX12_doubtAll_200 rfl 0 rfl ?_
      refine r_getR (j := 2) (v := 56) dX12_doubtAll_201 f_X12_7 rfl rfl rfl ?_
      refine r_iload_n dX12_doubtAll_204 rfl 1 rfl ?_
      obtain ⟨c44, h⟩ := of_ck h
      refine r_zald dX12_doubtAll_205 rfl c44 ?_
      by_cases c45 : wr (gI M 56 (wr p3)) = 0
      · rw [if_pos c45] at h
        refine r_if_eq (tgt := 260) dX12_doubtAll_206 (by decide) (fun _ => ?_) (fun q => absurd c45 q)
        cases h
        cases k2 _ rfl
        exact hX1 _ _ hX
      · rw [if_neg c45] at h
        refine r_if_eq (tgt := 260) dX12_doubtAll_206 (by decide) (fun q => absurd q c45) (fun _ => ?_)
        refine r_aload_n dX12_doubtAll_209 rfl 0 rfl ?_
        refine r_getR (j := 18) (v := 70) dX12_doubtAll_210 f_X12_54 rfl rfl rfl ?_
        refine r_iload_n dX12_doubtAll_213 rfl 1 rfl ?_
        refine r_iald dX12_doubtAll_214 rfl c44 ?_
        by_cases c46 : wr (gI M 70 (wr p3)) = 0
        · rw [if_pos c46] at h
          refine r_if_ne (tgt := 260) dX12_doubtAll_215 (by decide) (fun q => absurd c46 q) (fun _ => ?_)
          refine r_aload_n dX12_doubtAll_218 rfl 0 rfl ?_
          refine r_iload_n dX12_doubtAll_219 rfl 1 rfl ?_
          refine r_iload dX12_doubtAll_220 2 rfl ?_
          obtain ⟨r48, hc47, h⟩ := of_bd1 h
          refine r_callVI (st := []) dX12_doubtAll_222 v_X12_213 (run_X12_beside hc47) (by decide) (by decide) rfl rfl (Nat.le_of_ble_eq_true rfl) rfl ?_
          refine r_istore (lv2 := [(5, vI r48), (0, vR 55), (3, vI p3), (4, vI x4)]) dX12_doubtAll_225 (by decide) rfl ?_
          refine r_aload_n dX12_doubtAll_227 rfl 1 rfl ?_
          refine r_getR (j := 18) (v := 70) dX12_doubtAll_228 f_X12_54 rfl rfl rfl ?_
          refine r_iload_n dX12_doubtAll_231 rfl 2 rfl ?_
          refine r_iload dX12_doubtAll_232 0 rfl ?_
          obtain ⟨v52, h9, h⟩ := of_bd1 h
          have kJ : Ex G 5 cX12_doubtAll RX12 6 253 [(0, vR 55), (3, vI p3), (4, vI x4)] [vI v52, vI p3, vR 70] M := by
            obtain ⟨M53, eM53, h⟩ := of_lt h
            refine r_iast dX12_doubtAll_253 rfl c44 ?_
            rw [← eM53]
            refine r_iinc (lv2 := [(4, vI (x4 + 1)), (0, vR 55), (3, vI p3)]) dX12_doubtAll_254 2 rfl (by decide) rfl ?_
            refine r_goto (tgt := 194) dX12_doubtAll_257 (by decide) ?_
            refine r_sub (lv2 := [(0, vR 55), (3, vI p3), (4, vI (x4 + 1))]) [1, 2, 0] rfl ?_
            cases h
            exact ih _ _  _ (k1 _ rfl) hX
          clear h
          have h := h9
          clear h9
          by_cases c49 : wr r48 < 0
          · rw [if_pos c49] at h
            refine r_if_lt (tgt := 252) dX12_doubtAll_234 (by decide) (fun _ => ?_) (fun q => absurd c49 q)
            refine r_iconst dX12_doubtAll_252 ?_
            refine r_sub (lv2 := [(0, vR 55), (3, vI p3), (4, vI x4)]) [1, 2, 3] rfl ?_
            cases h
            exact kJ
          · rw [if_neg c49] at h
            refine r_if_lt (tgt := 252) dX12_doubtAll_234 (by decide) (fun q => absurd q c49) (fun _ => ?_)
            refine r_aload_n dX12_doubtAll_237 rfl 1 rfl ?_
            refine r_getR (j := 18) (v := 70) dX12_doubtAll_238 f_X12_54 rfl rfl rfl ?_
            refine r_iload dX12_doubtAll_241 0 rfl ?_
            obtain ⟨c50, h⟩ := of_ck h
            refine r_iald dX12_doubtAll_243 rfl c50 ?_
            refine r_iconst dX12_doubtAll_244 ?_
            by_cases c51 : wr (gI M 70 (wr r48)) = wr 2
            · rw [if_pos c51] at h
              refine r_icmp_ne (tgt := 252) dX12_doubtAll_245 (by decide) (fun q => absurd c51 q) (fun _ => ?_)
              refine r_iconst dX12_doubtAll_248 ?_
              refine r_goto (tgt := 253) dX12_doubtAll_249 (by decide) ?_
              refine r_sub (lv2 := [(0, vR 55), (3, vI p3), (4, vI x4)]) [1, 2, 3] rfl ?_
              cases h
              exact kJ
            · rw [if_neg c51] at h
              refine r_icmp_ne (tgt := 252) dX12_doubtAll_245 (by decide) (fun _ => ?_) (fun q => absurd q c51)
              refine r_iconst dX12_doubtAll_252 ?_
              refine r_sub (lv2 := [(0, vR 55), (3, vI p3), (4, vI x4)]) [1, 2, 3] rfl ?_
              cases h
              exact kJ
        · rw [if_neg c46] at h
          refine r_if_ne (tgt := 260) dX12_doubtAll_215 (by decide) (fun _ => ?_) (fun q => absurd q c46)
          cases h
          cases k2 _ rfl
          exact hX1 _ _ hX

set_option maxRecDepth 10000 in
theorem lp_X12_doubtAll_L178 {G : Gx}    (X : (Int × Mem) → Prop) (hX1 : ∀ (x3 : Int) (M : Mem), X (x3, M) → Ex G 5 cX12_doubtAll RX12 6 266 [(0, vR 55), (3, vI x3)] [] M) : ∀ (nn : Nat) (x3 : Int) (M : Mem) (out : Int × Mem), itr (fun s => m_X12_doubtAll_L178 s.2  s.1) nn (x3, M) = some out → X out → Ex G 5 cX12_doubtAll RX12 6 178 [(0, vR 55), (3, vI x3)] [] M := by
  intro nn
  induction nn with
  | zero =>
    intro x3 M out h _
    cases h
  | succ nn ih =>
    intro x3 M out h0 hX
    obtain ⟨w, h, k1, k2⟩ := itr_inv h0
    have h : m_X12_doubtAll_L178 M  x3 = some w := h
    unfold m_X12_doubtAll_L178 at h
    refine r_iload_n dX12_doubtAll_178 rfl 1 rfl ?_
    refine r_aload_n dX12_doubtAll_179 rfl 0 rfl ?_
    refine r_getI (j := 0) (jz := 0) dX12_doubtAll_180 f_X12_88 rfl rfl rfl ?_
    refine r_aload_n dX12_doubtAll_183 rfl 0 rfl ?_
    refine r_getI (j := 1) (jz := 1) dX12_doubtAll_184 f_X12_92 rfl rfl rfl ?_
    refine r_imul dX12_doubtAll_187 ?_
    by_cases c42 : wr ((gI M 55 0) * (gI M 55 1)) ≤ wr x3
    · rw [if_pos c42] at h
      refine r_icmp_ge (tgt := 266) dX12_doubtAll_188 (by decide) (fun _ => ?_) (fun q => absurd c42 q)
      cases h
      cases k2 _ rfl
      exact hX1 _ _ hX
    · rw [if_neg c42] at h
      refine r_icmp_ge (tgt := 266) dX12_doubtAll_188 (by decide) (fun q => absurd q c42) (fun _ => ?_)
      refine r_iconst dX12_doubtAll_191 ?_
      refine r_istore (lv2 := [(4, vI 0), (0, vR 55), (3, vI x3)]) dX12_doubtAll_192 (by decide) rfl ?_
      obtain ⟨y54, M55, h9, h⟩ := of_bd2 h
      refine r_sub (lv2 := [(0, vR 55), (3, vI x3), (4, vI 0)]) [1, 2, 0] rfl ?_
      refine lp_X12_doubtAll_L194 x3  (fun w => w = (y54, M55)) ?_ FU 0 M _ h9 rfl
      intro z0 z1 hw
      cases hw
      refine r_iinc (lv2 := [(3, vI (x3 + 1)), (0, vR 55), (4, vI y54)]) dX12_doubtAll_260 1 rfl (by decide) rfl ?_
      refine r_goto (tgt := 178) dX12_doubtAll_263 (by decide) ?_
      refine r_sub (lv2 := [(0, vR 55), (3, vI (x3 + 1))]) [1, 0] rfl ?_
      cases h
      exact ih _ _  _ (k1 _ rfl) hX

set_option maxRecDepth 10000 in
theorem run_X12_doubtAll {M : Mem} {M2 : Mem} {a1 : Int}   (h : m_X12_doubtAll M a1 = some (M2)) : RunV 5 yX12_doubtAll cX12_doubtAll 6 none [vR 55, vI a1] M M2 := by
  refine runV_of (lv := [(0, vR 55), (1, vI a1)]) (by decide +kernel) rfl (Nat.le_of_ble_eq_true rfl) rfl ?_
  intro G hQ
  unfold m_X12_doubtAll at h
  refine r_aload_n dX12_doubtAll_0 rfl 0 rfl ?_
  obtain ⟨r2, M3, hc1, h⟩ := of_bd2 h
  refine r_callVI (st := []) dX12_doubtAll_1 v_X12_222 (run_X12_matches hc1) (by decide) (by decide) rfl rfl (Nat.le_of_ble_eq_true rfl) rfl ?_
  refine r_istore_n (lv2 := [(2, vI r2), (0, vR 55), (1, vI a1)]) dX12_doubtAll_4 rfl (by decide) rfl ?_
  refine r_iconst dX12_doubtAll_5 ?_
  refine r_istore_n (lv2 := [(3, vI 0), (2, vI r2), (0, vR 55), (1, vI a1)]) dX12_doubtAll_6 rfl (by decide) rfl ?_
  obtain ⟨y9, M10, h9, h⟩ := of_bd2 h
  refine r_sub (lv2 := [(0, vR 55), (1, vI a1), (2, vI r2), (3, vI 0)]) [2, 3, 1, 0] rfl ?_
  refine lp_X12_doubtAll_L7 a1 r2  (fun w => w = (y9, M10)) ?_ FU 0 M3 _ h9 rfl
  intro z0 z1 hw
  cases hw
  refine r_aload_n dX12_doubtAll_34 rfl 0 rfl ?_
  obtain ⟨M12, hc11, h⟩ := of_bd1 h
  refine r_callVV (st := []) dX12_doubtAll_35 v_X12_216 (run_X12_forgets hc11) (by decide) (by decide) rfl rfl (Nat.le_of_ble_eq_true rfl) rfl ?_
  refine r_iconst dX12_doubtAll_38 ?_
  refine r_istore_n (lv2 := [(3, vI 0), (0, vR 55), (1, vI a1), (2, vI r2)]) dX12_doubtAll_39 rfl (by decide) rfl ?_
  obtain ⟨y27, M28, h9, h⟩ := of_bd2 h
  refine r_sub (lv2 := [(0, vR 55), (1, vI a1), (3, vI 0)]) [1, 2, 0] rfl ?_
  refine lp_X12_doubtAll_L40 a1  (fun w => w = (y27, M28)) ?_ FU 0 M12 _ h9 rfl
  intro z0 z1 hw
  cases hw
  refine r_iconst dX12_doubtAll_109 ?_
  refine r_istore_n (lv2 := [(3, vI 0), (0, vR 55), (1, vI a1)]) dX12_doubtAll_110 rfl (by decide) rfl ?_
  obtain ⟨y40, M41, h9, h⟩ := of_bd2 h
  refine r_sub (lv2 := [(0, vR 55), (1, vI a1), (3, vI 0)]) [1, 2, 0] rfl ?_
  refine lp_X12_doubtAll_L111 a1  (fun w => w = (y40, M41)) ?_ FU 0 M28 _ h9 rfl
  intro z0 z1 hw
  cases hw
  refine r_iconst dX12_doubtAll_176 ?_
  refine r_istore_n (lv2 := [(3, vI 0), (0, vR 55), (1, vI a1)]) dX12_doubtAll_177 rfl (by decide) rfl ?_
  obtain ⟨y56, M57, h9, h⟩ := of_bd2 h
  refine r_sub (lv2 := [(0, vR 55), (3, vI 0)]) [1, 0] rfl ?_
  refine lp_X12_doubtAll_L178   (fun w => w = (y56, M57)) ?_ FU 0 M41 _ h9 rfl
  intro z0 z1 hw
  cases hw
  cases h
  exact hQ _ _ dX12_doubtAll_266

def m_X12_bar_L32 (M : Mem) (p2 : Int) (x3 : Int) (x4 : Int) : Option ((Int × Int) ⊕ (Int × Int)) :=
  if wr ((gI M 55 0) * (gI M 55 1)) ≤ wr x4 then
    some (.inr (x3, x4))
  else
    if 0 ≤ wr x4 ∧ wr x4 < 64 then
    lt (if wr (gI M 70 (wr x4)) = wr (2 - p2) then 1 else 0) fun (v12 : Int) =>
    some (.inl ((x3 + v12), (x4 + 1)))
    else none
def m_X12_bar (M : Mem) (a1 : Int) (a2 : Int) : Option (Int × Mem) :=
  bd1 (m_X12_in (i2l a1) (0 : Int64) (1 : Int64)) fun b2 =>
  if wr (bI b2) = 0 then
    some ((-1), M)
  else
    bd1 (m_X12_in (i2l a2) (0 : Int64) (1 : Int64)) fun b5 =>
    if wr (bI b5) = 0 then
      some ((-1), M)
    else
      bd1 (m_X12_doubtAll M a1) fun M8 =>
      bd2 (itr (fun s => m_X12_bar_L32 M8 a2 s.1 s.2) FU (0, 0)) fun y13 y14 =>
      some (y13, M8)
set_option maxRecDepth 10000 in
theorem lp_X12_bar_L32 {G : Gx} (M : Mem) (p2 : Int)   (X : (Int × Int) → Prop) (hX1 : ∀ (x3 : Int) (x4 : Int), X (x3, x4) → Ex G 6 cX12_bar RX12 5 73 [(0, vR 55), (2, vI p2), (3, vI x3), (4, vI x4)] [] M) : ∀ (nn : Nat) (x3 : Int) (x4 : Int) (out : Int × Int), itr (fun s => m_X12_bar_L32 M p2 s.1 s.2) nn (x3, x4) = some out → X out → Ex G 6 cX12_bar RX12 5 32 [(0, vR 55), (2, vI p2), (3, vI x3), (4, vI x4)] [] M := by
  intro nn
  induction nn with
  | zero =>
    intro x3 x4 out h _
    cases h
  | succ nn ih =>
    intro x3 x4 out h0 hX
    obtain ⟨w, h, k1, k2⟩ := itr_inv h0
    have h : m_X12_bar_L32 M p2 x3 x4 = some w := h
    unfold m_X12_bar_L32 at h
    refine r_iload dX12_bar_32 3 rfl ?_
    refine r_aload_n dX12_bar_34 rfl 0 rfl ?_
    refine r_getI (j := 0) (jz := 0) dX12_bar_35 f_X12_88 rfl rfl rfl ?_
    refine r_aload_n dX12_bar_38 rfl 0 rfl ?_
    refine r_getI (j := 1) (jz := 1) dX12_bar_39 f_X12_92 rfl rfl rfl ?_
    refine r_imul dX12_bar_42 ?_
    by_cases c9 : wr ((gI M 55 0) * (gI M 55 1)) ≤ wr x4
    · rw [if_pos c9] at h
      refine r_icmp_ge (tgt := 73) dX12_bar_43 (by decide) (fun _ => ?_) (fun q => absurd c9 q)
      cases h
      cases k2 _ rfl
      exact hX1 _ _ hX
    · rw [if_neg c9] at h
      refine r_icmp_ge (tgt := 73) dX12_bar_43 (by decide) (fun q => absurd q c9) (fun _ => ?_)
      refine r_iload_n dX12_bar_46 rfl 2 rfl ?_
      refine r_aload_n dX12_bar_47 rfl 0 rfl ?_
      refine r_getR (j := 18) (v := 70) dX12_bar_48 f_X12_54 rfl rfl rfl ?_
      refine r_iload dX12_bar_51 3 rfl ?_
      obtain ⟨c10, h⟩ := of_ck h
      refine r_iald dX12_bar_53 rfl c10 ?_
      refine r_iconst dX12_bar_54 ?_
      refine r_iload_n dX12_bar_55 rfl 1 rfl ?_
      refine r_isub dX12_bar_56 ?_
      obtain ⟨v12, ev12, h⟩ := of_lt h
      have kJ : Ex G 6 cX12_bar RX12 5 65 [(0, vR 55), (2, vI p2), (4, vI x4)] [vI v12, vI x3] M := by
        refine r_iadd dX12_bar_65 ?_
        refine r_istore_n (lv2 := [(3, vI (x3 + v12)), (0, vR 55), (2, vI p2), (4, vI x4)]) dX12_bar_66 rfl (by decide) rfl ?_
        refine r_iinc (lv2 := [(4, vI (x4 + 1)), (3, vI (x3 + v12)), (0, vR 55), (2, vI p2)]) dX12_bar_67 3 rfl (by decide) rfl ?_
        refine r_goto (tgt := 32) dX12_bar_70 (by decide) ?_
        refine r_sub (lv2 := [(0, vR 55), (2, vI p2), (3, vI (x3 + v12)), (4, vI (x4 + 1))]) [2, 3, 1, 0] rfl ?_
        cases h
        exact ih _ _  _ (k1 _ rfl) hX
      clear h
      by_cases c11 : wr (gI M 70 (wr x4)) = wr (2 - p2)
      · skip
        refine r_icmp_ne (tgt := 64) dX12_bar_57 (by decide) (fun q => absurd c11 q) (fun _ => ?_)
        refine r_iconst dX12_bar_60 ?_
        refine r_goto (tgt := 65) dX12_bar_61 (by decide) ?_
        rw [show v12 = 1 from by rw [ev12, if_pos c11]] at kJ
        refine r_sub (lv2 := [(0, vR 55), (2, vI p2), (4, vI x4)]) [0, 1, 3] rfl ?_
        exact kJ
      · skip
        refine r_icmp_ne (tgt := 64) dX12_bar_57 (by decide) (fun _ => ?_) (fun q => absurd q c11)
        refine r_iconst dX12_bar_64 ?_
        rw [show v12 = 0 from by rw [ev12, if_neg c11]] at kJ
        refine r_sub (lv2 := [(0, vR 55), (2, vI p2), (4, vI x4)]) [0, 1, 3] rfl ?_
        exact kJ

set_option maxRecDepth 10000 in
theorem run_X12_bar {M : Mem} {M2 : Mem} {a1 : Int} {a2 : Int} {r : Int}   (h : m_X12_bar M a1 a2 = some (r, M2)) : RunI 6 yX12_bar cX12_bar 5 (some .int) [vR 55, vI a1, vI a2] M r M2 := by
  refine runI_of (lv := [(0, vR 55), (1, vI a1), (2, vI a2)]) (by decide +kernel) (Or.inl rfl) (Nat.le_of_ble_eq_true rfl) rfl ?_
  intro G hQ
  unfold m_X12_bar at h
  refine r_iload_n dX12_bar_0 rfl 1 rfl ?_
  refine r_i2l dX12_bar_1 ?_
  refine r_lconst (v := 0) dX12_bar_2 rfl ?_
  refine r_lconst (v := 1) dX12_bar_3 rfl ?_
  obtain ⟨b2, hc1, h⟩ := of_bd1 h
  refine r_callSI (st := []) dX12_bar_4 v_X12_100 (run_X12_in hc1) (by decide) (by decide) rfl (Nat.le_of_ble_eq_true rfl) rfl ?_
  by_cases c3 : wr (bI b2) = 0
  · rw [if_pos c3] at h
    refine r_if_eq (tgt := 20) dX12_bar_7 (by decide) (fun _ => ?_) (fun q => absurd c3 q)
    refine r_iconst dX12_bar_20 ?_
    cases h
    exact hQ _ _ dX12_bar_21
  · rw [if_neg c3] at h
    refine r_if_eq (tgt := 20) dX12_bar_7 (by decide) (fun q => absurd q c3) (fun _ => ?_)
    refine r_iload_n dX12_bar_10 rfl 2 rfl ?_
    refine r_i2l dX12_bar_11 ?_
    refine r_lconst (v := 0) dX12_bar_12 rfl ?_
    refine r_lconst (v := 1) dX12_bar_13 rfl ?_
    obtain ⟨b5, hc4, h⟩ := of_bd1 h
    refine r_callSI (st := []) dX12_bar_14 v_X12_100 (run_X12_in hc4) (by decide) (by decide) rfl (Nat.le_of_ble_eq_true rfl) rfl ?_
    by_cases c6 : wr (bI b5) = 0
    · rw [if_pos c6] at h
      refine r_if_ne (tgt := 22) dX12_bar_17 (by decide) (fun q => absurd c6 q) (fun _ => ?_)
      refine r_iconst dX12_bar_20 ?_
      cases h
      exact hQ _ _ dX12_bar_21
    · rw [if_neg c6] at h
      refine r_if_ne (tgt := 22) dX12_bar_17 (by decide) (fun _ => ?_) (fun q => absurd q c6)
      refine r_aload_n dX12_bar_22 rfl 0 rfl ?_
      refine r_iload_n dX12_bar_23 rfl 1 rfl ?_
      obtain ⟨M8, hc7, h⟩ := of_bd1 h
      refine r_callVV (st := []) dX12_bar_24 v_X12_225 (run_X12_doubtAll hc7) (by decide) (by decide) rfl rfl (Nat.le_of_ble_eq_true rfl) rfl ?_
      refine r_iconst dX12_bar_27 ?_
      refine r_istore_n (lv2 := [(3, vI 0), (0, vR 55), (1, vI a1), (2, vI a2)]) dX12_bar_28 rfl (by decide) rfl ?_
      refine r_iconst dX12_bar_29 ?_
      refine r_istore (lv2 := [(4, vI 0), (3, vI 0), (0, vR 55), (1, vI a1), (2, vI a2)]) dX12_bar_30 (by decide) rfl ?_
      obtain ⟨y13, y14, h9, h⟩ := of_bd2 h
      refine r_sub (lv2 := [(0, vR 55), (2, vI a2), (3, vI 0), (4, vI 0)]) [2, 4, 1, 0] rfl ?_
      refine lp_X12_bar_L32 M8 a2  (fun w => w = (y13, y14)) ?_ FU 0 0 _ h9 rfl
      intro z0 z1 hw
      cases hw
      refine r_iload_n dX12_bar_73 rfl 2 rfl ?_
      cases h
      exact hQ _ _ dX12_bar_74

def m_X12_bars (M : Mem) (a1 : Int) (a2 : Int) : Option (Int × Mem) :=
  bd1 (m_X12_in (i2l a1) (0 : Int64) (1 : Int64)) fun b2 =>
  if wr (bI b2) = 0 then
    some ((-1), M)
  else
    bd1 (m_X12_isCell M a2) fun b5 =>
    if wr (bI b5) = 0 then
      some ((-1), M)
    else
      if 0 ≤ wr a2 ∧ wr a2 < 64 then
      if wr (gI M 56 (wr a2)) = 0 then
        some ((-1), M)
      else
        bd1 (m_X12_doubtAll M a1) fun M10 =>
        some ((gI M10 70 (wr a2)), M10)
      else none
set_option maxRecDepth 10000 in
theorem run_X12_bars {M : Mem} {M2 : Mem} {a1 : Int} {a2 : Int} {r : Int}   (h : m_X12_bars M a1 a2 = some (r, M2)) : RunI 6 yX12_bars cX12_bars 3 (some .int) [vR 55, vI a1, vI a2] M r M2 := by
  refine runI_of (lv := [(0, vR 55), (1, vI a1), (2, vI a2)]) (by decide +kernel) (Or.inl rfl) (Nat.le_of_ble_eq_true rfl) rfl ?_
  intro G hQ
  unfold m_X12_bars at h
  refine r_iload_n dX12_bars_0 rfl 1 rfl ?_
  refine r_i2l dX12_bars_1 ?_
  refine r_lconst (v := 0) dX12_bars_2 rfl ?_
  refine r_lconst (v := 1) dX12_bars_3 rfl ?_
  obtain ⟨b2, hc1, h⟩ := of_bd1 h
  refine r_callSI (st := []) dX12_bars_4 v_X12_100 (run_X12_in hc1) (by decide) (by decide) rfl (Nat.le_of_ble_eq_true rfl) rfl ?_
  by_cases c3 : wr (bI b2) = 0
  · rw [if_pos c3] at h
    refine r_if_eq (tgt := 27) dX12_bars_7 (by decide) (fun _ => ?_) (fun q => absurd c3 q)
    refine r_iconst dX12_bars_27 ?_
    cases h
    exact hQ _ _ dX12_bars_28
  · rw [if_neg c3] at h
    refine r_if_eq (tgt := 27) dX12_bars_7 (by decide) (fun q => absurd q c3) (fun _ => ?_)
    refine r_aload_n dX12_bars_10 rfl 0 rfl ?_
    refine r_iload_n dX12_bars_11 rfl 2 rfl ?_
    obtain ⟨b5, hc4, h⟩ := of_bd1 h
    refine r_callVI (st := []) dX12_bars_12 v_X12_116 (run_X12_isCell hc4) (by decide) (by decide) rfl rfl (Nat.le_of_ble_eq_true rfl) rfl ?_
    by_cases c6 : wr (bI b5) = 0
    · rw [if_pos c6] at h
      refine r_if_eq (tgt := 27) dX12_bars_15 (by decide) (fun _ => ?_) (fun q => absurd c6 q)
      refine r_iconst dX12_bars_27 ?_
      cases h
      exact hQ _ _ dX12_bars_28
    · rw [if_neg c6] at h
      refine r_if_eq (tgt := 27) dX12_bars_15 (by decide) (fun q => absurd q c6) (fun _ => ?_)
      refine r_aload_n dX12_bars_18 rfl 0 rfl ?_
      refine r_getR (j := 2) (v := 56) dX12_bars_19 f_X12_7 rfl rfl rfl ?_
      refine r_iload_n dX12_bars_22 rfl 2 rfl ?_
      obtain ⟨c7, h⟩ := of_ck h
      refine r_zald dX12_bars_23 rfl c7 ?_
      by_cases c8 : wr (gI M 56 (wr a2)) = 0
      · rw [if_pos c8] at h
        refine r_if_ne (tgt := 29) dX12_bars_24 (by decide) (fun q => absurd c8 q) (fun _ => ?_)
        refine r_iconst dX12_bars_27 ?_
        cases h
        exact hQ _ _ dX12_bars_28
      · rw [if_neg c8] at h
        refine r_if_ne (tgt := 29) dX12_bars_24 (by decide) (fun _ => ?_) (fun q => absurd q c8)
        refine r_aload_n dX12_bars_29 rfl 0 rfl ?_
        refine r_iload_n dX12_bars_30 rfl 1 rfl ?_
        obtain ⟨M10, hc9, h⟩ := of_bd1 h
        refine r_callVV (st := []) dX12_bars_31 v_X12_225 (run_X12_doubtAll hc9) (by decide) (by decide) rfl rfl (Nat.le_of_ble_eq_true rfl) rfl ?_
        refine r_aload_n dX12_bars_34 rfl 0 rfl ?_
        refine r_getR (j := 18) (v := 70) dX12_bars_35 f_X12_54 rfl rfl rfl ?_
        refine r_iload_n dX12_bars_38 rfl 2 rfl ?_
        refine r_iald dX12_bars_39 rfl c7 ?_
        cases h
        exact hQ _ _ dX12_bars_40

def m_X12_isOpenFrame (M : Mem) (a1 : Int) : Option (Bool) :=
  bd1 (m_X12_isOpenAt M ((irm a1 10) - 1) ((idv a1 10) - 1)) fun b2 =>
  some b2
set_option maxRecDepth 10000 in
theorem run_X12_isOpenFrame {M : Mem} {a1 : Int} {r : Bool}   (h : m_X12_isOpenFrame M a1 = some r) : RunI 2 yX12_isOpenFrame cX12_isOpenFrame 2 (some .boolean) [vR 55, vI a1] M (bI r) M := by
  refine runI_of (lv := [(0, vR 55), (1, vI a1)]) (by decide +kernel) (Or.inr ⟨rfl, bI_01 r⟩) (Nat.le_of_ble_eq_true rfl) rfl ?_
  intro G hQ
  unfold m_X12_isOpenFrame at h
  refine r_aload_n dX12_isOpenFrame_0 rfl 0 rfl ?_
  refine r_iload_n dX12_isOpenFrame_1 rfl 1 rfl ?_
  refine r_bipush dX12_isOpenFrame_2 (by decide) ?_
  refine r_irem dX12_isOpenFrame_4 (by decide) ?_
  refine r_iconst dX12_isOpenFrame_5 ?_
  refine r_isub dX12_isOpenFrame_6 ?_
  refine r_iload_n dX12_isOpenFrame_7 rfl 1 rfl ?_
  refine r_bipush dX12_isOpenFrame_8 (by decide) ?_
  refine r_idiv dX12_isOpenFrame_10 (by decide) ?_
  refine r_iconst dX12_isOpenFrame_11 ?_
  refine r_isub dX12_isOpenFrame_12 ?_
  obtain ⟨b2, hc1, h⟩ := of_bd1 h
  refine r_callVI (st := []) dX12_isOpenFrame_13 v_X12_210 (run_X12_isOpenAt hc1) (by decide) (by decide) rfl rfl (Nat.le_of_ble_eq_true rfl) rfl ?_
  cases h
  exact hQ _ _ dX12_isOpenFrame_16

def m_X12_meets_L9 (M : Mem) (p1 : Int) (p2 : Int) (p3 : Int) (x4 : Int) : Option ((Int × Mem) ⊕ (Int × Mem)) :=
  if wr 100 ≤ wr x4 then
    some (.inr (x4, M))
  else
    if 0 ≤ wr x4 ∧ wr x4 < 100 then
    lt (sI M 71 (wr x4) 0) fun M5 =>
    some (.inl ((x4 + 1), M5))
    else none
def m_X12_meets_L60 (M : Mem) (p2 : Int) (p3 : Int) (p5 : Int) (x4 : Int) (x6 : Int) : Option ((Int × Int × Mem) ⊕ (Int × Int × Mem)) :=
  if wr 9 ≤ wr x6 then
    some (.inr (x4, x6, M))
  else
    if 0 ≤ wr p5 ∧ wr p5 < 100 then
    bd1 (m_X12_in (i2l ((irm (gI M 72 (wr p5)) 10) + ((irm x6 3) - 1))) (0 : Int64) (i2l ((gI M 55 0) + 1))) fun b15 =>
    bd1 (
      if wr (bI b15) = 0 then
        some (0)
      else
        bd1 (m_X12_in (i2l ((idv (gI M 72 (wr p5)) 10) + ((idv x6 3) - 1))) (0 : Int64) (i2l ((gI M 55 1) + 1))) fun b18 =>
        if wr (bI b18) = 0 then
          some (0)
        else
          if wr p2 = 0 then
            if wr ((irm x6 3) - 1) = 0 then
              some (1)
            else
              if wr ((idv x6 3) - 1) = 0 then
                some (1)
              else
                some (0)
          else
            some (1)) fun (v23 : Int) =>
    bd2 (
      if wr v23 = 0 then
        some (x4, M)
      else
        if 0 ≤ wr ((10 * ((idv (gI M 72 (wr p5)) 10) + ((idv x6 3) - 1))) + ((irm (gI M 72 (wr p5)) 10) + ((irm x6 3) - 1))) ∧ wr ((10 * ((idv (gI M 72 (wr p5)) 10) + ((idv x6 3) - 1))) + ((irm (gI M 72 (wr p5)) 10) + ((irm x6 3) - 1))) < 100 then
        if wr (gI M 71 (wr ((10 * ((idv (gI M 72 (wr p5)) 10) + ((idv x6 3) - 1))) + ((irm (gI M 72 (wr p5)) 10) + ((irm x6 3) - 1))))) = 0 then
          bd1 (m_X12_isOpenFrame M ((10 * ((idv (gI M 72 (wr p5)) 10) + ((idv x6 3) - 1))) + ((irm (gI M 72 (wr p5)) 10) + ((irm x6 3) - 1)))) fun b28 =>
          if wr (bI b28) = wr p3 then
            lt (sI M 71 (wr ((10 * ((idv (gI M 72 (wr p5)) 10) + ((idv x6 3) - 1))) + ((irm (gI M 72 (wr p5)) 10) + ((irm x6 3) - 1)))) 1) fun M30 =>
            if 0 ≤ wr x4 ∧ wr x4 < 100 then
            lt (sI M30 72 (wr x4) ((10 * ((idv (gI M 72 (wr p5)) 10) + ((idv x6 3) - 1))) + ((irm (gI M 72 (wr p5)) 10) + ((irm x6 3) - 1)))) fun M32 =>
            some ((x4 + 1), M32)
            else none
          else
            some (x4, M)
        else
          some (x4, M)
        else none) fun (v33 : Int) (M34 : Mem) =>
    some (.inl (v33, (x6 + 1), M34))
    else none
def m_X12_meets_L50 (M : Mem) (p2 : Int) (p3 : Int) (x4 : Int) (x5 : Int) : Option ((Int × Int × Mem) ⊕ (Int × Int × Mem)) :=
  if wr x4 ≤ wr x5 then
    some (.inr (x4, x5, M))
  else
    bd3 (itr (fun s => m_X12_meets_L60 s.2.2 p2 p3 x5 s.1 s.2.1) FU (x4, 0, M)) fun y35 y36 M37 =>
    some (.inl (y35, (x5 + 1), M37))
def m_X12_meets (M : Mem) (a1 : Int) (a2 : Int) : Option (Int × Mem) :=
  bd1 (m_X12_isOpenFrame M a1) fun b2 =>
  bd2 (itr (fun s => m_X12_meets_L9 s.2 a1 a2 (bI b2) s.1) FU (0, M)) fun y6 M7 =>
  if 0 ≤ wr a1 ∧ wr a1 < 100 then
  lt (sI M7 71 (wr a1) 1) fun M9 =>
  lt (sI M9 72 (wr 0) a1) fun M10 =>
  bd3 (itr (fun s => m_X12_meets_L50 s.2.2 a2 (bI b2) s.1 s.2.1) FU (1, 0, M10)) fun y38 y39 M40 =>
  some (y38, M40)
  else none
set_option maxRecDepth 10000 in
theorem lp_X12_meets_L9 {G : Gx} (p1 : Int) (p2 : Int) (p3 : Int)   (X : (Int × Mem) → Prop) (hX1 : ∀ (x4 : Int) (M : Mem), X (x4, M) → Ex G 3 cX12_meets RX12 12 30 [(0, vR 55), (1, vI p1), (2, vI p2), (3, vI p3), (4, vI x4)] [] M) : ∀ (nn : Nat) (x4 : Int) (M : Mem) (out : Int × Mem), itr (fun s => m_X12_meets_L9 s.2 p1 p2 p3 s.1) nn (x4, M) = some out → X out → Ex G 3 cX12_meets RX12 12 9 [(0, vR 55), (1, vI p1), (2, vI p2), (3, vI p3), (4, vI x4)] [] M := by
  intro nn
  induction nn with
  | zero =>
    intro x4 M out h _
    cases h
  | succ nn ih =>
    intro x4 M out h0 hX
    obtain ⟨w, h, k1, k2⟩ := itr_inv h0
    have h : m_X12_meets_L9 M p1 p2 p3 x4 = some w := h
    unfold m_X12_meets_L9 at h
    refine r_iload dX12_meets_9 4 rfl ?_
    refine r_bipush dX12_meets_11 (by decide) ?_
    by_cases c3 : wr 100 ≤ wr x4
    · rw [if_pos c3] at h
      refine r_icmp_ge (tgt := 30) dX12_meets_13 (by decide) (fun _ => ?_) (fun q => absurd c3 q)
      cases h
      cases k2 _ rfl
      exact hX1 _ _ hX
    · rw [if_neg c3] at h
      refine r_icmp_ge (tgt := 30) dX12_meets_13 (by decide) (fun q => absurd q c3) (fun _ => ?_)
      refine r_aload_n dX12_meets_16 rfl 0 rfl ?_
      refine r_getR (j := 19) (v := 71) dX12_meets_17 f_X12_57 rfl rfl rfl ?_
      refine r_iload dX12_meets_20 4 rfl ?_
      refine r_iconst dX12_meets_22 ?_
      obtain ⟨c4, h⟩ := of_ck h
      obtain ⟨M5, eM5, h⟩ := of_lt h
      refine r_zast dX12_meets_23 rfl c4 (by decide) ?_
      rw [← eM5]
      refine r_iinc (lv2 := [(4, vI (x4 + 1)), (0, vR 55), (1, vI p1), (2, vI p2), (3, vI p3)]) dX12_meets_24 4 rfl (by decide) rfl ?_
      refine r_goto (tgt := 9) dX12_meets_27 (by decide) ?_
      refine r_sub (lv2 := [(0, vR 55), (1, vI p1), (2, vI p2), (3, vI p3), (4, vI (x4 + 1))]) [1, 2, 3, 4, 0] rfl ?_
      cases h
      exact ih _ _  _ (k1 _ rfl) hX

set_option maxRecDepth 10000 in
theorem lp_X12_meets_L60 {G : Gx} (p2 : Int) (p3 : Int) (p5 : Int)   (X : (Int × Int × Mem) → Prop) (hX1 : ∀ (x4 : Int) (x6 : Int) (M : Mem), X (x4, x6, M) → Ex G 3 cX12_meets RX12 12 243 [(0, vR 55), (2, vI p2), (3, vI p3), (4, vI x4), (5, vI p5), (6, vI x6)] [] M) : ∀ (nn : Nat) (x4 : Int) (x6 : Int) (M : Mem) (out : Int × Int × Mem), itr (fun s => m_X12_meets_L60 s.2.2 p2 p3 p5 s.1 s.2.1) nn (x4, x6, M) = some out → X out → Ex G 3 cX12_meets RX12 12 60 [(0, vR 55), (2, vI p2), (3, vI p3), (4, vI x4), (5, vI p5), (6, vI x6)] [] M := by
  intro nn
  induction nn with
  | zero =>
    intro x4 x6 M out h _
    cases h
  | succ nn ih =>
    intro x4 x6 M out h0 hX
    obtain ⟨w, h, k1, k2⟩ := itr_inv h0
    have h : m_X12_meets_L60 M p2 p3 p5 x4 x6 = some w := h
    unfold m_X12_meets_L60 at h
    refine r_iload dX12_meets_60 5 rfl ?_
    refine r_bipush dX12_meets_62 (by decide) ?_
    by_cases c12 : wr 9 ≤ wr x6
    · rw [if_pos c12] at h
      refine r_icmp_ge (tgt := 243) dX12_meets_64 (by decide) (fun _ => ?_) (fun q => absurd c12 q)
      cases h
      cases k2 _ rfl
      exact hX1 _ _ _ hX
    · rw [if_neg c12] at h
      refine r_icmp_ge (tgt := 243) dX12_meets_64 (by decide) (fun q => absurd q c12) (fun _ => ?_)
      refine r_iload dX12_meets_67 5 rfl ?_
      refine r_iconst dX12_meets_69 ?_
      refine r_irem dX12_meets_70 (by decide) ?_
      refine r_iconst dX12_meets_71 ?_
      refine r_isub dX12_meets_72 ?_
      refine r_istore (lv2 := [(7, vI ((irm x6 3) - 1)), (0, vR 55), (2, vI p2), (3, vI p3), (4, vI x4), (5, vI p5), (6, vI x6)]) dX12_meets_73 (by decide) rfl ?_
      refine r_iload dX12_meets_75 6 rfl ?_
      refine r_iconst dX12_meets_77 ?_
      refine r_idiv dX12_meets_78 (by decide) ?_
      refine r_iconst dX12_meets_79 ?_
      refine r_isub dX12_meets_80 ?_
      refine r_istore (lv2 := [(8, vI ((idv x6 3) - 1)), (7, vI ((irm x6 3) - 1)), (0, vR 55), (2, vI p2), (3, vI p3), (4, vI x4), (5, vI p5), (6, vI x6)]) dX12_meets_81 (by decide) rfl ?_
      refine r_aload_n dX12_meets_83 rfl 2 rfl ?_
      refine r_getR (j := 20) (v := 72) dX12_meets_84 f_X12_60 rfl rfl rfl ?_
      refine r_iload dX12_meets_87 6 rfl ?_
      obtain ⟨c13, h⟩ := of_ck h
      refine r_iald dX12_meets_89 rfl c13 ?_
      refine r_bipush dX12_meets_90 (by decide) ?_
      refine r_irem dX12_meets_92 (by decide) ?_
      refine r_iload dX12_meets_93 1 rfl ?_
      refine r_iadd dX12_meets_95 ?_
      refine r_istore (lv2 := [(9, vI ((irm (gI M 72 (wr p5)) 10) + ((irm x6 3) - 1))), (8, vI ((idv x6 3) - 1)), (7, vI ((irm x6 3) - 1)), (0, vR 55), (2, vI p2), (3, vI p3), (4, vI x4), (5, vI p5), (6, vI x6)]) dX12_meets_96 (by decide) rfl ?_
      refine r_aload_n dX12_meets_98 rfl 3 rfl ?_
      refine r_getR (j := 20) (v := 72) dX12_meets_99 f_X12_60 rfl rfl rfl ?_
      refine r_iload dX12_meets_102 7 rfl ?_
      refine r_iald dX12_meets_104 rfl c13 ?_
      refine r_bipush dX12_meets_105 (by decide) ?_
      refine r_idiv dX12_meets_107 (by decide) ?_
      refine r_iload dX12_meets_108 1 rfl ?_
      refine r_iadd dX12_meets_110 ?_
      refine r_istore (lv2 := [(10, vI ((idv (gI M 72 (wr p5)) 10) + ((idv x6 3) - 1))), (9, vI ((irm (gI M 72 (wr p5)) 10) + ((irm x6 3) - 1))), (8, vI ((idv x6 3) - 1)), (7, vI ((irm x6 3) - 1)), (0, vR 55), (2, vI p2), (3, vI p3), (4, vI x4), (5, vI p5), (6, vI x6)]) dX12_meets_111 (by decide) rfl ?_
      refine r_iload dX12_meets_113 1 rfl ?_
      refine r_i2l dX12_meets_115 ?_
      refine r_lconst (v := 0) dX12_meets_116 rfl ?_
      refine r_aload_n dX12_meets_117 rfl 4 rfl ?_
      refine r_getI (j := 0) (jz := 0) dX12_meets_118 f_X12_88 rfl rfl rfl ?_
      refine r_iconst dX12_meets_121 ?_
      refine r_iadd dX12_meets_122 ?_
      refine r_i2l dX12_meets_123 ?_
      obtain ⟨b15, hc14, h⟩ := of_bd1 h
      refine r_callSI (st := []) dX12_meets_124 v_X12_100 (run_X12_in hc14) (by decide) (by decide) rfl (Nat.le_of_ble_eq_true rfl) rfl ?_
      obtain ⟨v23, h9, h⟩ := of_bd1 h
      have kJ : Ex G 3 cX12_meets RX12 12 166 [(0, vR 55), (2, vI p2), (3, vI p3), (4, vI x4), (5, vI p5), (6, vI x6), (9, vI ((irm (gI M 72 (wr p5)) 10) + ((irm x6 3) - 1))), (10, vI ((idv (gI M 72 (wr p5)) 10) + ((idv x6 3) - 1)))] [vI v23] M := by
        refine r_istore (lv2 := [(11, vI v23), (0, vR 55), (2, vI p2), (3, vI p3), (4, vI x4), (5, vI p5), (6, vI x6), (9, vI ((irm (gI M 72 (wr p5)) 10) + ((irm x6 3) - 1))), (10, vI ((idv (gI M 72 (wr p5)) 10) + ((idv x6 3) - 1)))]) dX12_meets_166 (by decide) rfl ?_
        refine r_iload dX12_meets_168 0 rfl ?_
        obtain ⟨v33, M34, h9, h⟩ := of_bd2 h
        have kJ : Ex G 3 cX12_meets RX12 12 237 [(0, vR 55), (2, vI p2), (3, vI p3), (4, vI v33), (5, vI p5), (6, vI x6)] [] M34 := by
          refine r_iinc (lv2 := [(6, vI (x6 + 1)), (0, vR 55), (2, vI p2), (3, vI p3), (4, vI v33), (5, vI p5)]) dX12_meets_237 5 rfl (by decide) rfl ?_
          refine r_goto (tgt := 60) dX12_meets_240 (by decide) ?_
          refine r_sub (lv2 := [(0, vR 55), (2, vI p2), (3, vI p3), (4, vI v33), (5, vI p5), (6, vI (x6 + 1))]) [1, 2, 3, 4, 5, 0] rfl ?_
          cases h
          exact ih _ _ _  _ (k1 _ rfl) hX
        clear h
        have h := h9
        clear h9
        by_cases c24 : wr v23 = 0
        · rw [if_pos c24] at h
          refine r_if_eq (tgt := 237) dX12_meets_170 (by decide) (fun _ => ?_) (fun q => absurd c24 q)
          refine r_sub (lv2 := [(0, vR 55), (2, vI p2), (3, vI p3), (4, vI x4), (5, vI p5), (6, vI x6)]) [1, 2, 3, 4, 5, 6] rfl ?_
          cases h
          exact kJ
        · rw [if_neg c24] at h
          refine r_if_eq (tgt := 237) dX12_meets_170 (by decide) (fun q => absurd q c24) (fun _ => ?_)
          refine r_aload_n dX12_meets_173 rfl 1 rfl ?_
          refine r_getR (j := 19) (v := 71) dX12_meets_174 f_X12_57 rfl rfl rfl ?_
          refine r_bipush dX12_meets_177 (by decide) ?_
          refine r_iload dX12_meets_179 8 rfl ?_
          refine r_imul dX12_meets_181 ?_
          refine r_iload dX12_meets_182 7 rfl ?_
          refine r_iadd dX12_meets_184 ?_
          obtain ⟨c25, h⟩ := of_ck h
          refine r_zald dX12_meets_185 rfl c25 ?_
          by_cases c26 : wr (gI M 71 (wr ((10 * ((idv (gI M 72 (wr p5)) 10) + ((idv x6 3) - 1))) + ((irm (gI M 72 (wr p5)) 10) + ((irm x6 3) - 1))))) = 0
          · rw [if_pos c26] at h
            refine r_if_ne (tgt := 237) dX12_meets_186 (by decide) (fun q => absurd c26 q) (fun _ => ?_)
            refine r_aload_n dX12_meets_189 rfl 1 rfl ?_
            refine r_bipush dX12_meets_190 (by decide) ?_
            refine r_iload dX12_meets_192 8 rfl ?_
            refine r_imul dX12_meets_194 ?_
            refine r_iload dX12_meets_195 7 rfl ?_
            refine r_iadd dX12_meets_197 ?_
            obtain ⟨b28, hc27, h⟩ := of_bd1 h
            refine r_callVI (st := []) dX12_meets_198 v_X12_228 (run_X12_isOpenFrame hc27) (by decide) (by decide) rfl rfl (Nat.le_of_ble_eq_true rfl) rfl ?_
            refine r_iload_n dX12_meets_201 rfl 3 rfl ?_
            by_cases c29 : wr (bI b28) = wr p3
            · rw [if_pos c29] at h
              refine r_icmp_ne (tgt := 237) dX12_meets_202 (by decide) (fun q => absurd c29 q) (fun _ => ?_)
              refine r_aload_n dX12_meets_205 rfl 1 rfl ?_
              refine r_getR (j := 19) (v := 71) dX12_meets_206 f_X12_57 rfl rfl rfl ?_
              refine r_bipush dX12_meets_209 (by decide) ?_
              refine r_iload dX12_meets_211 8 rfl ?_
              refine r_imul dX12_meets_213 ?_
              refine r_iload dX12_meets_214 7 rfl ?_
              refine r_iadd dX12_meets_216 ?_
              refine r_iconst dX12_meets_217 ?_
              obtain ⟨M30, eM30, h⟩ := of_lt h
              refine r_zast dX12_meets_218 rfl c25 (by decide) ?_
              rw [← eM30]
              refine r_aload_n dX12_meets_219 rfl 1 rfl ?_
              refine r_getR (j := 20) (v := 72) dX12_meets_220 f_X12_60 rfl rfl rfl ?_
              refine r_iload dX12_meets_223 4 rfl ?_
              refine r_bipush dX12_meets_225 (by decide) ?_
              refine r_iload dX12_meets_227 8 rfl ?_
              refine r_imul dX12_meets_229 ?_
              refine r_iload dX12_meets_230 7 rfl ?_
              refine r_iadd dX12_meets_232 ?_
              obtain ⟨c31, h⟩ := of_ck h
              obtain ⟨M32, eM32, h⟩ := of_lt h
              refine r_iast dX12_meets_233 rfl c31 ?_
              rw [← eM32]
              refine r_iinc (lv2 := [(4, vI (x4 + 1)), (11, vI v23), (0, vR 55), (2, vI p2), (3, vI p3), (5, vI p5), (6, vI x6), (9, vI ((irm (gI M 72 (wr p5)) 10) + ((irm x6 3) - 1))), (10, vI ((idv (gI M 72 (wr p5)) 10) + ((idv x6 3) - 1)))]) dX12_meets_234 4 rfl (by decide) rfl ?_
              refine r_sub (lv2 := [(0, vR 55), (2, vI p2), (3, vI p3), (4, vI (x4 + 1)), (5, vI p5), (6, vI x6)]) [2, 3, 4, 0, 5, 6] rfl ?_
              cases h
              exact kJ
            · rw [if_neg c29] at h
              refine r_icmp_ne (tgt := 237) dX12_meets_202 (by decide) (fun _ => ?_) (fun q => absurd q c29)
              refine r_sub (lv2 := [(0, vR 55), (2, vI p2), (3, vI p3), (4, vI x4), (5, vI p5), (6, vI x6)]) [1, 2, 3, 4, 5, 6] rfl ?_
              cases h
              exact kJ
          · rw [if_neg c26] at h
            refine r_if_ne (tgt := 237) dX12_meets_186 (by decide) (fun _ => ?_) (fun q => absurd q c26)
            refine r_sub (lv2 := [(0, vR 55), (2, vI p2), (3, vI p3), (4, vI x4), (5, vI p5), (6, vI x6)]) [1, 2, 3, 4, 5, 6] rfl ?_
            cases h
            exact kJ
      clear h
      have h := h9
      clear h9
      by_cases c16 : wr (bI b15) = 0
      · rw [if_pos c16] at h
        refine r_if_eq (tgt := 165) dX12_meets_127 (by decide) (fun _ => ?_) (fun q => absurd c16 q)
        refine r_iconst dX12_meets_165 ?_
        refine r_sub (lv2 := [(0, vR 55), (2, vI p2), (3, vI p3), (4, vI x4), (5, vI p5), (6, vI x6), (9, vI ((irm (gI M 72 (wr p5)) 10) + ((irm x6 3) - 1))), (10, vI ((idv (gI M 72 (wr p5)) 10) + ((idv x6 3) - 1)))]) [4, 5, 6, 7, 8, 9, 1, 0] rfl ?_
        cases h
        exact kJ
      · rw [if_neg c16] at h
        refine r_if_eq (tgt := 165) dX12_meets_127 (by decide) (fun q => absurd q c16) (fun _ => ?_)
        refine r_iload dX12_meets_130 0 rfl ?_
        refine r_i2l dX12_meets_132 ?_
        refine r_lconst (v := 0) dX12_meets_133 rfl ?_
        refine r_aload_n dX12_meets_134 rfl 4 rfl ?_
        refine r_getI (j := 1) (jz := 1) dX12_meets_135 f_X12_92 rfl rfl rfl ?_
        refine r_iconst dX12_meets_138 ?_
        refine r_iadd dX12_meets_139 ?_
        refine r_i2l dX12_meets_140 ?_
        obtain ⟨b18, hc17, h⟩ := of_bd1 h
        refine r_callSI (st := []) dX12_meets_141 v_X12_100 (run_X12_in hc17) (by decide) (by decide) rfl (Nat.le_of_ble_eq_true rfl) rfl ?_
        by_cases c19 : wr (bI b18) = 0
        · rw [if_pos c19] at h
          refine r_if_eq (tgt := 165) dX12_meets_144 (by decide) (fun _ => ?_) (fun q => absurd c19 q)
          refine r_iconst dX12_meets_165 ?_
          refine r_sub (lv2 := [(0, vR 55), (2, vI p2), (3, vI p3), (4, vI x4), (5, vI p5), (6, vI x6), (9, vI ((irm (gI M 72 (wr p5)) 10) + ((irm x6 3) - 1))), (10, vI ((idv (gI M 72 (wr p5)) 10) + ((idv x6 3) - 1)))]) [4, 5, 6, 7, 8, 9, 1, 0] rfl ?_
          cases h
          exact kJ
        · rw [if_neg c19] at h
          refine r_if_eq (tgt := 165) dX12_meets_144 (by decide) (fun q => absurd q c19) (fun _ => ?_)
          refine r_iload_n dX12_meets_147 rfl 5 rfl ?_
          by_cases c20 : wr p2 = 0
          · rw [if_pos c20] at h
            refine r_if_ne (tgt := 161) dX12_meets_148 (by decide) (fun q => absurd c20 q) (fun _ => ?_)
            refine r_iload dX12_meets_151 3 rfl ?_
            by_cases c21 : wr ((irm x6 3) - 1) = 0
            · rw [if_pos c21] at h
              refine r_if_eq (tgt := 161) dX12_meets_153 (by decide) (fun _ => ?_) (fun q => absurd c21 q)
              refine r_iconst dX12_meets_161 ?_
              refine r_goto (tgt := 166) dX12_meets_162 (by decide) ?_
              refine r_sub (lv2 := [(0, vR 55), (2, vI p2), (3, vI p3), (4, vI x4), (5, vI p5), (6, vI x6), (9, vI ((irm (gI M 72 (wr p5)) 10) + ((irm x6 3) - 1))), (10, vI ((idv (gI M 72 (wr p5)) 10) + ((idv x6 3) - 1)))]) [4, 5, 6, 7, 8, 9, 1, 0] rfl ?_
              cases h
              exact kJ
            · rw [if_neg c21] at h
              refine r_if_eq (tgt := 161) dX12_meets_153 (by decide) (fun q => absurd q c21) (fun _ => ?_)
              refine r_iload dX12_meets_156 2 rfl ?_
              by_cases c22 : wr ((idv x6 3) - 1) = 0
              · rw [if_pos c22] at h
                refine r_if_ne (tgt := 165) dX12_meets_158 (by decide) (fun q => absurd c22 q) (fun _ => ?_)
                refine r_iconst dX12_meets_161 ?_
                refine r_goto (tgt := 166) dX12_meets_162 (by decide) ?_
                refine r_sub (lv2 := [(0, vR 55), (2, vI p2), (3, vI p3), (4, vI x4), (5, vI p5), (6, vI x6), (9, vI ((irm (gI M 72 (wr p5)) 10) + ((irm x6 3) - 1))), (10, vI ((idv (gI M 72 (wr p5)) 10) + ((idv x6 3) - 1)))]) [4, 5, 6, 7, 8, 9, 1, 0] rfl ?_
                cases h
                exact kJ
              · rw [if_neg c22] at h
                refine r_if_ne (tgt := 165) dX12_meets_158 (by decide) (fun _ => ?_) (fun q => absurd q c22)
                refine r_iconst dX12_meets_165 ?_
                refine r_sub (lv2 := [(0, vR 55), (2, vI p2), (3, vI p3), (4, vI x4), (5, vI p5), (6, vI x6), (9, vI ((irm (gI M 72 (wr p5)) 10) + ((irm x6 3) - 1))), (10, vI ((idv (gI M 72 (wr p5)) 10) + ((idv x6 3) - 1)))]) [4, 5, 6, 7, 8, 9, 1, 0] rfl ?_
                cases h
                exact kJ
          · rw [if_neg c20] at h
            refine r_if_ne (tgt := 161) dX12_meets_148 (by decide) (fun _ => ?_) (fun q => absurd q c20)
            refine r_iconst dX12_meets_161 ?_
            refine r_goto (tgt := 166) dX12_meets_162 (by decide) ?_
            refine r_sub (lv2 := [(0, vR 55), (2, vI p2), (3, vI p3), (4, vI x4), (5, vI p5), (6, vI x6), (9, vI ((irm (gI M 72 (wr p5)) 10) + ((irm x6 3) - 1))), (10, vI ((idv (gI M 72 (wr p5)) 10) + ((idv x6 3) - 1)))]) [4, 5, 6, 7, 8, 9, 1, 0] rfl ?_
            cases h
            exact kJ

set_option maxRecDepth 10000 in
theorem lp_X12_meets_L50 {G : Gx} (p2 : Int) (p3 : Int)   (X : (Int × Int × Mem) → Prop) (hX1 : ∀ (x4 : Int) (x5 : Int) (M : Mem), X (x4, x5, M) → Ex G 3 cX12_meets RX12 12 249 [(0, vR 55), (2, vI p2), (3, vI p3), (4, vI x4), (5, vI x5)] [] M) : ∀ (nn : Nat) (x4 : Int) (x5 : Int) (M : Mem) (out : Int × Int × Mem), itr (fun s => m_X12_meets_L50 s.2.2 p2 p3 s.1 s.2.1) nn (x4, x5, M) = some out → X out → Ex G 3 cX12_meets RX12 12 50 [(0, vR 55), (2, vI p2), (3, vI p3), (4, vI x4), (5, vI x5)] [] M := by
  intro nn
  induction nn with
  | zero =>
    intro x4 x5 M out h _
    cases h
  | succ nn ih =>
    intro x4 x5 M out h0 hX
    obtain ⟨w, h, k1, k2⟩ := itr_inv h0
    have h : m_X12_meets_L50 M p2 p3 x4 x5 = some w := h
    unfold m_X12_meets_L50 at h
    refine r_iload dX12_meets_50 4 rfl ?_
    refine r_iload dX12_meets_52 3 rfl ?_
    by_cases c11 : wr x4 ≤ wr x5
    · rw [if_pos c11] at h
      refine r_icmp_ge (tgt := 249) dX12_meets_54 (by decide) (fun _ => ?_) (fun q => absurd c11 q)
      cases h
      cases k2 _ rfl
      exact hX1 _ _ _ hX
    · rw [if_neg c11] at h
      refine r_icmp_ge (tgt := 249) dX12_meets_54 (by decide) (fun q => absurd q c11) (fun _ => ?_)
      refine r_iconst dX12_meets_57 ?_
      refine r_istore (lv2 := [(6, vI 0), (0, vR 55), (2, vI p2), (3, vI p3), (4, vI x4), (5, vI x5)]) dX12_meets_58 (by decide) rfl ?_
      obtain ⟨y35, y36, M37, h9, h⟩ := of_bd3 h
      refine r_sub (lv2 := [(0, vR 55), (2, vI p2), (3, vI p3), (4, vI x4), (5, vI x5), (6, vI 0)]) [1, 2, 3, 4, 5, 0] rfl ?_
      refine lp_X12_meets_L60 p2 p3 x5  (fun w => w = (y35, y36, M37)) ?_ FU x4 0 M _ h9 rfl
      intro z0 z1 z2 hw
      cases hw
      refine r_iinc (lv2 := [(5, vI (x5 + 1)), (0, vR 55), (2, vI p2), (3, vI p3), (4, vI y35), (6, vI y36)]) dX12_meets_243 4 rfl (by decide) rfl ?_
      refine r_goto (tgt := 50) dX12_meets_246 (by decide) ?_
      refine r_sub (lv2 := [(0, vR 55), (2, vI p2), (3, vI p3), (4, vI y35), (5, vI (x5 + 1))]) [1, 2, 3, 4, 0] rfl ?_
      cases h
      exact ih _ _ _  _ (k1 _ rfl) hX

set_option maxRecDepth 10000 in
theorem run_X12_meets {M : Mem} {M2 : Mem} {a1 : Int} {a2 : Int} {r : Int}   (h : m_X12_meets M a1 a2 = some (r, M2)) : RunI 3 yX12_meets cX12_meets 12 (some .int) [vR 55, vI a1, vI a2] M r M2 := by
  refine runI_of (lv := [(0, vR 55), (1, vI a1), (2, vI a2)]) (by decide +kernel) (Or.inl rfl) (Nat.le_of_ble_eq_true rfl) rfl ?_
  intro G hQ
  unfold m_X12_meets at h
  refine r_aload_n dX12_meets_0 rfl 0 rfl ?_
  refine r_iload_n dX12_meets_1 rfl 1 rfl ?_
  obtain ⟨b2, hc1, h⟩ := of_bd1 h
  refine r_callVI (st := []) dX12_meets_2 v_X12_228 (run_X12_isOpenFrame hc1) (by decide) (by decide) rfl rfl (Nat.le_of_ble_eq_true rfl) rfl ?_
  refine r_istore_n (lv2 := [(3, vI (bI b2)), (0, vR 55), (1, vI a1), (2, vI a2)]) dX12_meets_5 rfl (by decide) rfl ?_
  refine r_iconst dX12_meets_6 ?_
  refine r_istore (lv2 := [(4, vI 0), (3, vI (bI b2)), (0, vR 55), (1, vI a1), (2, vI a2)]) dX12_meets_7 (by decide) rfl ?_
  obtain ⟨y6, M7, h9, h⟩ := of_bd2 h
  refine r_sub (lv2 := [(0, vR 55), (1, vI a1), (2, vI a2), (3, vI (bI b2)), (4, vI 0)]) [2, 3, 4, 1, 0] rfl ?_
  refine lp_X12_meets_L9 a1 a2 (bI b2)  (fun w => w = (y6, M7)) ?_ FU 0 M _ h9 rfl
  intro z0 z1 hw
  cases hw
  refine r_aload_n dX12_meets_30 rfl 0 rfl ?_
  refine r_getR (j := 19) (v := 71) dX12_meets_31 f_X12_57 rfl rfl rfl ?_
  refine r_iload_n dX12_meets_34 rfl 1 rfl ?_
  refine r_iconst dX12_meets_35 ?_
  obtain ⟨c8, h⟩ := of_ck h
  obtain ⟨M9, eM9, h⟩ := of_lt h
  refine r_zast dX12_meets_36 rfl c8 (by decide) ?_
  rw [← eM9]
  refine r_aload_n dX12_meets_37 rfl 0 rfl ?_
  refine r_getR (j := 20) (v := 72) dX12_meets_38 f_X12_60 rfl rfl rfl ?_
  refine r_iconst dX12_meets_41 ?_
  refine r_iload_n dX12_meets_42 rfl 1 rfl ?_
  obtain ⟨M10, eM10, h⟩ := of_lt h
  refine r_iast dX12_meets_43 rfl (by decide) ?_
  rw [← eM10]
  refine r_iconst dX12_meets_44 ?_
  refine r_istore (lv2 := [(4, vI 1), (0, vR 55), (1, vI a1), (2, vI a2), (3, vI (bI b2))]) dX12_meets_45 (by decide) rfl ?_
  refine r_iconst dX12_meets_47 ?_
  refine r_istore (lv2 := [(5, vI 0), (4, vI 1), (0, vR 55), (1, vI a1), (2, vI a2), (3, vI (bI b2))]) dX12_meets_48 (by decide) rfl ?_
  obtain ⟨y38, y39, M40, h9, h⟩ := of_bd3 h
  refine r_sub (lv2 := [(0, vR 55), (2, vI a2), (3, vI (bI b2)), (4, vI 1), (5, vI 0)]) [2, 4, 5, 1, 0] rfl ?_
  refine lp_X12_meets_L50 a2 (bI b2)  (fun w => w = (y38, y39, M40)) ?_ FU 1 0 M10 _ h9 rfl
  intro z0 z1 z2 hw
  cases hw
  refine r_iload dX12_meets_249 3 rfl ?_
  cases h
  exact hQ _ _ dX12_meets_251

def m_X12_isWhole_L13 (M : Mem) (p1 : Int) (x2 : Int) : Option ((Int) ⊕ (Int)) :=
  if 0 ≤ wr x2 ∧ wr x2 < 64 then
  if wr (gI M 56 (wr x2)) = 0 then
    some (.inl ((x2 + 1)))
  else
    some (.inr (x2))
  else none
def m_X12_isWhole_L102 (M : Mem) (p4 : Int) (x3 : Int) (x5 : Int) : Option ((Int × Int) ⊕ (Int × Int)) :=
  if wr (gI M 55 0) ≤ wr x5 then
    some (.inr (x3, x5))
  else
    bd1 (m_X12_isOpenAt M (x5 - 1) (p4 - 1)) fun b21 =>
    bd1 (m_X12_isOpenAt M x5 (p4 - 1)) fun b23 =>
    bd1 (m_X12_isOpenAt M (x5 - 1) p4) fun b25 =>
    bd1 (m_X12_isOpenAt M x5 p4) fun b27 =>
    lt (if wr x3 = 0 then 0 else (if wr (bI b21) = 0 then (if wr (bI b23) = 0 then 1 else (if wr (bI b25) = 0 then 1 else (if wr (bI b21) = 0 then (if wr (bI b27) = 0 then 0 else 1) else 1))) else (if wr (bI b27) = 0 then (if wr (bI b23) = 0 then 1 else (if wr (bI b25) = 0 then 1 else (if wr (bI b21) = 0 then (if wr (bI b27) = 0 then 0 else 1) else 1))) else (if wr (bI b23) = 0 then (if wr (bI b25) = 0 then 0 else (if wr (bI b23) = 0 then 1 else (if wr (bI b25) = 0 then 1 else (if wr (bI b21) = 0 then (if wr (bI b27) = 0 then 0 else 1) else 1)))) else (if wr (bI b23) = 0 then 1 else (if wr (bI b25) = 0 then 1 else (if wr (bI b21) = 0 then (if wr (bI b27) = 0 then 0 else 1) else 1))))))) fun (v49 : Int) =>
    some (.inl (v49, (x5 + 1)))
def m_X12_isWhole_L90 (M : Mem)  (x3 : Int) (x4 : Int) : Option ((Int × Int) ⊕ (Int × Int)) :=
  if wr (gI M 55 1) ≤ wr x4 then
    some (.inr (x3, x4))
  else
    bd2 (itr (fun s => m_X12_isWhole_L102 M x4 s.1 s.2) FU (x3, 1)) fun y50 y51 =>
    some (.inl (y50, (x4 + 1)))
def m_X12_isWhole (M : Mem) : Option (Bool × Mem) :=
  bd1 (m_X12_openMany M) fun r2 =>
  if wr r2 = 0 then
    some (false, M)
  else
    bd1 (itr (fun s => m_X12_isWhole_L13 M r2 s) FU (0)) fun y6 =>
    if ¬ wr (gI M 55 0) = 0 then
    bd2 (m_X12_meets M (((10 * ((idv y6 (gI M 55 0)) + 1)) + (irm y6 (gI M 55 0))) + 1) 0) fun r9 M10 =>
    bd2 (
      if wr r9 = wr r2 then
        bd2 (m_X12_meets M10 0 1) fun r13 M14 =>
        if wr r13 = wr ((((gI M14 55 0) + 2) * ((gI M14 55 1) + 2)) - r2) then
          some (1, M14)
        else
          some (0, M14)
      else
        some (0, M10)) fun (v16 : Int) (M17 : Mem) =>
    bd2 (itr (fun s => m_X12_isWhole_L90 M17  s.1 s.2) FU (v16, 1)) fun y52 y53 =>
    if y52 = 0 ∨ y52 = 1 then some ((decide (y52 = 1)), M17) else none
    else none
set_option maxRecDepth 10000 in
theorem lp_X12_isWhole_L13 {G : Gx} (M : Mem) (p1 : Int)   (X : (Int) → Prop) (hX1 : ∀ (x2 : Int), X (x2) → Ex G 4 cX12_isWhole RX12 10 28 [(0, vR 55), (1, vI p1), (2, vI x2)] [] M) : ∀ (nn : Nat) (x2 : Int) (out : Int), itr (fun s => m_X12_isWhole_L13 M p1 s) nn (x2) = some out → X out → Ex G 4 cX12_isWhole RX12 10 13 [(0, vR 55), (1, vI p1), (2, vI x2)] [] M := by
  intro nn
  induction nn with
  | zero =>
    intro x2 out h _
    cases h
  | succ nn ih =>
    intro x2 out h0 hX
    obtain ⟨w, h, k1, k2⟩ := itr_inv h0
    have h : m_X12_isWhole_L13 M p1 x2 = some w := h
    unfold m_X12_isWhole_L13 at h
    refine r_aload_n dX12_isWhole_13 rfl 0 rfl ?_
    refine r_getR (j := 2) (v := 56) dX12_isWhole_14 f_X12_7 rfl rfl rfl ?_
    refine r_iload_n dX12_isWhole_17 rfl 2 rfl ?_
    obtain ⟨c4, h⟩ := of_ck h
    refine r_zald dX12_isWhole_18 rfl c4 ?_
    by_cases c5 : wr (gI M 56 (wr x2)) = 0
    · rw [if_pos c5] at h
      refine r_if_ne (tgt := 28) dX12_isWhole_19 (by decide) (fun q => absurd c5 q) (fun _ => ?_)
      refine r_iinc (lv2 := [(2, vI (x2 + 1)), (0, vR 55), (1, vI p1)]) dX12_isWhole_22 2 rfl (by decide) rfl ?_
      refine r_goto (tgt := 13) dX12_isWhole_25 (by decide) ?_
      refine r_sub (lv2 := [(0, vR 55), (1, vI p1), (2, vI (x2 + 1))]) [1, 2, 0] rfl ?_
      cases h
      exact ih _  _ (k1 _ rfl) hX
    · rw [if_neg c5] at h
      refine r_if_ne (tgt := 28) dX12_isWhole_19 (by decide) (fun _ => ?_) (fun q => absurd q c5)
      cases h
      cases k2 _ rfl
      exact hX1 _ hX

set_option maxRecDepth 10000 in
theorem lp_X12_isWhole_L102 {G : Gx} (M : Mem) (p4 : Int)   (X : (Int × Int) → Prop) (hX1 : ∀ (x3 : Int) (x5 : Int), X (x3, x5) → Ex G 4 cX12_isWhole RX12 10 215 [(0, vR 55), (3, vI x3), (4, vI p4), (5, vI x5)] [] M) : ∀ (nn : Nat) (x3 : Int) (x5 : Int) (out : Int × Int), itr (fun s => m_X12_isWhole_L102 M p4 s.1 s.2) nn (x3, x5) = some out → X out → Ex G 4 cX12_isWhole RX12 10 102 [(0, vR 55), (3, vI x3), (4, vI p4), (5, vI x5)] [] M := by
  intro nn
  induction nn with
  | zero =>
    intro x3 x5 out h _
    cases h
  | succ nn ih =>
    intro x3 x5 out h0 hX
    obtain ⟨w, h, k1, k2⟩ := itr_inv h0
    have h : m_X12_isWhole_L102 M p4 x3 x5 = some w := h
    unfold m_X12_isWhole_L102 at h
    refine r_iload dX12_isWhole_102 3 rfl ?_
    refine r_aload_n dX12_isWhole_104 rfl 0 rfl ?_
    refine r_getI (j := 0) (jz := 0) dX12_isWhole_105 f_X12_88 rfl rfl rfl ?_
    by_cases c19 : wr (gI M 55 0) ≤ wr x5
    · rw [if_pos c19] at h
      refine r_icmp_ge (tgt := 215) dX12_isWhole_108 (by decide) (fun _ => ?_) (fun q => absurd c19 q)
      cases h
      cases k2 _ rfl
      exact hX1 _ _ hX
    · rw [if_neg c19] at h
      refine r_icmp_ge (tgt := 215) dX12_isWhole_108 (by decide) (fun q => absurd q c19) (fun _ => ?_)
      refine r_aload_n dX12_isWhole_111 rfl 0 rfl ?_
      refine r_iload dX12_isWhole_112 3 rfl ?_
      refine r_iconst dX12_isWhole_114 ?_
      refine r_isub dX12_isWhole_115 ?_
      refine r_iload dX12_isWhole_116 2 rfl ?_
      refine r_iconst dX12_isWhole_118 ?_
      refine r_isub dX12_isWhole_119 ?_
      obtain ⟨b21, hc20, h⟩ := of_bd1 h
      refine r_callVI (st := []) dX12_isWhole_120 v_X12_210 (run_X12_isOpenAt hc20) (by decide) (by decide) rfl rfl (Nat.le_of_ble_eq_true rfl) rfl ?_
      refine r_istore (lv2 := [(6, vI (bI b21)), (0, vR 55), (3, vI x3), (4, vI p4), (5, vI x5)]) dX12_isWhole_123 (by decide) rfl ?_
      refine r_aload_n dX12_isWhole_125 rfl 1 rfl ?_
      refine r_iload dX12_isWhole_126 4 rfl ?_
      refine r_iload dX12_isWhole_128 3 rfl ?_
      refine r_iconst dX12_isWhole_130 ?_
      refine r_isub dX12_isWhole_131 ?_
      obtain ⟨b23, hc22, h⟩ := of_bd1 h
      refine r_callVI (st := []) dX12_isWhole_132 v_X12_210 (run_X12_isOpenAt hc22) (by decide) (by decide) rfl rfl (Nat.le_of_ble_eq_true rfl) rfl ?_
      refine r_istore (lv2 := [(7, vI (bI b23)), (6, vI (bI b21)), (0, vR 55), (3, vI x3), (4, vI p4), (5, vI x5)]) dX12_isWhole_135 (by decide) rfl ?_
      refine r_aload_n dX12_isWhole_137 rfl 2 rfl ?_
      refine r_iload dX12_isWhole_138 5 rfl ?_
      refine r_iconst dX12_isWhole_140 ?_
      refine r_isub dX12_isWhole_141 ?_
      refine r_iload dX12_isWhole_142 4 rfl ?_
      obtain ⟨b25, hc24, h⟩ := of_bd1 h
      refine r_callVI (st := []) dX12_isWhole_144 v_X12_210 (run_X12_isOpenAt hc24) (by decide) (by decide) rfl rfl (Nat.le_of_ble_eq_true rfl) rfl ?_
      refine r_istore (lv2 := [(8, vI (bI b25)), (7, vI (bI b23)), (6, vI (bI b21)), (0, vR 55), (3, vI x3), (4, vI p4), (5, vI x5)]) dX12_isWhole_147 (by decide) rfl ?_
      refine r_aload_n dX12_isWhole_149 rfl 3 rfl ?_
      refine r_iload dX12_isWhole_150 6 rfl ?_
      refine r_iload dX12_isWhole_152 5 rfl ?_
      obtain ⟨b27, hc26, h⟩ := of_bd1 h
      refine r_callVI (st := []) dX12_isWhole_154 v_X12_210 (run_X12_isOpenAt hc26) (by decide) (by decide) rfl rfl (Nat.le_of_ble_eq_true rfl) rfl ?_
      refine r_istore (lv2 := [(9, vI (bI b27)), (8, vI (bI b25)), (7, vI (bI b23)), (6, vI (bI b21)), (0, vR 55), (3, vI x3), (4, vI p4), (5, vI x5)]) dX12_isWhole_157 (by decide) rfl ?_
      refine r_iload_n dX12_isWhole_159 rfl 5 rfl ?_
      obtain ⟨v49, ev49, h⟩ := of_lt h
      have kJ : Ex G 4 cX12_isWhole RX12 10 208 [(0, vR 55), (4, vI p4), (5, vI x5)] [vI v49] M := by
        refine r_istore_n (lv2 := [(3, vI v49), (0, vR 55), (4, vI p4), (5, vI x5)]) dX12_isWhole_208 rfl (by decide) rfl ?_
        refine r_iinc (lv2 := [(5, vI (x5 + 1)), (3, vI v49), (0, vR 55), (4, vI p4)]) dX12_isWhole_209 3 rfl (by decide) rfl ?_
        refine r_goto (tgt := 102) dX12_isWhole_212 (by decide) ?_
        refine r_sub (lv2 := [(0, vR 55), (3, vI v49), (4, vI p4), (5, vI (x5 + 1))]) [2, 1, 3, 0] rfl ?_
        cases h
        exact ih _ _  _ (k1 _ rfl) hX
      clear h
      by_cases c28 : wr x3 = 0
      · skip
        refine r_if_eq (tgt := 207) dX12_isWhole_160 (by decide) (fun _ => ?_) (fun q => absurd c28 q)
        refine r_iconst dX12_isWhole_207 ?_
        rw [show v49 = 0 from by rw [ev49, if_pos c28]] at kJ
        refine r_sub (lv2 := [(0, vR 55), (4, vI p4), (5, vI x5)]) [4, 6, 7] rfl ?_
        exact kJ
      · skip
        refine r_if_eq (tgt := 207) dX12_isWhole_160 (by decide) (fun q => absurd q c28) (fun _ => ?_)
        refine r_iload dX12_isWhole_163 3 rfl ?_
        by_cases c29 : wr (bI b21) = 0
        · skip
          refine r_if_eq (tgt := 183) dX12_isWhole_165 (by decide) (fun _ => ?_) (fun q => absurd c29 q)
          refine r_iload dX12_isWhole_183 2 rfl ?_
          by_cases c30 : wr (bI b23) = 0
          · skip
            refine r_if_eq (tgt := 203) dX12_isWhole_185 (by decide) (fun _ => ?_) (fun q => absurd c30 q)
            refine r_iconst dX12_isWhole_203 ?_
            refine r_goto (tgt := 208) dX12_isWhole_204 (by decide) ?_
            rw [show v49 = 1 from by rw [ev49, if_neg c28, if_pos c29, if_pos c30]] at kJ
            refine r_sub (lv2 := [(0, vR 55), (4, vI p4), (5, vI x5)]) [4, 6, 7] rfl ?_
            exact kJ
          · skip
            refine r_if_eq (tgt := 203) dX12_isWhole_185 (by decide) (fun q => absurd q c30) (fun _ => ?_)
            refine r_iload dX12_isWhole_188 1 rfl ?_
            by_cases c31 : wr (bI b25) = 0
            · skip
              refine r_if_eq (tgt := 203) dX12_isWhole_190 (by decide) (fun _ => ?_) (fun q => absurd c31 q)
              refine r_iconst dX12_isWhole_203 ?_
              refine r_goto (tgt := 208) dX12_isWhole_204 (by decide) ?_
              rw [show v49 = 1 from by rw [ev49, if_neg c28, if_pos c29, if_neg c30, if_pos c31]] at kJ
              refine r_sub (lv2 := [(0, vR 55), (4, vI p4), (5, vI x5)]) [4, 6, 7] rfl ?_
              exact kJ
            · skip
              refine r_if_eq (tgt := 203) dX12_isWhole_190 (by decide) (fun q => absurd q c31) (fun _ => ?_)
              refine r_iload dX12_isWhole_193 3 rfl ?_
              by_cases c32 : wr (bI b21) = 0
              · skip
                refine r_if_ne (tgt := 203) dX12_isWhole_195 (by decide) (fun q => absurd c32 q) (fun _ => ?_)
                refine r_iload dX12_isWhole_198 0 rfl ?_
                by_cases c33 : wr (bI b27) = 0
                · skip
                  refine r_if_eq (tgt := 207) dX12_isWhole_200 (by decide) (fun _ => ?_) (fun q => absurd c33 q)
                  refine r_iconst dX12_isWhole_207 ?_
                  rw [show v49 = 0 from by rw [ev49, if_neg c28, if_pos c29, if_neg c30, if_neg c31, if_pos c32, if_pos c33]] at kJ
                  refine r_sub (lv2 := [(0, vR 55), (4, vI p4), (5, vI x5)]) [4, 6, 7] rfl ?_
                  exact kJ
                · skip
                  refine r_if_eq (tgt := 207) dX12_isWhole_200 (by decide) (fun q => absurd q c33) (fun _ => ?_)
                  refine r_iconst dX12_isWhole_203 ?_
                  refine r_goto (tgt := 208) dX12_isWhole_204 (by decide) ?_
                  rw [show v49 = 1 from by rw [ev49, if_neg c28, if_pos c29, if_neg c30, if_neg c31, if_pos c32, if_neg c33]] at kJ
                  refine r_sub (lv2 := [(0, vR 55), (4, vI p4), (5, vI x5)]) [4, 6, 7] rfl ?_
                  exact kJ
              · skip
                refine r_if_ne (tgt := 203) dX12_isWhole_195 (by decide) (fun _ => ?_) (fun q => absurd q c32)
                refine r_iconst dX12_isWhole_203 ?_
                refine r_goto (tgt := 208) dX12_isWhole_204 (by decide) ?_
                rw [show v49 = 1 from by rw [ev49, if_neg c28, if_pos c29, if_neg c30, if_neg c31, if_neg c32]] at kJ
                refine r_sub (lv2 := [(0, vR 55), (4, vI p4), (5, vI x5)]) [4, 6, 7] rfl ?_
                exact kJ
        · skip
          refine r_if_eq (tgt := 183) dX12_isWhole_165 (by decide) (fun q => absurd q c29) (fun _ => ?_)
          refine r_iload dX12_isWhole_168 0 rfl ?_
          by_cases c34 : wr (bI b27) = 0
          · skip
            refine r_if_eq (tgt := 183) dX12_isWhole_170 (by decide) (fun _ => ?_) (fun q => absurd c34 q)
            refine r_iload dX12_isWhole_183 2 rfl ?_
            by_cases c35 : wr (bI b23) = 0
            · skip
              refine r_if_eq (tgt := 203) dX12_isWhole_185 (by decide) (fun _ => ?_) (fun q => absurd c35 q)
              refine r_iconst dX12_isWhole_203 ?_
              refine r_goto (tgt := 208) dX12_isWhole_204 (by decide) ?_
              rw [show v49 = 1 from by rw [ev49, if_neg c28, if_neg c29, if_pos c34, if_pos c35]] at kJ
              refine r_sub (lv2 := [(0, vR 55), (4, vI p4), (5, vI x5)]) [4, 6, 7] rfl ?_
              exact kJ
            · skip
              refine r_if_eq (tgt := 203) dX12_isWhole_185 (by decide) (fun q => absurd q c35) (fun _ => ?_)
              refine r_iload dX12_isWhole_188 1 rfl ?_
              by_cases c36 : wr (bI b25) = 0
              · skip
                refine r_if_eq (tgt := 203) dX12_isWhole_190 (by decide) (fun _ => ?_) (fun q => absurd c36 q)
                refine r_iconst dX12_isWhole_203 ?_
                refine r_goto (tgt := 208) dX12_isWhole_204 (by decide) ?_
                rw [show v49 = 1 from by rw [ev49, if_neg c28, if_neg c29, if_pos c34, if_neg c35, if_pos c36]] at kJ
                refine r_sub (lv2 := [(0, vR 55), (4, vI p4), (5, vI x5)]) [4, 6, 7] rfl ?_
                exact kJ
              · skip
                refine r_if_eq (tgt := 203) dX12_isWhole_190 (by decide) (fun q => absurd q c36) (fun _ => ?_)
                refine r_iload dX12_isWhole_193 3 rfl ?_
                by_cases c37 : wr (bI b21) = 0
                · skip
                  refine r_if_ne (tgt := 203) dX12_isWhole_195 (by decide) (fun q => absurd c37 q) (fun _ => ?_)
                  refine r_iload dX12_isWhole_198 0 rfl ?_
                  by_cases c38 : wr (bI b27) = 0
                  · skip
                    refine r_if_eq (tgt := 207) dX12_isWhole_200 (by decide) (fun _ => ?_) (fun q => absurd c38 q)
                    refine r_iconst dX12_isWhole_207 ?_
                    rw [show v49 = 0 from by rw [ev49, if_neg c28, if_neg c29, if_pos c34, if_neg c35, if_neg c36, if_pos c37, if_pos c38]] at kJ
                    refine r_sub (lv2 := [(0, vR 55), (4, vI p4), (5, vI x5)]) [4, 6, 7] rfl ?_
                    exact kJ
                  · skip
                    refine r_if_eq (tgt := 207) dX12_isWhole_200 (by decide) (fun q => absurd q c38) (fun _ => ?_)
                    refine r_iconst dX12_isWhole_203 ?_
                    refine r_goto (tgt := 208) dX12_isWhole_204 (by decide) ?_
                    rw [show v49 = 1 from by rw [ev49, if_neg c28, if_neg c29, if_pos c34, if_neg c35, if_neg c36, if_pos c37, if_neg c38]] at kJ
                    refine r_sub (lv2 := [(0, vR 55), (4, vI p4), (5, vI x5)]) [4, 6, 7] rfl ?_
                    exact kJ
                · skip
                  refine r_if_ne (tgt := 203) dX12_isWhole_195 (by decide) (fun _ => ?_) (fun q => absurd q c37)
                  refine r_iconst dX12_isWhole_203 ?_
                  refine r_goto (tgt := 208) dX12_isWhole_204 (by decide) ?_
                  rw [show v49 = 1 from by rw [ev49, if_neg c28, if_neg c29, if_pos c34, if_neg c35, if_neg c36, if_neg c37]] at kJ
                  refine r_sub (lv2 := [(0, vR 55), (4, vI p4), (5, vI x5)]) [4, 6, 7] rfl ?_
                  exact kJ
          · skip
            refine r_if_eq (tgt := 183) dX12_isWhole_170 (by decide) (fun q => absurd q c34) (fun _ => ?_)
            refine r_iload dX12_isWhole_173 2 rfl ?_
            by_cases c39 : wr (bI b23) = 0
            · skip
              refine r_if_ne (tgt := 183) dX12_isWhole_175 (by decide) (fun q => absurd c39 q) (fun _ => ?_)
              refine r_iload dX12_isWhole_178 1 rfl ?_
              by_cases c44 : wr (bI b25) = 0
              · skip
                refine r_if_eq (tgt := 207) dX12_isWhole_180 (by decide) (fun _ => ?_) (fun q => absurd c44 q)
                refine r_iconst dX12_isWhole_207 ?_
                rw [show v49 = 0 from by rw [ev49, if_neg c28, if_neg c29, if_neg c34, if_pos c39, if_pos c44]] at kJ
                refine r_sub (lv2 := [(0, vR 55), (4, vI p4), (5, vI x5)]) [4, 6, 7] rfl ?_
                exact kJ
              · skip
                refine r_if_eq (tgt := 207) dX12_isWhole_180 (by decide) (fun q => absurd q c44) (fun _ => ?_)
                refine r_iload dX12_isWhole_183 2 rfl ?_
                by_cases c45 : wr (bI b23) = 0
                · skip
                  refine r_if_eq (tgt := 203) dX12_isWhole_185 (by decide) (fun _ => ?_) (fun q => absurd c45 q)
                  refine r_iconst dX12_isWhole_203 ?_
                  refine r_goto (tgt := 208) dX12_isWhole_204 (by decide) ?_
                  rw [show v49 = 1 from by rw [ev49, if_neg c28, if_neg c29, if_neg c34, if_pos c39, if_neg c44, if_pos c45]] at kJ
                  refine r_sub (lv2 := [(0, vR 55), (4, vI p4), (5, vI x5)]) [4, 6, 7] rfl ?_
                  exact kJ
                · skip
                  refine r_if_eq (tgt := 203) dX12_isWhole_185 (by decide) (fun q => absurd q c45) (fun _ => ?_)
                  refine r_iload dX12_isWhole_188 1 rfl ?_
                  by_cases c46 : wr (bI b25) = 0
                  · skip
                    refine r_if_eq (tgt := 203) dX12_isWhole_190 (by decide) (fun _ => ?_) (fun q => absurd c46 q)
                    refine r_iconst dX12_isWhole_203 ?_
                    refine r_goto (tgt := 208) dX12_isWhole_204 (by decide) ?_
                    rw [show v49 = 1 from by rw [ev49, if_neg c28, if_neg c29, if_neg c34, if_pos c39, if_neg c44, if_neg c45, if_pos c46]] at kJ
                    refine r_sub (lv2 := [(0, vR 55), (4, vI p4), (5, vI x5)]) [4, 6, 7] rfl ?_
                    exact kJ
                  · skip
                    refine r_if_eq (tgt := 203) dX12_isWhole_190 (by decide) (fun q => absurd q c46) (fun _ => ?_)
                    refine r_iload dX12_isWhole_193 3 rfl ?_
                    by_cases c47 : wr (bI b21) = 0
                    · skip
                      refine r_if_ne (tgt := 203) dX12_isWhole_195 (by decide) (fun q => absurd c47 q) (fun _ => ?_)
                      refine r_iload dX12_isWhole_198 0 rfl ?_
                      by_cases c48 : wr (bI b27) = 0
                      · skip
                        refine r_if_eq (tgt := 207) dX12_isWhole_200 (by decide) (fun _ => ?_) (fun q => absurd c48 q)
                        refine r_iconst dX12_isWhole_207 ?_
                        rw [show v49 = 0 from by rw [ev49, if_neg c28, if_neg c29, if_neg c34, if_pos c39, if_neg c44, if_neg c45, if_neg c46, if_pos c47, if_pos c48]] at kJ
                        refine r_sub (lv2 := [(0, vR 55), (4, vI p4), (5, vI x5)]) [4, 6, 7] rfl ?_
                        exact kJ
                      · skip
                        refine r_if_eq (tgt := 207) dX12_isWhole_200 (by decide) (fun q => absurd q c48) (fun _ => ?_)
                        refine r_iconst dX12_isWhole_203 ?_
                        refine r_goto (tgt := 208) dX12_isWhole_204 (by decide) ?_
                        rw [show v49 = 1 from by rw [ev49, if_neg c28, if_neg c29, if_neg c34, if_pos c39, if_neg c44, if_neg c45, if_neg c46, if_pos c47, if_neg c48]] at kJ
                        refine r_sub (lv2 := [(0, vR 55), (4, vI p4), (5, vI x5)]) [4, 6, 7] rfl ?_
                        exact kJ
                    · skip
                      refine r_if_ne (tgt := 203) dX12_isWhole_195 (by decide) (fun _ => ?_) (fun q => absurd q c47)
                      refine r_iconst dX12_isWhole_203 ?_
                      refine r_goto (tgt := 208) dX12_isWhole_204 (by decide) ?_
                      rw [show v49 = 1 from by rw [ev49, if_neg c28, if_neg c29, if_neg c34, if_pos c39, if_neg c44, if_neg c45, if_neg c46, if_neg c47]] at kJ
                      refine r_sub (lv2 := [(0, vR 55), (4, vI p4), (5, vI x5)]) [4, 6, 7] rfl ?_
                      exact kJ
            · skip
              refine r_if_ne (tgt := 183) dX12_isWhole_175 (by decide) (fun _ => ?_) (fun q => absurd q c39)
              refine r_iload dX12_isWhole_183 2 rfl ?_
              by_cases c40 : wr (bI b23) = 0
              · skip
                refine r_if_eq (tgt := 203) dX12_isWhole_185 (by decide) (fun _ => ?_) (fun q => absurd c40 q)
                refine r_iconst dX12_isWhole_203 ?_
                refine r_goto (tgt := 208) dX12_isWhole_204 (by decide) ?_
                rw [show v49 = 1 from by rw [ev49, if_neg c28, if_neg c29, if_neg c34, if_neg c39, if_pos c40]] at kJ
                refine r_sub (lv2 := [(0, vR 55), (4, vI p4), (5, vI x5)]) [4, 6, 7] rfl ?_
                exact kJ
              · skip
                refine r_if_eq (tgt := 203) dX12_isWhole_185 (by decide) (fun q => absurd q c40) (fun _ => ?_)
                refine r_iload dX12_isWhole_188 1 rfl ?_
                by_cases c41 : wr (bI b25) = 0
                · skip
                  refine r_if_eq (tgt := 203) dX12_isWhole_190 (by decide) (fun _ => ?_) (fun q => absurd c41 q)
                  refine r_iconst dX12_isWhole_203 ?_
                  refine r_goto (tgt := 208) dX12_isWhole_204 (by decide) ?_
                  rw [show v49 = 1 from by rw [ev49, if_neg c28, if_neg c29, if_neg c34, if_neg c39, if_neg c40, if_pos c41]] at kJ
                  refine r_sub (lv2 := [(0, vR 55), (4, vI p4), (5, vI x5)]) [4, 6, 7] rfl ?_
                  exact kJ
                · skip
                  refine r_if_eq (tgt := 203) dX12_isWhole_190 (by decide) (fun q => absurd q c41) (fun _ => ?_)
                  refine r_iload dX12_isWhole_193 3 rfl ?_
                  by_cases c42 : wr (bI b21) = 0
                  · skip
                    refine r_if_ne (tgt := 203) dX12_isWhole_195 (by decide) (fun q => absurd c42 q) (fun _ => ?_)
                    refine r_iload dX12_isWhole_198 0 rfl ?_
                    by_cases c43 : wr (bI b27) = 0
                    · skip
                      refine r_if_eq (tgt := 207) dX12_isWhole_200 (by decide) (fun _ => ?_) (fun q => absurd c43 q)
                      refine r_iconst dX12_isWhole_207 ?_
                      rw [show v49 = 0 from by rw [ev49, if_neg c28, if_neg c29, if_neg c34, if_neg c39, if_neg c40, if_neg c41, if_pos c42, if_pos c43]] at kJ
                      refine r_sub (lv2 := [(0, vR 55), (4, vI p4), (5, vI x5)]) [4, 6, 7] rfl ?_
                      exact kJ
                    · skip
                      refine r_if_eq (tgt := 207) dX12_isWhole_200 (by decide) (fun q => absurd q c43) (fun _ => ?_)
                      refine r_iconst dX12_isWhole_203 ?_
                      refine r_goto (tgt := 208) dX12_isWhole_204 (by decide) ?_
                      rw [show v49 = 1 from by rw [ev49, if_neg c28, if_neg c29, if_neg c34, if_neg c39, if_neg c40, if_neg c41, if_pos c42, if_neg c43]] at kJ
                      refine r_sub (lv2 := [(0, vR 55), (4, vI p4), (5, vI x5)]) [4, 6, 7] rfl ?_
                      exact kJ
                  · skip
                    refine r_if_ne (tgt := 203) dX12_isWhole_195 (by decide) (fun _ => ?_) (fun q => absurd q c42)
                    refine r_iconst dX12_isWhole_203 ?_
                    refine r_goto (tgt := 208) dX12_isWhole_204 (by decide) ?_
                    rw [show v49 = 1 from by rw [ev49, if_neg c28, if_neg c29, if_neg c34, if_neg c39, if_neg c40, if_neg c41, if_neg c42]] at kJ
                    refine r_sub (lv2 := [(0, vR 55), (4, vI p4), (5, vI x5)]) [4, 6, 7] rfl ?_
                    exact kJ

set_option maxRecDepth 10000 in
theorem lp_X12_isWhole_L90 {G : Gx} (M : Mem)    (X : (Int × Int) → Prop) (hX1 : ∀ (x3 : Int) (x4 : Int), X (x3, x4) → Ex G 4 cX12_isWhole RX12 10 221 [(0, vR 55), (3, vI x3), (4, vI x4)] [] M) : ∀ (nn : Nat) (x3 : Int) (x4 : Int) (out : Int × Int), itr (fun s => m_X12_isWhole_L90 M  s.1 s.2) nn (x3, x4) = some out → X out → Ex G 4 cX12_isWhole RX12 10 90 [(0, vR 55), (3, vI x3), (4, vI x4)] [] M := by
  intro nn
  induction nn with
  | zero =>
    intro x3 x4 out h _
    cases h
  | succ nn ih =>
    intro x3 x4 out h0 hX
    obtain ⟨w, h, k1, k2⟩ := itr_inv h0
    have h : m_X12_isWhole_L90 M  x3 x4 = some w := h
    unfold m_X12_isWhole_L90 at h
    refine r_iload dX12_isWhole_90 2 rfl ?_
    refine r_aload_n dX12_isWhole_92 rfl 0 rfl ?_
    refine r_getI (j := 1) (jz := 1) dX12_isWhole_93 f_X12_92 rfl rfl rfl ?_
    by_cases c18 : wr (gI M 55 1) ≤ wr x4
    · rw [if_pos c18] at h
      refine r_icmp_ge (tgt := 221) dX12_isWhole_96 (by decide) (fun _ => ?_) (fun q => absurd c18 q)
      cases h
      cases k2 _ rfl
      exact hX1 _ _ hX
    · rw [if_neg c18] at h
      refine r_icmp_ge (tgt := 221) dX12_isWhole_96 (by decide) (fun q => absurd q c18) (fun _ => ?_)
      refine r_iconst dX12_isWhole_99 ?_
      refine r_istore (lv2 := [(5, vI 1), (0, vR 55), (3, vI x3), (4, vI x4)]) dX12_isWhole_100 (by decide) rfl ?_
      obtain ⟨y50, y51, h9, h⟩ := of_bd2 h
      refine r_sub (lv2 := [(0, vR 55), (3, vI x3), (4, vI x4), (5, vI 1)]) [1, 2, 3, 0] rfl ?_
      refine lp_X12_isWhole_L102 M x4  (fun w => w = (y50, y51)) ?_ FU x3 1 _ h9 rfl
      intro z0 z1 hw
      cases hw
      refine r_iinc (lv2 := [(4, vI (x4 + 1)), (0, vR 55), (3, vI y50), (5, vI y51)]) dX12_isWhole_215 2 rfl (by decide) rfl ?_
      refine r_goto (tgt := 90) dX12_isWhole_218 (by decide) ?_
      refine r_sub (lv2 := [(0, vR 55), (3, vI y50), (4, vI (x4 + 1))]) [1, 2, 0] rfl ?_
      cases h
      exact ih _ _  _ (k1 _ rfl) hX

set_option maxRecDepth 10000 in
theorem run_X12_isWhole {M : Mem} {M2 : Mem} {r : Bool}   (h : m_X12_isWhole M = some (r, M2)) : RunI 4 yX12_isWhole cX12_isWhole 10 (some .boolean) [vR 55] M (bI r) M2 := by
  refine runI_of (lv := [(0, vR 55)]) (by decide +kernel) (Or.inr ⟨rfl, bI_01 r⟩) (Nat.le_of_ble_eq_true rfl) rfl ?_
  intro G hQ
  unfold m_X12_isWhole at h
  refine r_aload_n dX12_isWhole_0 rfl 0 rfl ?_
  obtain ⟨r2, hc1, h⟩ := of_bd1 h
  refine r_callVI (st := []) dX12_isWhole_1 v_X12_140 (run_X12_openMany hc1) (by decide) (by decide) rfl rfl (Nat.le_of_ble_eq_true rfl) rfl ?_
  refine r_istore_n (lv2 := [(1, vI r2), (0, vR 55)]) dX12_isWhole_4 rfl (by decide) rfl ?_
  refine r_iload_n dX12_isWhole_5 rfl 0 rfl ?_
  by_cases c3 : wr r2 = 0
  · rw [if_pos c3] at h
    refine r_if_ne (tgt := 11) dX12_isWhole_6 (by decide) (fun q => absurd c3 q) (fun _ => ?_)
    refine r_iconst dX12_isWhole_9 ?_
    cases h
    exact hQ _ _ dX12_isWhole_10
  · rw [if_neg c3] at h
    refine r_if_ne (tgt := 11) dX12_isWhole_6 (by decide) (fun _ => ?_) (fun q => absurd q c3)
    refine r_iconst dX12_isWhole_11 ?_
    refine r_istore_n (lv2 := [(2, vI 0), (1, vI r2), (0, vR 55)]) dX12_isWhole_12 rfl (by decide) rfl ?_
    obtain ⟨y6, h9, h⟩ := of_bd1 h
    refine r_sub (lv2 := [(0, vR 55), (1, vI r2), (2, vI 0)]) [2, 1, 0] rfl ?_
    refine lp_X12_isWhole_L13 M r2  (fun w => w = (y6)) ?_ FU 0 _ h9 rfl
    intro z0 hw
    cases hw
    refine r_aload_n dX12_isWhole_28 rfl 0 rfl ?_
    refine r_bipush dX12_isWhole_29 (by decide) ?_
    refine r_iload_n dX12_isWhole_31 rfl 2 rfl ?_
    refine r_aload_n dX12_isWhole_32 rfl 0 rfl ?_
    refine r_getI (j := 0) (jz := 0) dX12_isWhole_33 f_X12_88 rfl rfl rfl ?_
    obtain ⟨c7, h⟩ := of_ck h
    refine r_idiv dX12_isWhole_36 c7 ?_
    refine r_iconst dX12_isWhole_37 ?_
    refine r_iadd dX12_isWhole_38 ?_
    refine r_imul dX12_isWhole_39 ?_
    refine r_iload_n dX12_isWhole_40 rfl 2 rfl ?_
    refine r_aload_n dX12_isWhole_41 rfl 0 rfl ?_
    refine r_getI (j := 0) (jz := 0) dX12_isWhole_42 f_X12_88 rfl rfl rfl ?_
    refine r_irem dX12_isWhole_45 c7 ?_
    refine r_iadd dX12_isWhole_46 ?_
    refine r_iconst dX12_isWhole_47 ?_
    refine r_iadd dX12_isWhole_48 ?_
    refine r_iconst dX12_isWhole_49 ?_
    obtain ⟨r9, M10, hc8, h⟩ := of_bd2 h
    refine r_callVI (st := []) dX12_isWhole_50 v_X12_231 (run_X12_meets hc8) (by decide) (by decide) rfl rfl (Nat.le_of_ble_eq_true rfl) rfl ?_
    refine r_iload_n dX12_isWhole_53 rfl 1 rfl ?_
    obtain ⟨v16, M17, h9, h⟩ := of_bd2 h
    have kJ : Ex G 4 cX12_isWhole RX12 10 86 [(0, vR 55)] [vI v16] M17 := by
      refine r_istore_n (lv2 := [(3, vI v16), (0, vR 55)]) dX12_isWhole_86 rfl (by decide) rfl ?_
      refine r_iconst dX12_isWhole_87 ?_
      refine r_istore (lv2 := [(4, vI 1), (3, vI v16), (0, vR 55)]) dX12_isWhole_88 (by decide) rfl ?_
      obtain ⟨y52, y53, h9, h⟩ := of_bd2 h
      refine r_sub (lv2 := [(0, vR 55), (3, vI v16), (4, vI 1)]) [2, 1, 0] rfl ?_
      refine lp_X12_isWhole_L90 M17   (fun w => w = (y52, y53)) ?_ FU v16 1 _ h9 rfl
      intro z0 z1 hw
      cases hw
      refine r_iload_n dX12_isWhole_221 rfl 1 rfl ?_
      obtain ⟨cz, h⟩ := of_ck h
      rw [← bI_dec cz]
      cases h
      exact hQ _ _ dX12_isWhole_222
    clear h
    have h := h9
    clear h9
    by_cases c11 : wr r9 = wr r2
    · rw [if_pos c11] at h
      refine r_icmp_ne (tgt := 85) dX12_isWhole_54 (by decide) (fun q => absurd c11 q) (fun _ => ?_)
      refine r_aload_n dX12_isWhole_57 rfl 0 rfl ?_
      refine r_iconst dX12_isWhole_58 ?_
      refine r_iconst dX12_isWhole_59 ?_
      obtain ⟨r13, M14, hc12, h⟩ := of_bd2 h
      refine r_callVI (st := []) dX12_isWhole_60 v_X12_231 (run_X12_meets hc12) (by decide) (by decide) rfl rfl (Nat.le_of_ble_eq_true rfl) rfl ?_
      refine r_aload_n dX12_isWhole_63 rfl 0 rfl ?_
      refine r_getI (j := 0) (jz := 0) dX12_isWhole_64 f_X12_88 rfl rfl rfl ?_
      refine r_iconst dX12_isWhole_67 ?_
      refine r_iadd dX12_isWhole_68 ?_
      refine r_aload_n dX12_isWhole_69 rfl 0 rfl ?_
      refine r_getI (j := 1) (jz := 1) dX12_isWhole_70 f_X12_92 rfl rfl rfl ?_
      refine r_iconst dX12_isWhole_73 ?_
      refine r_iadd dX12_isWhole_74 ?_
      refine r_imul dX12_isWhole_75 ?_
      refine r_iload_n dX12_isWhole_76 rfl 1 rfl ?_
      refine r_isub dX12_isWhole_77 ?_
      by_cases c15 : wr r13 = wr ((((gI M14 55 0) + 2) * ((gI M14 55 1) + 2)) - r2)
      · rw [if_pos c15] at h
        refine r_icmp_ne (tgt := 85) dX12_isWhole_78 (by decide) (fun q => absurd c15 q) (fun _ => ?_)
        refine r_iconst dX12_isWhole_81 ?_
        refine r_goto (tgt := 86) dX12_isWhole_82 (by decide) ?_
        refine r_sub (lv2 := [(0, vR 55)]) [0] rfl ?_
        cases h
        exact kJ
      · rw [if_neg c15] at h
        refine r_icmp_ne (tgt := 85) dX12_isWhole_78 (by decide) (fun _ => ?_) (fun q => absurd q c15)
        refine r_iconst dX12_isWhole_85 ?_
        refine r_sub (lv2 := [(0, vR 55)]) [0] rfl ?_
        cases h
        exact kJ
    · rw [if_neg c11] at h
      refine r_icmp_ne (tgt := 85) dX12_isWhole_54 (by decide) (fun _ => ?_) (fun q => absurd q c11)
      refine r_iconst dX12_isWhole_85 ?_
      refine r_sub (lv2 := [(0, vR 55)]) [0] rfl ?_
      cases h
      exact kJ

