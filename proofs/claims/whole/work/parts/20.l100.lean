def m_J7_fill_d0a16_L6 (M : Mem) (p0 : Nat) (p1 : Int64) (p4 : Int) (x3 : Int) : Option ((Int × Mem) ⊕ (Int × Mem)) :=
  if wr p4 ≤ wr x3 then
    some (.inr (x3, M))
  else
    if 0 ≤ wr x3 ∧ wr x3 < ((ly p0).2 : Int) then
    lt (sL M p0 (wr x3) p1) fun M3 =>
    some (.inl ((x3 + 1), M3))
    else none
def m_J7_fill_d0a16 (M : Mem) (a0 : Nat) (a1 : Int64) : Option (Mem) :=
  bd2 (itr (fun s => m_J7_fill_d0a16_L6 s.2 a0 a1 ((ly a0).2 : Int) s.1) FU (0, M)) fun y4 M5 =>
  some M5
set_option maxRecDepth 10000 in
theorem lp_J7_fill_d0a16_L6 {G : Gx} (p0 : Nat) (p1 : Int64) (p4 : Int)  (hp0 : ly p0 = (2, (ly p0).2)) (X : (Int × Mem) → Prop) (hX1 : ∀ (x3 : Int) (M : Mem), X (x3, M) → Ex G 0 cJ7_fill_d0a16 RJ7 5 22 [(0, vR p0), (1, vL p1), (3, vI x3), (4, vI p4)] [] M) : ∀ (nn : Nat) (x3 : Int) (M : Mem) (out : Int × Mem), itr (fun s => m_J7_fill_d0a16_L6 s.2 p0 p1 p4 s.1) nn (x3, M) = some out → X out → Ex G 0 cJ7_fill_d0a16 RJ7 5 6 [(0, vR p0), (1, vL p1), (3, vI x3), (4, vI p4)] [] M := by
  intro nn
  induction nn with
  | zero =>
    intro x3 M out h _
    cases h
  | succ nn ih =>
    intro x3 M out h0 hX
    obtain ⟨w, h, k1, k2⟩ := itr_inv h0
    have h : m_J7_fill_d0a16_L6 M p0 p1 p4 x3 = some w := h
    unfold m_J7_fill_d0a16_L6 at h
    refine r_iload_n dJ7_fill_d0a16_6 rfl 2 rfl ?_
    refine r_iload dJ7_fill_d0a16_7 3 rfl ?_
    by_cases c1 : wr p4 ≤ wr x3
    · rw [if_pos c1] at h
      refine r_icmp_ge (tgt := 22) dJ7_fill_d0a16_9 (by decide) (fun _ => ?_) (fun q => absurd c1 q)
      cases h
      cases k2 _ rfl
      exact hX1 _ _ hX
    · rw [if_neg c1] at h
      refine r_icmp_ge (tgt := 22) dJ7_fill_d0a16_9 (by decide) (fun q => absurd q c1) (fun _ => ?_)
      refine r_aload_n dJ7_fill_d0a16_12 rfl 0 rfl ?_
      refine r_iload_n dJ7_fill_d0a16_13 rfl 2 rfl ?_
      refine r_lload_n dJ7_fill_d0a16_14 rfl 1 rfl ?_
      obtain ⟨c2, h⟩ := of_ck h
      obtain ⟨M3, eM3, h⟩ := of_lt h
      refine r_last dJ7_fill_d0a16_15 hp0 c2 ?_
      rw [← eM3]
      refine r_iinc (lv2 := [(3, vI (x3 + 1)), (0, vR p0), (1, vL p1), (4, vI p4)]) dJ7_fill_d0a16_16 2 rfl (by decide) rfl ?_
      refine r_goto (tgt := 6) dJ7_fill_d0a16_19 (by decide) ?_
      refine r_sub (lv2 := [(0, vR p0), (1, vL p1), (3, vI (x3 + 1)), (4, vI p4)]) [1, 2, 0, 3] rfl ?_
      cases h
      exact ih _ _  _ (k1 _ rfl) hX

set_option maxRecDepth 10000 in
theorem run_J7_fill_d0a16 {M : Mem} {M2 : Mem} {a0 : Nat} {a1 : Int64}  (ha0 : (ly a0).1 = 2) (h : m_J7_fill_d0a16 M a0 a1 = some (M2)) : RunV 0 yJ7_fill_d0a16 cJ7_fill_d0a16 5 none [vR a0, vL a1] M M2 := by
  refine runV_of (lv := [(0, vR a0), (1, vL a1)]) (by decide +kernel) rfl (Nat.le_of_ble_eq_true rfl) rfl ?_
  intro G hQ
  unfold m_J7_fill_d0a16 at h
  refine r_iconst dJ7_fill_d0a16_0 ?_
  refine r_istore_n (lv2 := [(3, vI 0), (0, vR a0), (1, vL a1)]) dJ7_fill_d0a16_1 rfl (by decide) rfl ?_
  refine r_aload_n dJ7_fill_d0a16_2 rfl 1 rfl ?_
  refine r_alenL dJ7_fill_d0a16_3 (ly_t ha0) ?_
  refine r_istore (lv2 := [(4, vI ((ly a0).2 : Int)), (3, vI 0), (0, vR a0), (1, vL a1)]) dJ7_fill_d0a16_4 (by decide) rfl ?_
  obtain ⟨y4, M5, h9, h⟩ := of_bd2 h
  refine r_sub (lv2 := [(0, vR a0), (1, vL a1), (3, vI 0), (4, vI ((ly a0).2 : Int))]) [2, 3, 1, 0] rfl ?_
  refine lp_J7_fill_d0a16_L6 a0 a1 ((ly a0).2 : Int) (ly_t ha0) (fun w => w = (y4, M5)) ?_ FU 0 M _ h9 rfl
  intro z0 z1 hw
  cases hw
  cases h
  exact hQ _ _ dJ7_fill_d0a16_22

def m_X10_openAt (M : Mem) (a1 : Int) (a2 : Int) : Option (Int) :=
  if wr a1 < 0 then
    some (-1)
  else
    if wr (gI M 1 0) ≤ wr a1 then
      some (-1)
    else
      if wr a2 < 0 then
        some (-1)
      else
        if wr a2 < wr (gI M 1 1) then
          if 0 ≤ wr ((a2 * (gI M 1 0)) + a1) ∧ wr ((a2 * (gI M 1 0)) + a1) < 64 then
          lt (if wr (gI M 2 (wr ((a2 * (gI M 1 0)) + a1))) = 0 then (-1) else ((a2 * (gI M 1 0)) + a1)) fun (v7 : Int) =>
          some v7
          else none
        else
          some (-1)
set_option maxRecDepth 10000 in
theorem run_X10_openAt {M : Mem} {a1 : Int} {a2 : Int} {r : Int}   (h : m_X10_openAt M a1 a2 = some r) : RunI 0 yX10_openAt cX10_openAt 4 (some .int) [vR 1, vI a1, vI a2] M r M := by
  refine runI_of (lv := [(0, vR 1), (1, vI a1), (2, vI a2)]) (by decide +kernel) (Or.inl rfl) (Nat.le_of_ble_eq_true rfl) rfl ?_
  intro G hQ
  unfold m_X10_openAt at h
  refine r_iload_n dX10_openAt_0 rfl 1 rfl ?_
  by_cases c1 : wr a1 < 0
  · rw [if_pos c1] at h
    refine r_if_lt (tgt := 24) dX10_openAt_1 (by decide) (fun _ => ?_) (fun q => absurd c1 q)
    refine r_iconst dX10_openAt_24 ?_
    cases h
    exact hQ _ _ dX10_openAt_25
  · rw [if_neg c1] at h
    refine r_if_lt (tgt := 24) dX10_openAt_1 (by decide) (fun q => absurd q c1) (fun _ => ?_)
    refine r_iload_n dX10_openAt_4 rfl 1 rfl ?_
    refine r_aload_n dX10_openAt_5 rfl 0 rfl ?_
    refine r_getI (j := 0) (jz := 0) dX10_openAt_6 f_X10_22 rfl rfl rfl ?_
    by_cases c2 : wr (gI M 1 0) ≤ wr a1
    · rw [if_pos c2] at h
      refine r_icmp_ge (tgt := 24) dX10_openAt_9 (by decide) (fun _ => ?_) (fun q => absurd c2 q)
      refine r_iconst dX10_openAt_24 ?_
      cases h
      exact hQ _ _ dX10_openAt_25
    · rw [if_neg c2] at h
      refine r_icmp_ge (tgt := 24) dX10_openAt_9 (by decide) (fun q => absurd q c2) (fun _ => ?_)
      refine r_iload_n dX10_openAt_12 rfl 2 rfl ?_
      by_cases c3 : wr a2 < 0
      · rw [if_pos c3] at h
        refine r_if_lt (tgt := 24) dX10_openAt_13 (by decide) (fun _ => ?_) (fun q => absurd c3 q)
        refine r_iconst dX10_openAt_24 ?_
        cases h
        exact hQ _ _ dX10_openAt_25
      · rw [if_neg c3] at h
        refine r_if_lt (tgt := 24) dX10_openAt_13 (by decide) (fun q => absurd q c3) (fun _ => ?_)
        refine r_iload_n dX10_openAt_16 rfl 2 rfl ?_
        refine r_aload_n dX10_openAt_17 rfl 0 rfl ?_
        refine r_getI (j := 1) (jz := 1) dX10_openAt_18 f_X10_26 rfl rfl rfl ?_
        by_cases c4 : wr a2 < wr (gI M 1 1)
        · rw [if_pos c4] at h
          refine r_icmp_lt (tgt := 26) dX10_openAt_21 (by decide) (fun _ => ?_) (fun q => absurd c4 q)
          refine r_iload_n dX10_openAt_26 rfl 2 rfl ?_
          refine r_aload_n dX10_openAt_27 rfl 0 rfl ?_
          refine r_getI (j := 0) (jz := 0) dX10_openAt_28 f_X10_22 rfl rfl rfl ?_
          refine r_imul dX10_openAt_31 ?_
          refine r_iload_n dX10_openAt_32 rfl 1 rfl ?_
          refine r_iadd dX10_openAt_33 ?_
          refine r_istore_n (lv2 := [(3, vI ((a2 * (gI M 1 0)) + a1)), (0, vR 1), (1, vI a1), (2, vI a2)]) dX10_openAt_34 rfl (by decide) rfl ?_
          refine r_aload_n dX10_openAt_35 rfl 1 rfl ?_
          refine r_getR (j := 2) (v := 2) dX10_openAt_36 f_X10_9 rfl rfl rfl ?_
          refine r_iload_n dX10_openAt_39 rfl 0 rfl ?_
          obtain ⟨c5, h⟩ := of_ck h
          refine r_zald dX10_openAt_40 rfl c5 ?_
          obtain ⟨v7, ev7, h⟩ := of_lt h
          have kJ : Ex G 0 cX10_openAt RX10 4 49 [] [vI v7] M := by
            cases h
            exact hQ _ _ dX10_openAt_49
          clear h
          by_cases c6 : wr (gI M 2 (wr ((a2 * (gI M 1 0)) + a1))) = 0
          · skip
            refine r_if_eq (tgt := 48) dX10_openAt_41 (by decide) (fun _ => ?_) (fun q => absurd c6 q)
            refine r_iconst dX10_openAt_48 ?_
            rw [show v7 = (-1) from by rw [ev7, if_pos c6]] at kJ
            refine r_sub (lv2 := []) [] rfl ?_
            exact kJ
          · skip
            refine r_if_eq (tgt := 48) dX10_openAt_41 (by decide) (fun q => absurd q c6) (fun _ => ?_)
            refine r_iload_n dX10_openAt_44 rfl 0 rfl ?_
            refine r_goto (tgt := 49) dX10_openAt_45 (by decide) ?_
            rw [show v7 = ((a2 * (gI M 1 0)) + a1) from by rw [ev7, if_neg c6]] at kJ
            refine r_sub (lv2 := []) [] rfl ?_
            exact kJ
        · rw [if_neg c4] at h
          refine r_icmp_lt (tgt := 26) dX10_openAt_21 (by decide) (fun q => absurd q c4) (fun _ => ?_)
          refine r_iconst dX10_openAt_24 ?_
          cases h
          exact hQ _ _ dX10_openAt_25

def m_X0_pass_L70 (M : Mem) (p4 : Int) (p5 : Int) (p6 : Int) (p7 : Int) (x8 : Int) : Option ((Int × Mem) ⊕ (Int × Mem)) :=
  if wr (shl 1 (gI M 1 1)) ≤ wr x8 then
    some (.inr (x8, M))
  else
    if ly (dR M 14 0) = (2, 256) then
    if 0 ≤ wr x8 ∧ wr x8 < 256 then
    bd1 (
      if (gL M (dR M 14 0) (wr x8)) = (0 : Int64) then
        some (M)
      else
        if wr p5 = 0 then
          if ly (dR M 14 1) = (2, 256) then
          if 0 ≤ wr (iand x8 (ixor p4 (-1))) ∧ wr (iand x8 (ixor p4 (-1))) < 256 then
          lt (sL M (dR M 14 1) (wr (iand x8 (ixor p4 (-1)))) ((gL M (dR M 14 1) (wr (iand x8 (ixor p4 (-1))))) + (gL M (dR M 14 0) (wr x8)))) fun M22 =>
          some (M22)
          else none
          else none
        else
          if wr (iand x8 p4) = 0 then
            bd1 (
              if wr p6 = 0 then
                some (M)
              else
                if ly (dR M 14 1) = (2, 256) then
                if 0 ≤ wr (x8 + p4) ∧ wr (x8 + p4) < 256 then
                lt (sL M (dR M 14 1) (wr (x8 + p4)) ((gL M (dR M 14 1) (wr (x8 + p4))) + (gL M (dR M 14 0) (wr x8)))) fun M27 =>
                some (M27)
                else none
                else none) fun (M28 : Mem) =>
            if wr p7 = 0 then
              some (M28)
            else
              if wr (iand x8 (2 * p4)) = 0 then
                if ly (dR M28 14 1) = (2, 256) then
                if 0 ≤ wr (x8 + (2 * p4)) ∧ wr (x8 + (2 * p4)) < 256 then
                lt (sL M28 (dR M28 14 1) (wr (x8 + (2 * p4))) ((gL M28 (dR M28 14 1) (wr (x8 + (2 * p4)))) + (gL M (dR M 14 0) (wr x8)))) fun M33 =>
                some (M33)
                else none
                else none
              else
                some (M28)
          else
            if ly (dR M 14 1) = (2, 256) then
            if 0 ≤ wr (iand x8 (ixor p4 (-1))) ∧ wr (iand x8 (ixor p4 (-1))) < 256 then
            lt (sL M (dR M 14 1) (wr (iand x8 (ixor p4 (-1)))) ((gL M (dR M 14 1) (wr (iand x8 (ixor p4 (-1))))) + (gL M (dR M 14 0) (wr x8)))) fun M36 =>
            some (M36)
            else none
            else none) fun (M37 : Mem) =>
    some (.inl ((x8 + 1), M37))
    else none
    else none
def m_X0_pass (M : Mem) (a2 : Int) (a3 : Int) : Option (Mem) :=
  bd1 (m_X10_openAt M a2 a3) fun r2 =>
  lt (if wr r2 < 0 then 0 else 1) fun (v4 : Int) =>
  bd1 (
    if wr v4 = 0 then
      some (0)
    else
      bd1 (m_X10_openAt M (a2 + 1) a3) fun r7 =>
      if wr r7 < 0 then
        some (0)
      else
        some (1)) fun (v9 : Int) =>
  bd1 (
    if wr v4 = 0 then
      some (0)
    else
      bd1 (m_X10_openAt M a2 (a3 + 1)) fun r12 =>
      if wr r12 < 0 then
        some (0)
      else
        some (1)) fun (v14 : Int) =>
  bd2 (itr (fun s => m_X0_pass_L70 s.2 (shl 1 a3) v4 v9 v14 s.1) FU (0, M)) fun y38 M39 =>
  some M39
set_option maxRecDepth 10000 in
theorem lp_X0_pass_L70 {G : Gx} (p4 : Int) (p5 : Int) (p6 : Int) (p7 : Int)   (X : (Int × Mem) → Prop) (hX1 : ∀ (x8 : Int) (M : Mem), X (x8, M) → Ex G 1 cX0_pass RX0 11 191 [(0, vR 14), (1, vR 1), (4, vI p4), (5, vI p5), (6, vI p6), (7, vI p7), (8, vI x8)] [] M) : ∀ (nn : Nat) (x8 : Int) (M : Mem) (out : Int × Mem), itr (fun s => m_X0_pass_L70 s.2 p4 p5 p6 p7 s.1) nn (x8, M) = some out → X out → Ex G 1 cX0_pass RX0 11 70 [(0, vR 14), (1, vR 1), (4, vI p4), (5, vI p5), (6, vI p6), (7, vI p7), (8, vI x8)] [] M := by
  intro nn
  induction nn with
  | zero =>
    intro x8 M out h _
    cases h
  | succ nn ih =>
    intro x8 M out h0 hX
    obtain ⟨w, h, k1, k2⟩ := itr_inv h0
    have h : m_X0_pass_L70 M p4 p5 p6 p7 x8 = some w := h
    unfold m_X0_pass_L70 at h
    refine r_iload dX0_pass_70 6 rfl ?_
    refine r_iconst dX0_pass_72 ?_
    refine r_aload_n dX0_pass_73 rfl 1 rfl ?_
    refine r_getI (j := 1) (jz := 1) dX0_pass_74 f_X0_30 rfl rfl rfl ?_
    refine r_ishl dX0_pass_77 ?_
    by_cases c15 : wr (shl 1 (gI M 1 1)) ≤ wr x8
    · rw [if_pos c15] at h
      refine r_icmp_ge (tgt := 191) dX0_pass_78 (by decide) (fun _ => ?_) (fun q => absurd c15 q)
      cases h
      cases k2 _ rfl
      exact hX1 _ _ hX
    · rw [if_neg c15] at h
      refine r_icmp_ge (tgt := 191) dX0_pass_78 (by decide) (fun q => absurd q c15) (fun _ => ?_)
      refine r_aload_n dX0_pass_81 rfl 0 rfl ?_
      refine r_getR (j := 0) (v := (dR M 14 0)) dX0_pass_82 f_X0_9 rfl rfl rfl ?_
      obtain ⟨c16, h⟩ := of_ck h
      refine r_iload dX0_pass_85 6 rfl ?_
      obtain ⟨c17, h⟩ := of_ck h
      refine r_lald dX0_pass_87 c16 c17 ?_
      refine r_lstore (lv2 := [(9, vL (gL M (dR M 14 0) (wr x8))), (0, vR 14), (1, vR 1), (4, vI p4), (5, vI p5), (6, vI p6), (7, vI p7), (8, vI x8)]) dX0_pass_88 (by decide) rfl ?_
      refine r_lload dX0_pass_90 0 rfl ?_
      refine r_lconst (v := 0) dX0_pass_92 rfl ?_
      obtain ⟨M37, h9, h⟩ := of_bd1 h
      have kJ : Ex G 1 cX0_pass RX0 11 185 [(0, vR 14), (1, vR 1), (4, vI p4), (5, vI p5), (6, vI p6), (7, vI p7), (8, vI x8)] [] M37 := by
        refine r_iinc (lv2 := [(8, vI (x8 + 1)), (0, vR 14), (1, vR 1), (4, vI p4), (5, vI p5), (6, vI p6), (7, vI p7)]) dX0_pass_185 6 rfl (by decide) rfl ?_
        refine r_goto (tgt := 70) dX0_pass_188 (by decide) ?_
        refine r_sub (lv2 := [(0, vR 14), (1, vR 1), (4, vI p4), (5, vI p5), (6, vI p6), (7, vI p7), (8, vI (x8 + 1))]) [1, 2, 3, 4, 5, 6, 0] rfl ?_
        cases h
        exact ih _ _  _ (k1 _ rfl) hX
      clear h
      have h := h9
      clear h9
      by_cases c18 : (gL M (dR M 14 0) (wr x8)) = (0 : Int64)
      · rw [if_pos c18] at h
        refine r_lcmp_ne (tgt := 100) dX0_pass_93 dX0_pass_94 (by decide) (fun q => absurd c18 q) (fun _ => ?_)
        refine r_goto (tgt := 185) dX0_pass_97 (by decide) ?_
        refine r_sub (lv2 := [(0, vR 14), (1, vR 1), (4, vI p4), (5, vI p5), (6, vI p6), (7, vI p7), (8, vI x8)]) [1, 2, 3, 4, 5, 6, 7] rfl ?_
        cases h
        exact kJ
      · rw [if_neg c18] at h
        refine r_lcmp_ne (tgt := 100) dX0_pass_93 dX0_pass_94 (by decide) (fun _ => ?_) (fun q => absurd q c18)
        refine r_iload dX0_pass_100 4 rfl ?_
        by_cases c19 : wr p5 = 0
        · rw [if_pos c19] at h
          refine r_if_eq (tgt := 113) dX0_pass_102 (by decide) (fun _ => ?_) (fun q => absurd c19 q)
          refine r_aload_n dX0_pass_113 rfl 1 rfl ?_
          refine r_getR (j := 1) (v := (dR M 14 1)) dX0_pass_114 f_X0_15 rfl rfl rfl ?_
          obtain ⟨c20, h⟩ := of_ck h
          refine r_iload dX0_pass_117 7 rfl ?_
          refine r_iload dX0_pass_119 3 rfl ?_
          refine r_iconst dX0_pass_121 ?_
          refine r_ixor dX0_pass_122 ?_
          refine r_iand dX0_pass_123 ?_
          refine r_dup2 dX0_pass_124 rfl rfl ?_
          obtain ⟨c21, h⟩ := of_ck h
          refine r_lald dX0_pass_125 c20 c21 ?_
          refine r_lload dX0_pass_126 0 rfl ?_
          refine r_ladd dX0_pass_128 ?_
          obtain ⟨M22, eM22, h⟩ := of_lt h
          refine r_last dX0_pass_129 c20 c21 ?_
          rw [← eM22]
          refine r_goto (tgt := 185) dX0_pass_130 (by decide) ?_
          refine r_sub (lv2 := [(0, vR 14), (1, vR 1), (4, vI p4), (5, vI p5), (6, vI p6), (7, vI p7), (8, vI x8)]) [1, 2, 3, 4, 5, 6, 7] rfl ?_
          cases h
          exact kJ
        · rw [if_neg c19] at h
          refine r_if_eq (tgt := 113) dX0_pass_102 (by decide) (fun q => absurd q c19) (fun _ => ?_)
          refine r_iload dX0_pass_105 7 rfl ?_
          refine r_iload dX0_pass_107 3 rfl ?_
          refine r_iand dX0_pass_109 ?_
          by_cases c23 : wr (iand x8 p4) = 0
          · rw [if_pos c23] at h
            refine r_if_eq (tgt := 133) dX0_pass_110 (by decide) (fun _ => ?_) (fun q => absurd c23 q)
            refine r_iload dX0_pass_133 5 rfl ?_
            obtain ⟨M28, h9, h⟩ := of_bd1 h
            have kJ : Ex G 1 cX0_pass RX0 11 153 [(0, vR 14), (1, vR 1), (4, vI p4), (5, vI p5), (6, vI p6), (7, vI p7), (8, vI x8), (9, vL (gL M (dR M 14 0) (wr x8)))] [] M28 := by
              refine r_iload dX0_pass_153 5 rfl ?_
              by_cases c29 : wr p7 = 0
              · rw [if_pos c29] at h
                refine r_if_eq (tgt := 185) dX0_pass_155 (by decide) (fun _ => ?_) (fun q => absurd c29 q)
                refine r_sub (lv2 := [(0, vR 14), (1, vR 1), (4, vI p4), (5, vI p5), (6, vI p6), (7, vI p7), (8, vI x8)]) [0, 1, 2, 3, 4, 5, 6] rfl ?_
                cases h
                exact kJ
              · rw [if_neg c29] at h
                refine r_if_eq (tgt := 185) dX0_pass_155 (by decide) (fun q => absurd q c29) (fun _ => ?_)
                refine r_iload dX0_pass_158 6 rfl ?_
                refine r_iconst dX0_pass_160 ?_
                refine r_iload dX0_pass_161 2 rfl ?_
                refine r_imul dX0_pass_163 ?_
                refine r_iand dX0_pass_164 ?_
                by_cases c30 : wr (iand x8 (2 * p4)) = 0
                · rw [if_pos c30] at h
                  refine r_if_ne (tgt := 185) dX0_pass_165 (by decide) (fun q => absurd c30 q) (fun _ => ?_)
                  refine r_aload_n dX0_pass_168 rfl 0 rfl ?_
                  refine r_getR (j := 1) (v := (dR M28 14 1)) dX0_pass_169 f_X0_15 rfl rfl rfl ?_
                  obtain ⟨c31, h⟩ := of_ck h
                  refine r_iload dX0_pass_172 6 rfl ?_
                  refine r_iconst dX0_pass_174 ?_
                  refine r_iload dX0_pass_175 2 rfl ?_
                  refine r_imul dX0_pass_177 ?_
                  refine r_iadd dX0_pass_178 ?_
                  refine r_dup2 dX0_pass_179 rfl rfl ?_
                  obtain ⟨c32, h⟩ := of_ck h
                  refine r_lald dX0_pass_180 c31 c32 ?_
                  refine r_lload dX0_pass_181 7 rfl ?_
                  refine r_ladd dX0_pass_183 ?_
                  obtain ⟨M33, eM33, h⟩ := of_lt h
                  refine r_last dX0_pass_184 c31 c32 ?_
                  rw [← eM33]
                  refine r_sub (lv2 := [(0, vR 14), (1, vR 1), (4, vI p4), (5, vI p5), (6, vI p6), (7, vI p7), (8, vI x8)]) [0, 1, 2, 3, 4, 5, 6] rfl ?_
                  cases h
                  exact kJ
                · rw [if_neg c30] at h
                  refine r_if_ne (tgt := 185) dX0_pass_165 (by decide) (fun _ => ?_) (fun q => absurd q c30)
                  refine r_sub (lv2 := [(0, vR 14), (1, vR 1), (4, vI p4), (5, vI p5), (6, vI p6), (7, vI p7), (8, vI x8)]) [0, 1, 2, 3, 4, 5, 6] rfl ?_
                  cases h
                  exact kJ
            clear h
            have h := h9
            clear h9
            by_cases c24 : wr p6 = 0
            · rw [if_pos c24] at h
              refine r_if_eq (tgt := 153) dX0_pass_135 (by decide) (fun _ => ?_) (fun q => absurd c24 q)
              refine r_sub (lv2 := [(0, vR 14), (1, vR 1), (4, vI p4), (5, vI p5), (6, vI p6), (7, vI p7), (8, vI x8), (9, vL (gL M (dR M 14 0) (wr x8)))]) [1, 2, 3, 4, 5, 6, 7, 0] rfl ?_
              cases h
              exact kJ
            · rw [if_neg c24] at h
              refine r_if_eq (tgt := 153) dX0_pass_135 (by decide) (fun q => absurd q c24) (fun _ => ?_)
              refine r_aload_n dX0_pass_138 rfl 1 rfl ?_
              refine r_getR (j := 1) (v := (dR M 14 1)) dX0_pass_139 f_X0_15 rfl rfl rfl ?_
              obtain ⟨c25, h⟩ := of_ck h
              refine r_iload dX0_pass_142 7 rfl ?_
              refine r_iload dX0_pass_144 3 rfl ?_
              refine r_iadd dX0_pass_146 ?_
              refine r_dup2 dX0_pass_147 rfl rfl ?_
              obtain ⟨c26, h⟩ := of_ck h
              refine r_lald dX0_pass_148 c25 c26 ?_
              refine r_lload dX0_pass_149 0 rfl ?_
              refine r_ladd dX0_pass_151 ?_
              obtain ⟨M27, eM27, h⟩ := of_lt h
              refine r_last dX0_pass_152 c25 c26 ?_
              rw [← eM27]
              refine r_sub (lv2 := [(0, vR 14), (1, vR 1), (4, vI p4), (5, vI p5), (6, vI p6), (7, vI p7), (8, vI x8), (9, vL (gL M (dR M 14 0) (wr x8)))]) [1, 2, 3, 4, 5, 6, 7, 0] rfl ?_
              cases h
              exact kJ
          · rw [if_neg c23] at h
            refine r_if_eq (tgt := 133) dX0_pass_110 (by decide) (fun q => absurd q c23) (fun _ => ?_)
            refine r_aload_n dX0_pass_113 rfl 1 rfl ?_
            refine r_getR (j := 1) (v := (dR M 14 1)) dX0_pass_114 f_X0_15 rfl rfl rfl ?_
            obtain ⟨c34, h⟩ := of_ck h
            refine r_iload dX0_pass_117 7 rfl ?_
            refine r_iload dX0_pass_119 3 rfl ?_
            refine r_iconst dX0_pass_121 ?_
            refine r_ixor dX0_pass_122 ?_
            refine r_iand dX0_pass_123 ?_
            refine r_dup2 dX0_pass_124 rfl rfl ?_
            obtain ⟨c35, h⟩ := of_ck h
            refine r_lald dX0_pass_125 c34 c35 ?_
            refine r_lload dX0_pass_126 0 rfl ?_
            refine r_ladd dX0_pass_128 ?_
            obtain ⟨M36, eM36, h⟩ := of_lt h
            refine r_last dX0_pass_129 c34 c35 ?_
            rw [← eM36]
            refine r_goto (tgt := 185) dX0_pass_130 (by decide) ?_
            refine r_sub (lv2 := [(0, vR 14), (1, vR 1), (4, vI p4), (5, vI p5), (6, vI p6), (7, vI p7), (8, vI x8)]) [1, 2, 3, 4, 5, 6, 7] rfl ?_
            cases h
            exact kJ

set_option maxRecDepth 10000 in
theorem run_X0_pass {M : Mem} {M2 : Mem} {a2 : Int} {a3 : Int}   (h : m_X0_pass M a2 a3 = some (M2)) : RunV 1 yX0_pass cX0_pass 11 none [vR 14, vR 1, vI a2, vI a3] M M2 := by
  refine runV_of (lv := [(0, vR 14), (1, vR 1), (2, vI a2), (3, vI a3)]) (by decide +kernel) rfl (Nat.le_of_ble_eq_true rfl) rfl ?_
  intro G hQ
  unfold m_X0_pass at h
  refine r_iconst dX0_pass_0 ?_
  refine r_iload_n dX0_pass_1 rfl 3 rfl ?_
  refine r_ishl dX0_pass_2 ?_
  refine r_istore (lv2 := [(4, vI (shl 1 a3)), (0, vR 14), (1, vR 1), (2, vI a2), (3, vI a3)]) dX0_pass_3 (by decide) rfl ?_
  refine r_aload_n dX0_pass_5 rfl 2 rfl ?_
  refine r_iload_n dX0_pass_6 rfl 3 rfl ?_
  refine r_iload_n dX0_pass_7 rfl 4 rfl ?_
  obtain ⟨r2, hc1, h⟩ := of_bd1 h
  refine r_callVI (st := []) dX0_pass_8 v_X0_37 (run_X10_openAt hc1) (by decide) (by decide) rfl rfl (Nat.le_of_ble_eq_true rfl) rfl ?_
  obtain ⟨v4, ev4, h⟩ := of_lt h
  have kJ : Ex G 1 cX0_pass RX0 11 19 [(0, vR 14), (1, vR 1), (2, vI a2), (3, vI a3), (4, vI (shl 1 a3))] [vI v4] M := by
    refine r_istore (lv2 := [(5, vI v4), (0, vR 14), (1, vR 1), (2, vI a2), (3, vI a3), (4, vI (shl 1 a3))]) dX0_pass_19 (by decide) rfl ?_
    refine r_iload dX0_pass_21 0 rfl ?_
    obtain ⟨v9, h9, h⟩ := of_bd1 h
    have kJ : Ex G 1 cX0_pass RX0 11 42 [(0, vR 14), (1, vR 1), (2, vI a2), (3, vI a3), (4, vI (shl 1 a3)), (5, vI v4)] [vI v9] M := by
      refine r_istore (lv2 := [(6, vI v9), (0, vR 14), (1, vR 1), (2, vI a2), (3, vI a3), (4, vI (shl 1 a3)), (5, vI v4)]) dX0_pass_42 (by decide) rfl ?_
      refine r_iload dX0_pass_44 6 rfl ?_
      obtain ⟨v14, h9, h⟩ := of_bd1 h
      have kJ : Ex G 1 cX0_pass RX0 11 65 [(0, vR 14), (1, vR 1), (4, vI (shl 1 a3)), (5, vI v4), (6, vI v9)] [vI v14] M := by
        refine r_istore (lv2 := [(7, vI v14), (0, vR 14), (1, vR 1), (4, vI (shl 1 a3)), (5, vI v4), (6, vI v9)]) dX0_pass_65 (by decide) rfl ?_
        refine r_iconst dX0_pass_67 ?_
        refine r_istore (lv2 := [(8, vI 0), (7, vI v14), (0, vR 14), (1, vR 1), (4, vI (shl 1 a3)), (5, vI v4), (6, vI v9)]) dX0_pass_68 (by decide) rfl ?_
        obtain ⟨y38, M39, h9, h⟩ := of_bd2 h
        refine r_sub (lv2 := [(0, vR 14), (1, vR 1), (4, vI (shl 1 a3)), (5, vI v4), (6, vI v9), (7, vI v14), (8, vI 0)]) [2, 3, 4, 5, 6, 1, 0] rfl ?_
        refine lp_X0_pass_L70 (shl 1 a3) v4 v9 v14  (fun w => w = (y38, M39)) ?_ FU 0 M _ h9 rfl
        intro z0 z1 hw
        cases hw
        cases h
        exact hQ _ _ dX0_pass_191
      clear h
      have h := h9
      clear h9
      by_cases c10 : wr v4 = 0
      · rw [if_pos c10] at h
        refine r_if_eq (tgt := 64) dX0_pass_46 (by decide) (fun _ => ?_) (fun q => absurd c10 q)
        refine r_iconst dX0_pass_64 ?_
        refine r_sub (lv2 := [(0, vR 14), (1, vR 1), (4, vI (shl 1 a3)), (5, vI v4), (6, vI v9)]) [1, 2, 5, 6, 0] rfl ?_
        cases h
        exact kJ
      · rw [if_neg c10] at h
        refine r_if_eq (tgt := 64) dX0_pass_46 (by decide) (fun q => absurd q c10) (fun _ => ?_)
        refine r_aload_n dX0_pass_49 rfl 2 rfl ?_
        refine r_iload_n dX0_pass_50 rfl 3 rfl ?_
        refine r_iload_n dX0_pass_51 rfl 4 rfl ?_
        refine r_iconst dX0_pass_52 ?_
        refine r_iadd dX0_pass_53 ?_
        obtain ⟨r12, hc11, h⟩ := of_bd1 h
        refine r_callVI (st := []) dX0_pass_54 v_X0_37 (run_X10_openAt hc11) (by decide) (by decide) rfl rfl (Nat.le_of_ble_eq_true rfl) rfl ?_
        by_cases c13 : wr r12 < 0
        · rw [if_pos c13] at h
          refine r_if_lt (tgt := 64) dX0_pass_57 (by decide) (fun _ => ?_) (fun q => absurd c13 q)
          refine r_iconst dX0_pass_64 ?_
          refine r_sub (lv2 := [(0, vR 14), (1, vR 1), (4, vI (shl 1 a3)), (5, vI v4), (6, vI v9)]) [1, 2, 5, 6, 0] rfl ?_
          cases h
          exact kJ
        · rw [if_neg c13] at h
          refine r_if_lt (tgt := 64) dX0_pass_57 (by decide) (fun q => absurd q c13) (fun _ => ?_)
          refine r_iconst dX0_pass_60 ?_
          refine r_goto (tgt := 65) dX0_pass_61 (by decide) ?_
          refine r_sub (lv2 := [(0, vR 14), (1, vR 1), (4, vI (shl 1 a3)), (5, vI v4), (6, vI v9)]) [1, 2, 5, 6, 0] rfl ?_
          cases h
          exact kJ
    clear h
    have h := h9
    clear h9
    by_cases c5 : wr v4 = 0
    · rw [if_pos c5] at h
      refine r_if_eq (tgt := 41) dX0_pass_23 (by decide) (fun _ => ?_) (fun q => absurd c5 q)
      refine r_iconst dX0_pass_41 ?_
      refine r_sub (lv2 := [(0, vR 14), (1, vR 1), (2, vI a2), (3, vI a3), (4, vI (shl 1 a3)), (5, vI v4)]) [1, 2, 3, 4, 5, 0] rfl ?_
      cases h
      exact kJ
    · rw [if_neg c5] at h
      refine r_if_eq (tgt := 41) dX0_pass_23 (by decide) (fun q => absurd q c5) (fun _ => ?_)
      refine r_aload_n dX0_pass_26 rfl 2 rfl ?_
      refine r_iload_n dX0_pass_27 rfl 3 rfl ?_
      refine r_iconst dX0_pass_28 ?_
      refine r_iadd dX0_pass_29 ?_
      refine r_iload_n dX0_pass_30 rfl 4 rfl ?_
      obtain ⟨r7, hc6, h⟩ := of_bd1 h
      refine r_callVI (st := []) dX0_pass_31 v_X0_37 (run_X10_openAt hc6) (by decide) (by decide) rfl rfl (Nat.le_of_ble_eq_true rfl) rfl ?_
      by_cases c8 : wr r7 < 0
      · rw [if_pos c8] at h
        refine r_if_lt (tgt := 41) dX0_pass_34 (by decide) (fun _ => ?_) (fun q => absurd c8 q)
        refine r_iconst dX0_pass_41 ?_
        refine r_sub (lv2 := [(0, vR 14), (1, vR 1), (2, vI a2), (3, vI a3), (4, vI (shl 1 a3)), (5, vI v4)]) [1, 2, 3, 4, 5, 0] rfl ?_
        cases h
        exact kJ
      · rw [if_neg c8] at h
        refine r_if_lt (tgt := 41) dX0_pass_34 (by decide) (fun q => absurd q c8) (fun _ => ?_)
        refine r_iconst dX0_pass_37 ?_
        refine r_goto (tgt := 42) dX0_pass_38 (by decide) ?_
        refine r_sub (lv2 := [(0, vR 14), (1, vR 1), (2, vI a2), (3, vI a3), (4, vI (shl 1 a3)), (5, vI v4)]) [1, 2, 3, 4, 5, 0] rfl ?_
        cases h
        exact kJ
  clear h
  by_cases c3 : wr r2 < 0
  · skip
    refine r_if_lt (tgt := 18) dX0_pass_11 (by decide) (fun _ => ?_) (fun q => absurd c3 q)
    refine r_iconst dX0_pass_18 ?_
    rw [show v4 = 0 from by rw [ev4, if_pos c3]] at kJ
    refine r_sub (lv2 := [(0, vR 14), (1, vR 1), (2, vI a2), (3, vI a3), (4, vI (shl 1 a3))]) [1, 2, 3, 4, 0] rfl ?_
    exact kJ
  · skip
    refine r_if_lt (tgt := 18) dX0_pass_11 (by decide) (fun q => absurd q c3) (fun _ => ?_)
    refine r_iconst dX0_pass_14 ?_
    refine r_goto (tgt := 19) dX0_pass_15 (by decide) ?_
    rw [show v4 = 1 from by rw [ev4, if_neg c3]] at kJ
    refine r_sub (lv2 := [(0, vR 14), (1, vR 1), (2, vI a2), (3, vI a3), (4, vI (shl 1 a3))]) [1, 2, 3, 4, 0] rfl ?_
    exact kJ

def m_X0_countSound_L38 (M : Mem) (p2 : Int) (x3 : Int) : Option ((Int × Mem) ⊕ (Int × Mem)) :=
  if wr (gI M 1 1) ≤ wr x3 then
    some (.inr (x3, M))
  else
    if ly (dR M 14 1) = (2, 256) then
    bd1 (m_J7_fill_d0a16 M (dR M 14 1) (0 : Int64)) fun M14 =>
    bd1 (m_X0_pass M14 p2 x3) fun M16 =>
    if ly (dR M16 14 0) = (2, 256) then
    if ly (dR M16 14 1) = (2, 256) then
    lt (sR M16 14 0 (dR M16 14 1)) fun M19 =>
    lt (sR M19 14 1 (dR M16 14 0)) fun M20 =>
    some (.inl ((x3 + 1), M20))
    else none
    else none
    else none
def m_X0_countSound_L17 (M : Mem)  (x2 : Int) : Option ((Int × Mem) ⊕ (Int × Mem)) :=
  if wr (gI M 1 0) ≤ wr x2 then
    some (.inr (x2, M))
  else
    bd1 (
      if wr x2 ≤ 0 then
        some (M)
      else
        if ly (dR M 14 0) = (2, 256) then
        lt (sL M (dR M 14 0) (wr 0) (0 : Int64)) fun M9 =>
        some (M9)
        else none) fun (M10 : Mem) =>
    bd2 (itr (fun s => m_X0_countSound_L38 s.2 x2 s.1) FU (0, M10)) fun y21 M22 =>
    some (.inl ((x2 + 1), M22))
def m_X0_countSound (M : Mem) : Option (Int64 × Mem) :=
  if ly (dR M 14 0) = (2, 256) then
  bd1 (m_J7_fill_d0a16 M (dR M 14 0) (0 : Int64)) fun M3 =>
  if ly (dR M3 14 0) = (2, 256) then
  lt (sL M3 (dR M3 14 0) (wr 0) (1 : Int64)) fun M5 =>
  bd2 (itr (fun s => m_X0_countSound_L17 s.2  s.1) FU (0, M5)) fun y23 M24 =>
  if ly (dR M24 14 0) = (2, 256) then
  some ((gL M24 (dR M24 14 0) (wr 0)), M24)
  else none
  else none
  else none
set_option maxRecDepth 10000 in
theorem lp_X0_countSound_L38 {G : Gx} (p2 : Int)   (X : (Int × Mem) → Prop) (hX1 : ∀ (x3 : Int) (M : Mem), X (x3, M) → Ex G 2 cX0_countSound RX0 5 87 [(0, vR 14), (1, vR 1), (2, vI p2), (3, vI x3)] [] M) : ∀ (nn : Nat) (x3 : Int) (M : Mem) (out : Int × Mem), itr (fun s => m_X0_countSound_L38 s.2 p2 s.1) nn (x3, M) = some out → X out → Ex G 2 cX0_countSound RX0 5 38 [(0, vR 14), (1, vR 1), (2, vI p2), (3, vI x3)] [] M := by
  intro nn
  induction nn with
  | zero =>
    intro x3 M out h _
    cases h
  | succ nn ih =>
    intro x3 M out h0 hX
    obtain ⟨w, h, k1, k2⟩ := itr_inv h0
    have h : m_X0_countSound_L38 M p2 x3 = some w := h
    unfold m_X0_countSound_L38 at h
    refine r_iload_n dX0_countSound_38 rfl 3 rfl ?_
    refine r_aload_n dX0_countSound_39 rfl 1 rfl ?_
    refine r_getI (j := 1) (jz := 1) dX0_countSound_40 f_X0_30 rfl rfl rfl ?_
    by_cases c11 : wr (gI M 1 1) ≤ wr x3
    · rw [if_pos c11] at h
      refine r_icmp_ge (tgt := 87) dX0_countSound_43 (by decide) (fun _ => ?_) (fun q => absurd c11 q)
      cases h
      cases k2 _ rfl
      exact hX1 _ _ hX
    · rw [if_neg c11] at h
      refine r_icmp_ge (tgt := 87) dX0_countSound_43 (by decide) (fun q => absurd q c11) (fun _ => ?_)
      refine r_aload_n dX0_countSound_46 rfl 0 rfl ?_
      refine r_getR (j := 1) (v := (dR M 14 1)) dX0_countSound_47 f_X0_15 rfl rfl rfl ?_
      obtain ⟨c12, h⟩ := of_ck h
      refine r_lconst (v := 0) dX0_countSound_50 rfl ?_
      obtain ⟨M14, hc13, h⟩ := of_bd1 h
      refine r_callSV (st := []) dX0_countSound_51 v_X0_18 (run_J7_fill_d0a16 (congrArg Prod.fst c12) hc13) (by decide) (by decide) rfl (Nat.le_of_ble_eq_true rfl) rfl ?_
      refine r_aload_n dX0_countSound_54 rfl 0 rfl ?_
      refine r_aload_n dX0_countSound_55 rfl 1 rfl ?_
      refine r_iload_n dX0_countSound_56 rfl 2 rfl ?_
      refine r_iload_n dX0_countSound_57 rfl 3 rfl ?_
      obtain ⟨M16, hc15, h⟩ := of_bd1 h
      refine r_callVV (st := []) dX0_countSound_58 v_X0_33 (run_X0_pass hc15) (by decide) (by decide) rfl rfl (Nat.le_of_ble_eq_true rfl) rfl ?_
      refine r_aload_n dX0_countSound_61 rfl 0 rfl ?_
      refine r_getR (j := 0) (v := (dR M16 14 0)) dX0_countSound_62 f_X0_9 rfl rfl rfl ?_
      obtain ⟨c17, h⟩ := of_ck h
      refine r_astore (lv2 := [(4, vR (dR M16 14 0)), (0, vR 14), (1, vR 1), (2, vI p2), (3, vI x3)]) dX0_countSound_65 (by decide) rfl ?_
      refine r_aload_n dX0_countSound_67 rfl 1 rfl ?_
      refine r_aload_n dX0_countSound_68 rfl 1 rfl ?_
      refine r_getR (j := 1) (v := (dR M16 14 1)) dX0_countSound_69 f_X0_15 rfl rfl rfl ?_
      obtain ⟨c18, h⟩ := of_ck h
      obtain ⟨M19, eM19, h⟩ := of_lt h
      refine r_putR dX0_countSound_72 p_X0_9 rfl rfl rfl ?_
      rw [← eM19]
      refine r_aload_n dX0_countSound_75 rfl 1 rfl ?_
      refine r_aload dX0_countSound_76 0 rfl ?_
      obtain ⟨M20, eM20, h⟩ := of_lt h
      refine r_putR dX0_countSound_78 p_X0_15 rfl rfl rfl ?_
      rw [← eM20]
      refine r_iinc (lv2 := [(3, vI (x3 + 1)), (4, vR (dR M16 14 0)), (0, vR 14), (1, vR 1), (2, vI p2)]) dX0_countSound_81 4 rfl (by decide) rfl ?_
      refine r_goto (tgt := 38) dX0_countSound_84 (by decide) ?_
      refine r_sub (lv2 := [(0, vR 14), (1, vR 1), (2, vI p2), (3, vI (x3 + 1))]) [2, 3, 4, 0] rfl ?_
      cases h
      exact ih _ _  _ (k1 _ rfl) hX

set_option maxRecDepth 10000 in
theorem lp_X0_countSound_L17 {G : Gx}    (X : (Int × Mem) → Prop) (hX1 : ∀ (x2 : Int) (M : Mem), X (x2, M) → Ex G 2 cX0_countSound RX0 5 93 [(0, vR 14), (1, vR 1), (2, vI x2)] [] M) : ∀ (nn : Nat) (x2 : Int) (M : Mem) (out : Int × Mem), itr (fun s => m_X0_countSound_L17 s.2  s.1) nn (x2, M) = some out → X out → Ex G 2 cX0_countSound RX0 5 17 [(0, vR 14), (1, vR 1), (2, vI x2)] [] M := by
  intro nn
  induction nn with
  | zero =>
    intro x2 M out h _
    cases h
  | succ nn ih =>
    intro x2 M out h0 hX
    obtain ⟨w, h, k1, k2⟩ := itr_inv h0
    have h : m_X0_countSound_L17 M  x2 = some w := h
    unfold m_X0_countSound_L17 at h
    refine r_iload_n dX0_countSound_17 rfl 2 rfl ?_
    refine r_aload_n dX0_countSound_18 rfl 1 rfl ?_
    refine r_getI (j := 0) (jz := 0) dX0_countSound_19 f_X0_24 rfl rfl rfl ?_
    by_cases c6 : wr (gI M 1 0) ≤ wr x2
    · rw [if_pos c6] at h
      refine r_icmp_ge (tgt := 93) dX0_countSound_22 (by decide) (fun _ => ?_) (fun q => absurd c6 q)
      cases h
      cases k2 _ rfl
      exact hX1 _ _ hX
    · rw [if_neg c6] at h
      refine r_icmp_ge (tgt := 93) dX0_countSound_22 (by decide) (fun q => absurd q c6) (fun _ => ?_)
      refine r_iload_n dX0_countSound_25 rfl 2 rfl ?_
      obtain ⟨M10, h9, h⟩ := of_bd1 h
      have kJ : Ex G 2 cX0_countSound RX0 5 36 [(0, vR 14), (1, vR 1), (2, vI x2)] [] M10 := by
        refine r_iconst dX0_countSound_36 ?_
        refine r_istore_n (lv2 := [(3, vI 0), (0, vR 14), (1, vR 1), (2, vI x2)]) dX0_countSound_37 rfl (by decide) rfl ?_
        obtain ⟨y21, M22, h9, h⟩ := of_bd2 h
        refine r_sub (lv2 := [(0, vR 14), (1, vR 1), (2, vI x2), (3, vI 0)]) [1, 2, 3, 0] rfl ?_
        refine lp_X0_countSound_L38 x2  (fun w => w = (y21, M22)) ?_ FU 0 M10 _ h9 rfl
        intro z0 z1 hw
        cases hw
        refine r_iinc (lv2 := [(2, vI (x2 + 1)), (0, vR 14), (1, vR 1), (3, vI y21)]) dX0_countSound_87 2 rfl (by decide) rfl ?_
        refine r_goto (tgt := 17) dX0_countSound_90 (by decide) ?_
        refine r_sub (lv2 := [(0, vR 14), (1, vR 1), (2, vI (x2 + 1))]) [1, 2, 0] rfl ?_
        cases h
        exact ih _ _  _ (k1 _ rfl) hX
      clear h
      have h := h9
      clear h9
      by_cases c7 : wr x2 ≤ 0
      · rw [if_pos c7] at h
        refine r_if_le (tgt := 36) dX0_countSound_26 (by decide) (fun _ => ?_) (fun q => absurd c7 q)
        cases h
        exact kJ
      · rw [if_neg c7] at h
        refine r_if_le (tgt := 36) dX0_countSound_26 (by decide) (fun q => absurd q c7) (fun _ => ?_)
        refine r_aload_n dX0_countSound_29 rfl 0 rfl ?_
        refine r_getR (j := 0) (v := (dR M 14 0)) dX0_countSound_30 f_X0_9 rfl rfl rfl ?_
        obtain ⟨c8, h⟩ := of_ck h
        refine r_iconst dX0_countSound_33 ?_
        refine r_lconst (v := 0) dX0_countSound_34 rfl ?_
        obtain ⟨M9, eM9, h⟩ := of_lt h
        refine r_last dX0_countSound_35 c8 (by decide) ?_
        rw [← eM9]
        cases h
        exact kJ

set_option maxRecDepth 10000 in
theorem run_X0_countSound {M : Mem} {M2 : Mem} {r : Int64}   (h : m_X0_countSound M = some (r, M2)) : RunL 2 yX0_countSound cX0_countSound 5 (some .long) [vR 14, vR 1] M r M2 := by
  refine runL_of (lv := [(0, vR 14), (1, vR 1)]) (by decide +kernel) rfl (Nat.le_of_ble_eq_true rfl) rfl ?_
  intro G hQ
  unfold m_X0_countSound at h
  refine r_aload_n dX0_countSound_0 rfl 0 rfl ?_
  refine r_getR (j := 0) (v := (dR M 14 0)) dX0_countSound_1 f_X0_9 rfl rfl rfl ?_
  obtain ⟨c1, h⟩ := of_ck h
  refine r_lconst (v := 0) dX0_countSound_4 rfl ?_
  obtain ⟨M3, hc2, h⟩ := of_bd1 h
  refine r_callSV (st := []) dX0_countSound_5 v_X0_18 (run_J7_fill_d0a16 (congrArg Prod.fst c1) hc2) (by decide) (by decide) rfl (Nat.le_of_ble_eq_true rfl) rfl ?_
  refine r_aload_n dX0_countSound_8 rfl 0 rfl ?_
  refine r_getR (j := 0) (v := (dR M3 14 0)) dX0_countSound_9 f_X0_9 rfl rfl rfl ?_
  obtain ⟨c4, h⟩ := of_ck h
  refine r_iconst dX0_countSound_12 ?_
  refine r_lconst (v := 1) dX0_countSound_13 rfl ?_
  obtain ⟨M5, eM5, h⟩ := of_lt h
  refine r_last dX0_countSound_14 c4 (by decide) ?_
  rw [← eM5]
  refine r_iconst dX0_countSound_15 ?_
  refine r_istore_n (lv2 := [(2, vI 0), (0, vR 14), (1, vR 1)]) dX0_countSound_16 rfl (by decide) rfl ?_
  obtain ⟨y23, M24, h9, h⟩ := of_bd2 h
  refine r_sub (lv2 := [(0, vR 14), (1, vR 1), (2, vI 0)]) [1, 2, 0] rfl ?_
  refine lp_X0_countSound_L17   (fun w => w = (y23, M24)) ?_ FU 0 M5 _ h9 rfl
  intro z0 z1 hw
  cases hw
  refine r_aload_n dX0_countSound_93 rfl 0 rfl ?_
  refine r_getR (j := 0) (v := (dR M24 14 0)) dX0_countSound_94 f_X0_9 rfl rfl rfl ?_
  obtain ⟨c25, h⟩ := of_ck h
  refine r_iconst dX0_countSound_97 ?_
  refine r_lald dX0_countSound_98 c25 (by decide) ?_
  cases h
  exact hQ _ _ dX0_countSound_99

def m_J7_fill_53178_L5 (M : Mem) (p0 : Nat) (p1 : Int) (p3 : Int) (x2 : Int) : Option ((Int × Mem) ⊕ (Int × Mem)) :=
  if wr p3 ≤ wr x2 then
    some (.inr (x2, M))
  else
    if 0 ≤ wr x2 ∧ wr x2 < ((ly p0).2 : Int) then
    lt (sI M p0 (wr x2) p1) fun M3 =>
    some (.inl ((x2 + 1), M3))
    else none
def m_J7_fill_53178 (M : Mem) (a0 : Nat) (a1 : Int) : Option (Mem) :=
  bd2 (itr (fun s => m_J7_fill_53178_L5 s.2 a0 a1 ((ly a0).2 : Int) s.1) FU (0, M)) fun y4 M5 =>
  some M5
set_option maxRecDepth 10000 in
theorem lp_J7_fill_53178_L5 {G : Gx} (p0 : Nat) (p1 : Int) (p3 : Int)  (hp0 : ly p0 = (0, (ly p0).2)) (X : (Int × Mem) → Prop) (hX1 : ∀ (x2 : Int) (M : Mem), X (x2, M) → Ex G 0 cJ7_fill_53178 RJ7 4 20 [(0, vR p0), (1, vI p1), (2, vI x2), (3, vI p3)] [] M) : ∀ (nn : Nat) (x2 : Int) (M : Mem) (out : Int × Mem), itr (fun s => m_J7_fill_53178_L5 s.2 p0 p1 p3 s.1) nn (x2, M) = some out → X out → Ex G 0 cJ7_fill_53178 RJ7 4 5 [(0, vR p0), (1, vI p1), (2, vI x2), (3, vI p3)] [] M := by
  intro nn
  induction nn with
  | zero =>
    intro x2 M out h _
    cases h
  | succ nn ih =>
    intro x2 M out h0 hX
    obtain ⟨w, h, k1, k2⟩ := itr_inv h0
    have h : m_J7_fill_53178_L5 M p0 p1 p3 x2 = some w := h
    unfold m_J7_fill_53178_L5 at h
    refine r_iload_n dJ7_fill_53178_5 rfl 2 rfl ?_
    refine r_iload_n dJ7_fill_53178_6 rfl 3 rfl ?_
    by_cases c1 : wr p3 ≤ wr x2
    · rw [if_pos c1] at h
      refine r_icmp_ge (tgt := 20) dJ7_fill_53178_7 (by decide) (fun _ => ?_) (fun q => absurd c1 q)
      cases h
      cases k2 _ rfl
      exact hX1 _ _ hX
    · rw [if_neg c1] at h
      refine r_icmp_ge (tgt := 20) dJ7_fill_53178_7 (by decide) (fun q => absurd q c1) (fun _ => ?_)
      refine r_aload_n dJ7_fill_53178_10 rfl 0 rfl ?_
      refine r_iload_n dJ7_fill_53178_11 rfl 2 rfl ?_
      refine r_iload_n dJ7_fill_53178_12 rfl 1 rfl ?_
      obtain ⟨c2, h⟩ := of_ck h
      obtain ⟨M3, eM3, h⟩ := of_lt h
      refine r_iast dJ7_fill_53178_13 hp0 c2 ?_
      rw [← eM3]
      refine r_iinc (lv2 := [(2, vI (x2 + 1)), (0, vR p0), (1, vI p1), (3, vI p3)]) dJ7_fill_53178_14 2 rfl (by decide) rfl ?_
      refine r_goto (tgt := 5) dJ7_fill_53178_17 (by decide) ?_
      refine r_sub (lv2 := [(0, vR p0), (1, vI p1), (2, vI (x2 + 1)), (3, vI p3)]) [1, 2, 0, 3] rfl ?_
      cases h
      exact ih _ _  _ (k1 _ rfl) hX

set_option maxRecDepth 10000 in
theorem run_J7_fill_53178 {M : Mem} {M2 : Mem} {a0 : Nat} {a1 : Int}  (ha0 : (ly a0).1 = 0) (h : m_J7_fill_53178 M a0 a1 = some (M2)) : RunV 0 yJ7_fill_53178 cJ7_fill_53178 4 none [vR a0, vI a1] M M2 := by
  refine runV_of (lv := [(0, vR a0), (1, vI a1)]) (by decide +kernel) rfl (Nat.le_of_ble_eq_true rfl) rfl ?_
  intro G hQ
  unfold m_J7_fill_53178 at h
  refine r_iconst dJ7_fill_53178_0 ?_
  refine r_istore_n (lv2 := [(2, vI 0), (0, vR a0), (1, vI a1)]) dJ7_fill_53178_1 rfl (by decide) rfl ?_
  refine r_aload_n dJ7_fill_53178_2 rfl 1 rfl ?_
  refine r_alenI dJ7_fill_53178_3 (ly_t ha0) ?_
  refine r_istore_n (lv2 := [(3, vI ((ly a0).2 : Int)), (2, vI 0), (0, vR a0), (1, vI a1)]) dJ7_fill_53178_4 rfl (by decide) rfl ?_
  obtain ⟨y4, M5, h9, h⟩ := of_bd2 h
  refine r_sub (lv2 := [(0, vR a0), (1, vI a1), (2, vI 0), (3, vI ((ly a0).2 : Int))]) [2, 3, 1, 0] rfl ?_
  refine lp_J7_fill_53178_L5 a0 a1 ((ly a0).2 : Int) (ly_t ha0) (fun w => w = (y4, M5)) ?_ FU 0 M _ h9 rfl
  intro z0 z1 hw
  cases hw
  cases h
  exact hQ _ _ dJ7_fill_53178_20

def m_X9_clear_L7 (M : Mem) (p0 : Nat) (x1 : Int) : Option ((Int × Mem) ⊕ (Int × Mem)) :=
  if wr 100 ≤ wr x1 then
    some (.inr (x1, M))
  else
    if 0 ≤ wr x1 ∧ wr x1 < 100 then
    lt (sI M (p0 + 1) (wr x1) 0) fun M4 =>
    some (.inl ((x1 + 1), M4))
    else none
def m_X9_clear (M : Mem) (a0 : Nat) : Option (Mem) :=
  lt (sI M a0 2 0) fun M1 =>
  bd2 (itr (fun s => m_X9_clear_L7 s.2 a0 s.1) FU (0, M1)) fun y5 M6 =>
  some M6
set_option maxRecDepth 10000 in
theorem lp_X9_clear_L7 {G : Gx} (p0 : Nat)  (hp0 : (ly p0).1 = 14) (X : (Int × Mem) → Prop) (hX1 : ∀ (x1 : Int) (M : Mem), X (x1, M) → Ex G 0 cX9_clear RX9 2 26 [(0, vR p0), (1, vI x1)] [] M) : ∀ (nn : Nat) (x1 : Int) (M : Mem) (out : Int × Mem), itr (fun s => m_X9_clear_L7 s.2 p0 s.1) nn (x1, M) = some out → X out → Ex G 0 cX9_clear RX9 2 7 [(0, vR p0), (1, vI x1)] [] M := by
  intro nn
  induction nn with
  | zero =>
    intro x1 M out h _
    cases h
  | succ nn ih =>
    intro x1 M out h0 hX
    obtain ⟨w, h, k1, k2⟩ := itr_inv h0
    have h : m_X9_clear_L7 M p0 x1 = some w := h
    unfold m_X9_clear_L7 at h
    refine r_iload_n dX9_clear_7 rfl 1 rfl ?_
    refine r_bipush dX9_clear_8 (by decide) ?_
    by_cases c2 : wr 100 ≤ wr x1
    · rw [if_pos c2] at h
      refine r_icmp_ge (tgt := 26) dX9_clear_10 (by decide) (fun _ => ?_) (fun q => absurd c2 q)
      cases h
      cases k2 _ rfl
      exact hX1 _ _ hX
    · rw [if_neg c2] at h
      refine r_icmp_ge (tgt := 26) dX9_clear_10 (by decide) (fun q => absurd q c2) (fun _ => ?_)
      refine r_aload_n dX9_clear_13 rfl 0 rfl ?_
      refine r_getR (j := 0) (v := (p0 + 1)) dX9_clear_14 f_X9_9 hp0 rfl (wav_se hp0).1 ?_
      refine r_iload_n dX9_clear_17 rfl 1 rfl ?_
      refine r_iconst dX9_clear_18 ?_
      obtain ⟨c3, h⟩ := of_ck h
      obtain ⟨M4, eM4, h⟩ := of_lt h
      refine r_zast dX9_clear_19 (wav_se (M := M) hp0).2 c3 (by decide) ?_
      rw [← eM4]
      refine r_iinc (lv2 := [(1, vI (x1 + 1)), (0, vR p0)]) dX9_clear_20 1 rfl (by decide) rfl ?_
      refine r_goto (tgt := 7) dX9_clear_23 (by decide) ?_
      refine r_sub (lv2 := [(0, vR p0), (1, vI (x1 + 1))]) [1, 0] rfl ?_
      cases h
      exact ih _ _  _ (k1 _ rfl) hX

set_option maxRecDepth 10000 in
theorem run_X9_clear {M : Mem} {M2 : Mem} {a0 : Nat}  (ha0 : (ly a0).1 = 14) (h : m_X9_clear M a0 = some (M2)) : RunV 0 yX9_clear cX9_clear 2 none [vR a0] M M2 := by
  refine runV_of (lv := [(0, vR a0)]) (by decide +kernel) rfl (Nat.le_of_ble_eq_true rfl) rfl ?_
  intro G hQ
  unfold m_X9_clear at h
  refine r_aload_n dX9_clear_0 rfl 0 rfl ?_
  refine r_iconst dX9_clear_1 ?_
  obtain ⟨M1, eM1, h⟩ := of_lt h
  refine r_putI (j := 2) (jz := 2) dX9_clear_2 p_X9_19 ha0 rfl rfl rfl rfl ?_
  rw [← eM1]
  refine r_iconst dX9_clear_5 ?_
  refine r_istore_n (lv2 := [(1, vI 0), (0, vR a0)]) dX9_clear_6 rfl (by decide) rfl ?_
  obtain ⟨y5, M6, h9, h⟩ := of_bd2 h
  refine r_sub (lv2 := [(0, vR a0), (1, vI 0)]) [1, 0] rfl ?_
  refine lp_X9_clear_L7 a0 ha0 (fun w => w = (y5, M6)) ?_ FU 0 M1 _ h9 rfl
  intro z0 z1 hw
  cases hw
  cases h
  exact hQ _ _ dX9_clear_26

def m_X10_isCorner (M : Mem) (a1 : Int) (a2 : Int) : Option (Bool) :=
  bd1 (m_X10_openAt M (a1 - 1) (a2 - 1)) fun r2 =>
  bd1 (
    if 0 ≤ wr r2 then
      some (1)
    else
      bd1 (m_X10_openAt M a1 (a2 - 1)) fun r5 =>
      if 0 ≤ wr r5 then
        some (1)
      else
        bd1 (m_X10_openAt M (a1 - 1) a2) fun r8 =>
        if 0 ≤ wr r8 then
          some (1)
        else
          bd1 (m_X10_openAt M a1 a2) fun r11 =>
          if wr r11 < 0 then
            some (0)
          else
            some (1)) fun (v13 : Int) =>
  if v13 = 0 ∨ v13 = 1 then some (decide (v13 = 1)) else none
set_option maxRecDepth 10000 in
theorem run_X10_isCorner {M : Mem} {a1 : Int} {a2 : Int} {r : Bool}   (h : m_X10_isCorner M a1 a2 = some r) : RunI 1 yX10_isCorner cX10_isCorner 3 (some .boolean) [vR 1, vI a1, vI a2] M (bI r) M := by
  refine runI_of (lv := [(0, vR 1), (1, vI a1), (2, vI a2)]) (by decide +kernel) (Or.inr ⟨rfl, bI_01 r⟩) (Nat.le_of_ble_eq_true rfl) rfl ?_
  intro G hQ
  unfold m_X10_isCorner at h
  refine r_aload_n dX10_isCorner_0 rfl 0 rfl ?_
  refine r_iload_n dX10_isCorner_1 rfl 1 rfl ?_
  refine r_iconst dX10_isCorner_2 ?_
  refine r_isub dX10_isCorner_3 ?_
  refine r_iload_n dX10_isCorner_4 rfl 2 rfl ?_
  refine r_iconst dX10_isCorner_5 ?_
  refine r_isub dX10_isCorner_6 ?_
  obtain ⟨r2, hc1, h⟩ := of_bd1 h
  refine r_callVI (st := []) dX10_isCorner_7 v_X10_50 (run_X10_openAt hc1) (by decide) (by decide) rfl rfl (Nat.le_of_ble_eq_true rfl) rfl ?_
  obtain ⟨v13, h9, h⟩ := of_bd1 h
  have kJ : Ex G 1 cX10_isCorner RX10 3 49 [] [vI v13] M := by
    obtain ⟨cz, h⟩ := of_ck h
    rw [← bI_dec cz]
    cases h
    exact hQ _ _ dX10_isCorner_49
  clear h
  have h := h9
  clear h9
  by_cases c3 : 0 ≤ wr r2
  · rw [if_pos c3] at h
    refine r_if_ge (tgt := 44) dX10_isCorner_10 (by decide) (fun _ => ?_) (fun q => absurd c3 q)
    refine r_iconst dX10_isCorner_44 ?_
    refine r_goto (tgt := 49) dX10_isCorner_45 (by decide) ?_
    refine r_sub (lv2 := []) [] rfl ?_
    cases h
    exact kJ
  · rw [if_neg c3] at h
    refine r_if_ge (tgt := 44) dX10_isCorner_10 (by decide) (fun q => absurd q c3) (fun _ => ?_)
    refine r_aload_n dX10_isCorner_13 rfl 0 rfl ?_
    refine r_iload_n dX10_isCorner_14 rfl 1 rfl ?_
    refine r_iload_n dX10_isCorner_15 rfl 2 rfl ?_
    refine r_iconst dX10_isCorner_16 ?_
    refine r_isub dX10_isCorner_17 ?_
    obtain ⟨r5, hc4, h⟩ := of_bd1 h
    refine r_callVI (st := []) dX10_isCorner_18 v_X10_50 (run_X10_openAt hc4) (by decide) (by decide) rfl rfl (Nat.le_of_ble_eq_true rfl) rfl ?_
    by_cases c6 : 0 ≤ wr r5
    · rw [if_pos c6] at h
      refine r_if_ge (tgt := 44) dX10_isCorner_21 (by decide) (fun _ => ?_) (fun q => absurd c6 q)
      refine r_iconst dX10_isCorner_44 ?_
      refine r_goto (tgt := 49) dX10_isCorner_45 (by decide) ?_
      refine r_sub (lv2 := []) [] rfl ?_
      cases h
      exact kJ
    · rw [if_neg c6] at h
      refine r_if_ge (tgt := 44) dX10_isCorner_21 (by decide) (fun q => absurd q c6) (fun _ => ?_)
      refine r_aload_n dX10_isCorner_24 rfl 0 rfl ?_
      refine r_iload_n dX10_isCorner_25 rfl 1 rfl ?_
      refine r_iconst dX10_isCorner_26 ?_
      refine r_isub dX10_isCorner_27 ?_
      refine r_iload_n dX10_isCorner_28 rfl 2 rfl ?_
      obtain ⟨r8, hc7, h⟩ := of_bd1 h
      refine r_callVI (st := []) dX10_isCorner_29 v_X10_50 (run_X10_openAt hc7) (by decide) (by decide) rfl rfl (Nat.le_of_ble_eq_true rfl) rfl ?_
      by_cases c9 : 0 ≤ wr r8
      · rw [if_pos c9] at h
        refine r_if_ge (tgt := 44) dX10_isCorner_32 (by decide) (fun _ => ?_) (fun q => absurd c9 q)
        refine r_iconst dX10_isCorner_44 ?_
        refine r_goto (tgt := 49) dX10_isCorner_45 (by decide) ?_
        refine r_sub (lv2 := []) [] rfl ?_
        cases h
        exact kJ
      · rw [if_neg c9] at h
        refine r_if_ge (tgt := 44) dX10_isCorner_32 (by decide) (fun q => absurd q c9) (fun _ => ?_)
        refine r_aload_n dX10_isCorner_35 rfl 0 rfl ?_
        refine r_iload_n dX10_isCorner_36 rfl 1 rfl ?_
        refine r_iload_n dX10_isCorner_37 rfl 2 rfl ?_
        obtain ⟨r11, hc10, h⟩ := of_bd1 h
        refine r_callVI (st := []) dX10_isCorner_38 v_X10_50 (run_X10_openAt hc10) (by decide) (by decide) rfl rfl (Nat.le_of_ble_eq_true rfl) rfl ?_
        by_cases c12 : wr r11 < 0
        · rw [if_pos c12] at h
          refine r_if_lt (tgt := 48) dX10_isCorner_41 (by decide) (fun _ => ?_) (fun q => absurd c12 q)
          refine r_iconst dX10_isCorner_48 ?_
          refine r_sub (lv2 := []) [] rfl ?_
          cases h
          exact kJ
        · rw [if_neg c12] at h
          refine r_if_lt (tgt := 48) dX10_isCorner_41 (by decide) (fun q => absurd q c12) (fun _ => ?_)
          refine r_iconst dX10_isCorner_44 ?_
          refine r_goto (tgt := 49) dX10_isCorner_45 (by decide) ?_
          refine r_sub (lv2 := []) [] rfl ?_
          cases h
          exact kJ

def m_X9_reach (M : Mem) (a0 : Nat) (a1 : Int) : Option (Bool × Mem) :=
  if wr a1 < 0 then
    some (false, M)
  else
    if wr 100 ≤ wr a1 then
      some (false, M)
    else
      if 0 ≤ wr a1 ∧ wr a1 < 100 then
      if wr (gI M (a0 + 1) (wr a1)) = 0 then
        lt (sI M (a0 + 1) (wr a1) 1) fun M5 =>
        lt (sI M5 a0 2 ((gI M5 a0 2) + 1)) fun M6 =>
        if 0 ≤ wr (gI M5 a0 2) ∧ wr (gI M5 a0 2) < 100 then
        lt (sI M6 (a0 + 2) (wr (gI M5 a0 2)) a1) fun M8 =>
        some (true, M8)
        else none
      else
        some (false, M)
      else none
set_option maxRecDepth 10000 in
theorem run_X9_reach {M : Mem} {M2 : Mem} {a0 : Nat} {a1 : Int} {r : Bool}  (ha0 : (ly a0).1 = 14) (h : m_X9_reach M a0 a1 = some (r, M2)) : RunI 0 yX9_reach cX9_reach 2 (some .boolean) [vR a0, vI a1] M (bI r) M2 := by
  refine runI_of (lv := [(0, vR a0), (1, vI a1)]) (by decide +kernel) (Or.inr ⟨rfl, bI_01 r⟩) (Nat.le_of_ble_eq_true rfl) rfl ?_
  intro G hQ
  unfold m_X9_reach at h
  refine r_iload_n dX9_reach_0 rfl 1 rfl ?_
  by_cases c1 : wr a1 < 0
  · rw [if_pos c1] at h
    refine r_if_lt (tgt := 19) dX9_reach_1 (by decide) (fun _ => ?_) (fun q => absurd c1 q)
    refine r_iconst dX9_reach_19 ?_
    cases h
    exact hQ _ _ dX9_reach_20
  · rw [if_neg c1] at h
    refine r_if_lt (tgt := 19) dX9_reach_1 (by decide) (fun q => absurd q c1) (fun _ => ?_)
    refine r_iload_n dX9_reach_4 rfl 1 rfl ?_
    refine r_bipush dX9_reach_5 (by decide) ?_
    by_cases c2 : wr 100 ≤ wr a1
    · rw [if_pos c2] at h
      refine r_icmp_ge (tgt := 19) dX9_reach_7 (by decide) (fun _ => ?_) (fun q => absurd c2 q)
      refine r_iconst dX9_reach_19 ?_
      cases h
      exact hQ _ _ dX9_reach_20
    · rw [if_neg c2] at h
      refine r_icmp_ge (tgt := 19) dX9_reach_7 (by decide) (fun q => absurd q c2) (fun _ => ?_)
      refine r_aload_n dX9_reach_10 rfl 0 rfl ?_
      refine r_getR (j := 0) (v := (a0 + 1)) dX9_reach_11 f_X9_9 ha0 rfl (wav_se ha0).1 ?_
      refine r_iload_n dX9_reach_14 rfl 1 rfl ?_
      obtain ⟨c3, h⟩ := of_ck h
      refine r_zald dX9_reach_15 (wav_se (M := M) ha0).2 c3 ?_
      by_cases c4 : wr (gI M (a0 + 1) (wr a1)) = 0
      · rw [if_pos c4] at h
        refine r_if_eq (tgt := 21) dX9_reach_16 (by decide) (fun _ => ?_) (fun q => absurd c4 q)
        refine r_aload_n dX9_reach_21 rfl 0 rfl ?_
        refine r_getR (j := 0) (v := (a0 + 1)) dX9_reach_22 f_X9_9 ha0 rfl (wav_se ha0).1 ?_
        refine r_iload_n dX9_reach_25 rfl 1 rfl ?_
        refine r_iconst dX9_reach_26 ?_
        obtain ⟨M5, eM5, h⟩ := of_lt h
        refine r_zast dX9_reach_27 (wav_se (M := M) ha0).2 c3 (by decide) ?_
        rw [← eM5]
        refine r_aload_n dX9_reach_28 rfl 0 rfl ?_
        refine r_getR (j := 1) (v := (a0 + 2)) dX9_reach_29 f_X9_15 ha0 rfl (wav_pl ha0).1 ?_
        refine r_aload_n dX9_reach_32 rfl 0 rfl ?_
        refine r_dup dX9_reach_33 rfl ?_
        refine r_getI (j := 2) (jz := 2) dX9_reach_34 f_X9_19 ha0 rfl rfl ?_
        refine r_dup_x1 dX9_reach_37 rfl rfl ?_
        refine r_iconst dX9_reach_38 ?_
        refine r_iadd dX9_reach_39 ?_
        obtain ⟨M6, eM6, h⟩ := of_lt h
        refine r_putI (j := 2) (jz := 2) dX9_reach_40 p_X9_19 ha0 rfl rfl rfl rfl ?_
        rw [← eM6]
        refine r_iload_n dX9_reach_43 rfl 1 rfl ?_
        obtain ⟨c7, h⟩ := of_ck h
        obtain ⟨M8, eM8, h⟩ := of_lt h
        refine r_iast dX9_reach_44 (wav_pl (M := M5) ha0).2 c7 ?_
        rw [← eM8]
        refine r_iconst dX9_reach_45 ?_
        cases h
        exact hQ _ _ dX9_reach_46
      · rw [if_neg c4] at h
        refine r_if_eq (tgt := 21) dX9_reach_16 (by decide) (fun q => absurd q c4) (fun _ => ?_)
        refine r_iconst dX9_reach_19 ?_
        cases h
        exact hQ _ _ dX9_reach_20

def m_X1_canGoBetween (M : Mem) (a0 : Nat) (a1 : Int) (a2 : Int) : Option (Bool) :=
  if wr a1 < 0 then
    lt (if 0 ≤ wr a1 then 1 else (if wr a2 < 0 then 0 else 1)) fun (v4 : Int) =>
    if v4 = 0 ∨ v4 = 1 then some (decide (v4 = 1)) else none
  else
    if 0 ≤ wr a2 then
      if 0 ≤ wr a1 ∧ wr a1 < 64 then
      if 0 ≤ wr a2 ∧ wr a2 < 64 then
      lt (if wr (gI M (a0 + 1) (wr a1)) = wr (gI M (a0 + 1) (wr a2)) then 0 else 1) fun (v9 : Int) =>
      if v9 = 0 ∨ v9 = 1 then some (decide (v9 = 1)) else none
      else none
      else none
    else
      lt (if 0 ≤ wr a1 then 1 else (if wr a2 < 0 then 0 else 1)) fun (v12 : Int) =>
      if v12 = 0 ∨ v12 = 1 then some (decide (v12 = 1)) else none
set_option maxRecDepth 10000 in
theorem run_X1_canGoBetween {M : Mem} {a0 : Nat} {a1 : Int} {a2 : Int} {r : Bool}  (ha0 : (ly a0).1 = 8) (h : m_X1_canGoBetween M a0 a1 a2 = some r) : RunI 0 yX1_canGoBetween cX1_canGoBetween 3 (some .boolean) [vR a0, vI a1, vI a2] M (bI r) M := by
  refine runI_of (lv := [(0, vR a0), (1, vI a1), (2, vI a2)]) (by decide +kernel) (Or.inr ⟨rfl, bI_01 r⟩) (Nat.le_of_ble_eq_true rfl) rfl ?_
  intro G hQ
  unfold m_X1_canGoBetween at h
  refine r_iload_n dX1_canGoBetween_0 rfl 1 rfl ?_
  by_cases c1 : wr a1 < 0
  · rw [if_pos c1] at h
    refine r_if_lt (tgt := 8) dX1_canGoBetween_1 (by decide) (fun _ => ?_) (fun q => absurd c1 q)
    refine r_iload_n dX1_canGoBetween_8 rfl 1 rfl ?_
    obtain ⟨v4, ev4, h⟩ := of_lt h
    have kJ : Ex G 0 cX1_canGoBetween RX1 3 21 [] [vI v4] M := by
      obtain ⟨cz, h⟩ := of_ck h
      rw [← bI_dec cz]
      cases h
      exact hQ _ _ dX1_canGoBetween_21
    clear h
    by_cases c2 : 0 ≤ wr a1
    · skip
      refine r_if_ge (tgt := 16) dX1_canGoBetween_9 (by decide) (fun _ => ?_) (fun q => absurd c2 q)
      refine r_iconst dX1_canGoBetween_16 ?_
      refine r_goto (tgt := 21) dX1_canGoBetween_17 (by decide) ?_
      rw [show v4 = 1 from by rw [ev4, if_pos c2]] at kJ
      refine r_sub (lv2 := []) [] rfl ?_
      exact kJ
    · skip
      refine r_if_ge (tgt := 16) dX1_canGoBetween_9 (by decide) (fun q => absurd q c2) (fun _ => ?_)
      refine r_iload_n dX1_canGoBetween_12 rfl 2 rfl ?_
      by_cases c3 : wr a2 < 0
      · skip
        refine r_if_lt (tgt := 20) dX1_canGoBetween_13 (by decide) (fun _ => ?_) (fun q => absurd c3 q)
        refine r_iconst dX1_canGoBetween_20 ?_
        rw [show v4 = 0 from by rw [ev4, if_neg c2, if_pos c3]] at kJ
        refine r_sub (lv2 := []) [] rfl ?_
        exact kJ
      · skip
        refine r_if_lt (tgt := 20) dX1_canGoBetween_13 (by decide) (fun q => absurd q c3) (fun _ => ?_)
        refine r_iconst dX1_canGoBetween_16 ?_
        refine r_goto (tgt := 21) dX1_canGoBetween_17 (by decide) ?_
        rw [show v4 = 1 from by rw [ev4, if_neg c2, if_neg c3]] at kJ
        refine r_sub (lv2 := []) [] rfl ?_
        exact kJ
  · rw [if_neg c1] at h
    refine r_if_lt (tgt := 8) dX1_canGoBetween_1 (by decide) (fun q => absurd q c1) (fun _ => ?_)
    refine r_iload_n dX1_canGoBetween_4 rfl 2 rfl ?_
    by_cases c5 : 0 ≤ wr a2
    · rw [if_pos c5] at h
      refine r_if_ge (tgt := 22) dX1_canGoBetween_5 (by decide) (fun _ => ?_) (fun q => absurd c5 q)
      refine r_aload_n dX1_canGoBetween_22 rfl 0 rfl ?_
      refine r_getR (j := 1) (v := (a0 + 1)) dX1_canGoBetween_23 f_X1_73 ha0 rfl (pav_on ha0).1 ?_
      refine r_iload_n dX1_canGoBetween_26 rfl 1 rfl ?_
      obtain ⟨c6, h⟩ := of_ck h
      refine r_iald dX1_canGoBetween_27 (pav_on (M := M) ha0).2 c6 ?_
      refine r_aload_n dX1_canGoBetween_28 rfl 0 rfl ?_
      refine r_getR (j := 1) (v := (a0 + 1)) dX1_canGoBetween_29 f_X1_73 ha0 rfl (pav_on ha0).1 ?_
      refine r_iload_n dX1_canGoBetween_32 rfl 2 rfl ?_
      obtain ⟨c7, h⟩ := of_ck h
      refine r_iald dX1_canGoBetween_33 (pav_on (M := M) ha0).2 c7 ?_
      obtain ⟨v9, ev9, h⟩ := of_lt h
      have kJ : Ex G 0 cX1_canGoBetween RX1 3 42 [] [vI v9] M := by
        obtain ⟨cz, h⟩ := of_ck h
        rw [← bI_dec cz]
        cases h
        exact hQ _ _ dX1_canGoBetween_42
      clear h
      by_cases c8 : wr (gI M (a0 + 1) (wr a1)) = wr (gI M (a0 + 1) (wr a2))
      · skip
        refine r_icmp_eq (tgt := 41) dX1_canGoBetween_34 (by decide) (fun _ => ?_) (fun q => absurd c8 q)
        refine r_iconst dX1_canGoBetween_41 ?_
        rw [show v9 = 0 from by rw [ev9, if_pos c8]] at kJ
        refine r_sub (lv2 := []) [] rfl ?_
        exact kJ
      · skip
        refine r_icmp_eq (tgt := 41) dX1_canGoBetween_34 (by decide) (fun q => absurd q c8) (fun _ => ?_)
        refine r_iconst dX1_canGoBetween_37 ?_
        refine r_goto (tgt := 42) dX1_canGoBetween_38 (by decide) ?_
        rw [show v9 = 1 from by rw [ev9, if_neg c8]] at kJ
        refine r_sub (lv2 := []) [] rfl ?_
        exact kJ
    · rw [if_neg c5] at h
      refine r_if_ge (tgt := 22) dX1_canGoBetween_5 (by decide) (fun q => absurd q c5) (fun _ => ?_)
      refine r_iload_n dX1_canGoBetween_8 rfl 1 rfl ?_
      obtain ⟨v12, ev12, h⟩ := of_lt h
      have kJ : Ex G 0 cX1_canGoBetween RX1 3 21 [] [vI v12] M := by
        obtain ⟨cz, h⟩ := of_ck h
        rw [← bI_dec cz]
        cases h
        exact hQ _ _ dX1_canGoBetween_21
      clear h
      by_cases c10 : 0 ≤ wr a1
      · skip
        refine r_if_ge (tgt := 16) dX1_canGoBetween_9 (by decide) (fun _ => ?_) (fun q => absurd c10 q)
        refine r_iconst dX1_canGoBetween_16 ?_
        refine r_goto (tgt := 21) dX1_canGoBetween_17 (by decide) ?_
        rw [show v12 = 1 from by rw [ev12, if_pos c10]] at kJ
        refine r_sub (lv2 := []) [] rfl ?_
        exact kJ
      · skip
        refine r_if_ge (tgt := 16) dX1_canGoBetween_9 (by decide) (fun q => absurd q c10) (fun _ => ?_)
        refine r_iload_n dX1_canGoBetween_12 rfl 2 rfl ?_
        by_cases c11 : wr a2 < 0
        · skip
          refine r_if_lt (tgt := 20) dX1_canGoBetween_13 (by decide) (fun _ => ?_) (fun q => absurd c11 q)
          refine r_iconst dX1_canGoBetween_20 ?_
          rw [show v12 = 0 from by rw [ev12, if_neg c10, if_pos c11]] at kJ
          refine r_sub (lv2 := []) [] rfl ?_
          exact kJ
        · skip
          refine r_if_lt (tgt := 20) dX1_canGoBetween_13 (by decide) (fun q => absurd q c11) (fun _ => ?_)
          refine r_iconst dX1_canGoBetween_16 ?_
          refine r_goto (tgt := 21) dX1_canGoBetween_17 (by decide) ?_
          rw [show v12 = 1 from by rw [ev12, if_neg c10, if_neg c11]] at kJ
          refine r_sub (lv2 := []) [] rfl ?_
          exact kJ

def m_X1_stepEast (M : Mem) (a1 : Nat) (a2 : Int) (a3 : Int) : Option (Int) :=
  bd1 (m_X10_openAt M a2 (a3 - 1)) fun r2 =>
  bd1 (m_X10_openAt M a2 a3) fun r4 =>
  bd1 (m_X1_canGoBetween M a1 r2 r4) fun b6 =>
  if wr (bI b6) = 0 then
    some 0
  else
    lt (if wr (iand (a2 + a3) 1) = 0 then (-1) else 1) fun (v9 : Int) =>
    some v9
set_option maxRecDepth 10000 in
theorem run_X1_stepEast {M : Mem} {a1 : Nat} {a2 : Int} {a3 : Int} {r : Int}  (ha1 : (ly a1).1 = 8) (h : m_X1_stepEast M a1 a2 a3 = some r) : RunI 1 yX1_stepEast cX1_stepEast 4 (some .int) [vR 1, vR a1, vI a2, vI a3] M r M := by
  refine runI_of (lv := [(0, vR 1), (1, vR a1), (2, vI a2), (3, vI a3)]) (by decide +kernel) (Or.inl rfl) (Nat.le_of_ble_eq_true rfl) rfl ?_
  intro G hQ
  unfold m_X1_stepEast at h
  refine r_aload_n dX1_stepEast_0 rfl 1 rfl ?_
  refine r_aload_n dX1_stepEast_1 rfl 0 rfl ?_
  refine r_iload_n dX1_stepEast_2 rfl 2 rfl ?_
  refine r_iload_n dX1_stepEast_3 rfl 3 rfl ?_
  refine r_iconst dX1_stepEast_4 ?_
  refine r_isub dX1_stepEast_5 ?_
  obtain ⟨r2, hc1, h⟩ := of_bd1 h
  refine r_callVI (st := [vR a1]) dX1_stepEast_6 v_X1_66 (run_X10_openAt hc1) (by decide) (by decide) rfl rfl (Nat.le_of_ble_eq_true rfl) rfl ?_
  refine r_aload_n dX1_stepEast_9 rfl 0 rfl ?_
  refine r_iload_n dX1_stepEast_10 rfl 2 rfl ?_
  refine r_iload_n dX1_stepEast_11 rfl 3 rfl ?_
  obtain ⟨r4, hc3, h⟩ := of_bd1 h
  refine r_callVI (st := [vI r2, vR a1]) dX1_stepEast_12 v_X1_66 (run_X10_openAt hc3) (by decide) (by decide) rfl rfl (Nat.le_of_ble_eq_true rfl) rfl ?_
  obtain ⟨b6, hc5, h⟩ := of_bd1 h
  refine r_callSI (st := []) dX1_stepEast_15 v_X1_69 (run_X1_canGoBetween ha1 hc5) (by decide) (by decide) rfl (Nat.le_of_ble_eq_true rfl) rfl ?_
  by_cases c7 : wr (bI b6) = 0
  · rw [if_pos c7] at h
    refine r_if_ne (tgt := 23) dX1_stepEast_18 (by decide) (fun q => absurd c7 q) (fun _ => ?_)
    refine r_iconst dX1_stepEast_21 ?_
    cases h
    exact hQ _ _ dX1_stepEast_22
  · rw [if_neg c7] at h
    refine r_if_ne (tgt := 23) dX1_stepEast_18 (by decide) (fun _ => ?_) (fun q => absurd q c7)
    refine r_iload_n dX1_stepEast_23 rfl 2 rfl ?_
    refine r_iload_n dX1_stepEast_24 rfl 3 rfl ?_
    refine r_iadd dX1_stepEast_25 ?_
    refine r_iconst dX1_stepEast_26 ?_
    refine r_iand dX1_stepEast_27 ?_
    obtain ⟨v9, ev9, h⟩ := of_lt h
    have kJ : Ex G 1 cX1_stepEast RX1 4 36 [] [vI v9] M := by
      cases h
      exact hQ _ _ dX1_stepEast_36
    clear h
    by_cases c8 : wr (iand (a2 + a3) 1) = 0
    · skip
      refine r_if_ne (tgt := 35) dX1_stepEast_28 (by decide) (fun q => absurd c8 q) (fun _ => ?_)
      refine r_iconst dX1_stepEast_31 ?_
      refine r_goto (tgt := 36) dX1_stepEast_32 (by decide) ?_
      rw [show v9 = (-1) from by rw [ev9, if_pos c8]] at kJ
      refine r_sub (lv2 := []) [] rfl ?_
      exact kJ
    · skip
      refine r_if_ne (tgt := 35) dX1_stepEast_28 (by decide) (fun _ => ?_) (fun q => absurd q c8)
      refine r_iconst dX1_stepEast_35 ?_
      rw [show v9 = 1 from by rw [ev9, if_neg c8]] at kJ
      refine r_sub (lv2 := []) [] rfl ?_
      exact kJ

def m_X1_stepSouth (M : Mem) (a1 : Nat) (a2 : Int) (a3 : Int) : Option (Int) :=
  bd1 (m_X10_openAt M (a2 - 1) a3) fun r2 =>
  bd1 (m_X10_openAt M a2 a3) fun r4 =>
  bd1 (m_X1_canGoBetween M a1 r2 r4) fun b6 =>
  if wr (bI b6) = 0 then
    some 0
  else
    lt (if wr (iand (a2 + a3) 1) = 0 then 1 else (-1)) fun (v9 : Int) =>
    some v9
set_option maxRecDepth 10000 in
theorem run_X1_stepSouth {M : Mem} {a1 : Nat} {a2 : Int} {a3 : Int} {r : Int}  (ha1 : (ly a1).1 = 8) (h : m_X1_stepSouth M a1 a2 a3 = some r) : RunI 1 yX1_stepSouth cX1_stepSouth 4 (some .int) [vR 1, vR a1, vI a2, vI a3] M r M := by
  refine runI_of (lv := [(0, vR 1), (1, vR a1), (2, vI a2), (3, vI a3)]) (by decide +kernel) (Or.inl rfl) (Nat.le_of_ble_eq_true rfl) rfl ?_
  intro G hQ
  unfold m_X1_stepSouth at h
  refine r_aload_n dX1_stepSouth_0 rfl 1 rfl ?_
  refine r_aload_n dX1_stepSouth_1 rfl 0 rfl ?_
  refine r_iload_n dX1_stepSouth_2 rfl 2 rfl ?_
  refine r_iconst dX1_stepSouth_3 ?_
  refine r_isub dX1_stepSouth_4 ?_
  refine r_iload_n dX1_stepSouth_5 rfl 3 rfl ?_
  obtain ⟨r2, hc1, h⟩ := of_bd1 h
  refine r_callVI (st := [vR a1]) dX1_stepSouth_6 v_X1_66 (run_X10_openAt hc1) (by decide) (by decide) rfl rfl (Nat.le_of_ble_eq_true rfl) rfl ?_
  refine r_aload_n dX1_stepSouth_9 rfl 0 rfl ?_
  refine r_iload_n dX1_stepSouth_10 rfl 2 rfl ?_
  refine r_iload_n dX1_stepSouth_11 rfl 3 rfl ?_
  obtain ⟨r4, hc3, h⟩ := of_bd1 h
  refine r_callVI (st := [vI r2, vR a1]) dX1_stepSouth_12 v_X1_66 (run_X10_openAt hc3) (by decide) (by decide) rfl rfl (Nat.le_of_ble_eq_true rfl) rfl ?_
  obtain ⟨b6, hc5, h⟩ := of_bd1 h
  refine r_callSI (st := []) dX1_stepSouth_15 v_X1_69 (run_X1_canGoBetween ha1 hc5) (by decide) (by decide) rfl (Nat.le_of_ble_eq_true rfl) rfl ?_
  by_cases c7 : wr (bI b6) = 0
  · rw [if_pos c7] at h
    refine r_if_ne (tgt := 23) dX1_stepSouth_18 (by decide) (fun q => absurd c7 q) (fun _ => ?_)
    refine r_iconst dX1_stepSouth_21 ?_
    cases h
    exact hQ _ _ dX1_stepSouth_22
  · rw [if_neg c7] at h
    refine r_if_ne (tgt := 23) dX1_stepSouth_18 (by decide) (fun _ => ?_) (fun q => absurd q c7)
    refine r_iload_n dX1_stepSouth_23 rfl 2 rfl ?_
    refine r_iload_n dX1_stepSouth_24 rfl 3 rfl ?_
    refine r_iadd dX1_stepSouth_25 ?_
    refine r_iconst dX1_stepSouth_26 ?_
    refine r_iand dX1_stepSouth_27 ?_
    obtain ⟨v9, ev9, h⟩ := of_lt h
    have kJ : Ex G 1 cX1_stepSouth RX1 4 36 [] [vI v9] M := by
      cases h
      exact hQ _ _ dX1_stepSouth_36
    clear h
    by_cases c8 : wr (iand (a2 + a3) 1) = 0
    · skip
      refine r_if_ne (tgt := 35) dX1_stepSouth_28 (by decide) (fun q => absurd c8 q) (fun _ => ?_)
      refine r_iconst dX1_stepSouth_31 ?_
      refine r_goto (tgt := 36) dX1_stepSouth_32 (by decide) ?_
      rw [show v9 = 1 from by rw [ev9, if_pos c8]] at kJ
      refine r_sub (lv2 := []) [] rfl ?_
      exact kJ
    · skip
      refine r_if_ne (tgt := 35) dX1_stepSouth_28 (by decide) (fun _ => ?_) (fun q => absurd q c8)
      refine r_iconst dX1_stepSouth_35 ?_
      rw [show v9 = (-1) from by rw [ev9, if_neg c8]] at kJ
      refine r_sub (lv2 := []) [] rfl ?_
      exact kJ

def m_X1_stepFrom (M : Mem) (a1 : Nat) (a2 : Int) (a3 : Int) (a4 : Int) : Option (Int) :=
  if wr a4 = 0 then
    bd1 (m_X1_stepEast M a1 a2 a3) fun r3 =>
    some r3
  else
    if wr a4 = 1 then
      bd1 (m_X1_stepSouth M a1 a2 a3) fun r6 =>
      some r6
    else
      if wr a4 = 2 then
        bd1 (m_X1_stepEast M a1 (a2 - 1) a3) fun r9 =>
        some (-r9)
      else
        bd1 (m_X1_stepSouth M a1 a2 (a3 - 1)) fun r11 =>
        some (-r11)
set_option maxRecDepth 10000 in
theorem run_X1_stepFrom {M : Mem} {a1 : Nat} {a2 : Int} {a3 : Int} {a4 : Int} {r : Int}  (ha1 : (ly a1).1 = 8) (h : m_X1_stepFrom M a1 a2 a3 a4 = some r) : RunI 2 yX1_stepFrom cX1_stepFrom 5 (some .int) [vR 1, vR a1, vI a2, vI a3, vI a4] M r M := by
  refine runI_of (lv := [(0, vR 1), (1, vR a1), (2, vI a2), (3, vI a3), (4, vI a4)]) (by decide +kernel) (Or.inl rfl) (Nat.le_of_ble_eq_true rfl) rfl ?_
  intro G hQ
  unfold m_X1_stepFrom at h
  refine r_iload dX1_stepFrom_0 4 rfl ?_
  by_cases c1 : wr a4 = 0
  · rw [if_pos c1] at h
    refine r_tabIn (tgt := 28) dX1_stepFrom_2 0 (c1.trans rfl) (by decide) rfl (by decide) ?_
    refine r_aload_n dX1_stepFrom_28 rfl 0 rfl ?_
    refine r_aload_n dX1_stepFrom_29 rfl 1 rfl ?_
    refine r_iload_n dX1_stepFrom_30 rfl 2 rfl ?_
    refine r_iload_n dX1_stepFrom_31 rfl 3 rfl ?_
    obtain ⟨r3, hc2, h⟩ := of_bd1 h
    refine r_callSI (st := []) dX1_stepFrom_32 v_X1_59 (run_X1_stepEast ha1 hc2) (by decide) (by decide) rfl (Nat.le_of_ble_eq_true rfl) rfl ?_
    cases h
    exact hQ _ _ dX1_stepFrom_35
  · rw [if_neg c1] at h
    by_cases c4 : wr a4 = 1
    · rw [if_pos c4] at h
      refine r_tabIn (tgt := 36) dX1_stepFrom_2 1 (c4.trans rfl) (by decide) rfl (by decide) ?_
      refine r_aload_n dX1_stepFrom_36 rfl 0 rfl ?_
      refine r_aload_n dX1_stepFrom_37 rfl 1 rfl ?_
      refine r_iload_n dX1_stepFrom_38 rfl 2 rfl ?_
      refine r_iload_n dX1_stepFrom_39 rfl 3 rfl ?_
      obtain ⟨r6, hc5, h⟩ := of_bd1 h
      refine r_callSI (st := []) dX1_stepFrom_40 v_X1_63 (run_X1_stepSouth ha1 hc5) (by decide) (by decide) rfl (Nat.le_of_ble_eq_true rfl) rfl ?_
      cases h
      exact hQ _ _ dX1_stepFrom_43
    · rw [if_neg c4] at h
      by_cases c7 : wr a4 = 2
      · rw [if_pos c7] at h
        refine r_tabIn (tgt := 44) dX1_stepFrom_2 2 (c7.trans rfl) (by decide) rfl (by decide) ?_
        refine r_aload_n dX1_stepFrom_44 rfl 0 rfl ?_
        refine r_aload_n dX1_stepFrom_45 rfl 1 rfl ?_
        refine r_iload_n dX1_stepFrom_46 rfl 2 rfl ?_
        refine r_iconst dX1_stepFrom_47 ?_
        refine r_isub dX1_stepFrom_48 ?_
        refine r_iload_n dX1_stepFrom_49 rfl 3 rfl ?_
        obtain ⟨r9, hc8, h⟩ := of_bd1 h
        refine r_callSI (st := []) dX1_stepFrom_50 v_X1_59 (run_X1_stepEast ha1 hc8) (by decide) (by decide) rfl (Nat.le_of_ble_eq_true rfl) rfl ?_
        refine r_ineg dX1_stepFrom_53 ?_
        cases h
        exact hQ _ _ dX1_stepFrom_54
      · rw [if_neg c7] at h
        refine r_tabOut (tgt := 55) dX1_stepFrom_2 (by omega) (by decide) ?_
        refine r_aload_n dX1_stepFrom_55 rfl 0 rfl ?_
        refine r_aload_n dX1_stepFrom_56 rfl 1 rfl ?_
        refine r_iload_n dX1_stepFrom_57 rfl 2 rfl ?_
        refine r_iload_n dX1_stepFrom_58 rfl 3 rfl ?_
        refine r_iconst dX1_stepFrom_59 ?_
        refine r_isub dX1_stepFrom_60 ?_
        obtain ⟨r11, hc10, h⟩ := of_bd1 h
        refine r_callSI (st := []) dX1_stepFrom_61 v_X1_63 (run_X1_stepSouth ha1 hc10) (by decide) (by decide) rfl (Nat.le_of_ble_eq_true rfl) rfl ?_
        refine r_ineg dX1_stepFrom_64 ?_
        cases h
        exact hQ _ _ dX1_stepFrom_65

def m_X1_cornerBeside (a0 : Int) (a1 : Int) : Int :=
  if wr a1 = 0 then
    (a0 + 1)
  else
    if wr a1 = 1 then
      (a0 + 9)
    else
      if wr a1 = 2 then
        (a0 - 1)
      else
        (a0 - 9)
set_option maxRecDepth 10000 in
theorem run_X1_cornerBeside {M : Mem} {a0 : Int} {a1 : Int} {r : Int}   (h : m_X1_cornerBeside a0 a1 = r) : RunI 0 yX1_cornerBeside cX1_cornerBeside 2 (some .int) [vI a0, vI a1] M r M := by
  refine runI_of (lv := [(0, vI a0), (1, vI a1)]) (by decide +kernel) (Or.inl rfl) (Nat.le_of_ble_eq_true rfl) rfl ?_
  intro G hQ
  unfold m_X1_cornerBeside at h
  refine r_iload_n dX1_cornerBeside_0 rfl 1 rfl ?_
  by_cases c1 : wr a1 = 0
  · rw [if_pos c1] at h
    refine r_tabIn (tgt := 28) dX1_cornerBeside_1 0 (c1.trans rfl) (by decide) rfl (by decide) ?_
    refine r_iload_n dX1_cornerBeside_28 rfl 0 rfl ?_
    refine r_iconst dX1_cornerBeside_29 ?_
    refine r_iadd dX1_cornerBeside_30 ?_
    cases h
    exact hQ _ _ dX1_cornerBeside_31
  · rw [if_neg c1] at h
    by_cases c2 : wr a1 = 1
    · rw [if_pos c2] at h
      refine r_tabIn (tgt := 32) dX1_cornerBeside_1 1 (c2.trans rfl) (by decide) rfl (by decide) ?_
      refine r_iload_n dX1_cornerBeside_32 rfl 0 rfl ?_
      refine r_bipush dX1_cornerBeside_33 (by decide) ?_
      refine r_iadd dX1_cornerBeside_35 ?_
      cases h
      exact hQ _ _ dX1_cornerBeside_36
    · rw [if_neg c2] at h
      by_cases c3 : wr a1 = 2
      · rw [if_pos c3] at h
        refine r_tabIn (tgt := 37) dX1_cornerBeside_1 2 (c3.trans rfl) (by decide) rfl (by decide) ?_
        refine r_iload_n dX1_cornerBeside_37 rfl 0 rfl ?_
        refine r_iconst dX1_cornerBeside_38 ?_
        refine r_isub dX1_cornerBeside_39 ?_
        cases h
        exact hQ _ _ dX1_cornerBeside_40
      · rw [if_neg c3] at h
        refine r_tabOut (tgt := 41) dX1_cornerBeside_1 (by omega) (by decide) ?_
        refine r_iload_n dX1_cornerBeside_41 rfl 0 rfl ?_
        refine r_bipush dX1_cornerBeside_42 (by decide) ?_
        refine r_isub dX1_cornerBeside_44 ?_
        cases h
        exact hQ _ _ dX1_cornerBeside_45

def m_X1_measure_L15 (M : Mem) (p2 : Nat) (p3 : Nat) (x4 : Int) : Option ((Int × Mem) ⊕ (Int × Mem)) :=
  if wr 81 ≤ wr x4 then
    some (.inr (x4, M))
  else
    if wr (gI M 31 2) = 0 then
      bd1 (m_X10_isCorner M (irm x4 9) (idv x4 9)) fun b8 =>
      bd1 (
        if wr (bI b8) = 0 then
          some (M)
        else
          bd2 (m_X9_reach M 31 x4) fun b11 M12 =>
          some (M12)) fun (M13 : Mem) =>
      some (.inl ((x4 + 1), M13))
    else
      some (.inr (x4, M))
def m_X1_measure_L102 (M : Mem) (p2 : Nat) (p3 : Nat) (p4 : Int) (p5 : Int) (x6 : Int) : Option ((Int × Mem) ⊕ (Int × Mem)) :=
  if wr 4 ≤ wr x6 then
    some (.inr (x6, M))
  else
    bd1 (m_X1_stepFrom M p2 (irm p5 9) (idv p5 9) x6) fun r21 =>
    bd1 (
      if wr r21 = 0 then
        some (M)
      else
        if wr (m_X1_cornerBeside p5 x6) < 0 then
          some (M)
        else
          if wr (m_X1_cornerBeside p5 x6) < wr 81 then
            bd2 (m_X9_reach M 31 (m_X1_cornerBeside p5 x6)) fun b26 M27 =>
            if wr (bI b26) = 0 then
              some (M27)
            else
              if 0 ≤ wr p5 ∧ wr p5 < ((ly p3).2 : Int) then
              if 0 ≤ wr (m_X1_cornerBeside p5 x6) ∧ wr (m_X1_cornerBeside p5 x6) < ((ly p3).2 : Int) then
              lt (sI M27 p3 (wr (m_X1_cornerBeside p5 x6)) ((gI M27 p3 (wr p5)) + r21)) fun M31 =>
              some (M31)
              else none
              else none
          else
            some (M)) fun (M32 : Mem) =>
    some (.inl ((x6 + 1), M32))
def m_X1_measure_L68 (M : Mem) (p2 : Nat) (p3 : Nat) (x4 : Int) : Option ((Int × Mem) ⊕ (Int × Mem)) :=
  if wr 100 ≤ wr x4 then
    some (.inr (x4, M))
  else
    if wr (gI M 31 2) ≤ wr x4 then
      some (.inr (x4, M))
    else
      if 0 ≤ wr x4 ∧ wr x4 < 100 then
      bd2 (itr (fun s => m_X1_measure_L102 s.2 p2 p3 x4 (gI M 33 (wr x4)) s.1) FU (0, M)) fun y33 M34 =>
      some (.inl ((x4 + 1), M34))
      else none
def m_X1_measure (M : Mem) (a2 : Nat) (a3 : Nat) : Option (Mem) :=
  bd1 (m_J7_fill_53178 M a3 0) fun M2 =>
  bd1 (m_X9_clear M2 31) fun M4 =>
  bd2 (itr (fun s => m_X1_measure_L15 s.2 a2 a3 s.1) FU (0, M4)) fun y14 M15 =>
  bd2 (itr (fun s => m_X1_measure_L68 s.2 a2 a3 s.1) FU (0, M15)) fun y35 M36 =>
  some M36
set_option maxRecDepth 10000 in
theorem lp_X1_measure_L15 {G : Gx} (p2 : Nat) (p3 : Nat)  (hp2 : (ly p2).1 = 8) (hp3 : ly p3 = (0, (ly p3).2)) (X : (Int × Mem) → Prop) (hX1 : ∀ (x4 : Int) (M : Mem), X (x4, M) → Ex G 3 cX1_measure RX1 9 65 [(0, vR 28), (1, vR 1), (2, vR p2), (3, vR p3), (4, vI x4)] [] M) : ∀ (nn : Nat) (x4 : Int) (M : Mem) (out : Int × Mem), itr (fun s => m_X1_measure_L15 s.2 p2 p3 s.1) nn (x4, M) = some out → X out → Ex G 3 cX1_measure RX1 9 15 [(0, vR 28), (1, vR 1), (2, vR p2), (3, vR p3), (4, vI x4)] [] M := by
  intro nn
  induction nn with
  | zero =>
    intro x4 M out h _
    cases h
  | succ nn ih =>
    intro x4 M out h0 hX
    obtain ⟨w, h, k1, k2⟩ := itr_inv h0
    have h : m_X1_measure_L15 M p2 p3 x4 = some w := h
    unfold m_X1_measure_L15 at h
    refine r_iload dX1_measure_15 4 rfl ?_
    refine r_bipush dX1_measure_17 (by decide) ?_
    by_cases c5 : wr 81 ≤ wr x4
    · rw [if_pos c5] at h
      refine r_icmp_ge (tgt := 65) dX1_measure_19 (by decide) (fun _ => ?_) (fun q => absurd c5 q)
      cases h
      cases k2 _ rfl
      exact hX1 _ _ hX
    · rw [if_neg c5] at h
      refine r_icmp_ge (tgt := 65) dX1_measure_19 (by decide) (fun q => absurd q c5) (fun _ => ?_)
      refine r_aload_n dX1_measure_22 rfl 0 rfl ?_
      refine r_getR (j := 2) (v := 31) dX1_measure_23 f_X1_21 rfl rfl rfl ?_
      refine r_getI (j := 2) (jz := 2) dX1_measure_26 f_X1_34 rfl rfl rfl ?_
      by_cases c6 : wr (gI M 31 2) = 0
      · rw [if_pos c6] at h
        refine r_if_ne (tgt := 65) dX1_measure_29 (by decide) (fun q => absurd c6 q) (fun _ => ?_)
        refine r_aload_n dX1_measure_32 rfl 1 rfl ?_
        refine r_iload dX1_measure_33 4 rfl ?_
        refine r_bipush dX1_measure_35 (by decide) ?_
        refine r_irem dX1_measure_37 (by decide) ?_
        refine r_iload dX1_measure_38 4 rfl ?_
        refine r_bipush dX1_measure_40 (by decide) ?_
        refine r_idiv dX1_measure_42 (by decide) ?_
        obtain ⟨b8, hc7, h⟩ := of_bd1 h
        refine r_callVI (st := []) dX1_measure_43 v_X1_38 (run_X10_isCorner hc7) (by decide) (by decide) rfl rfl (Nat.le_of_ble_eq_true rfl) rfl ?_
        obtain ⟨M13, h9, h⟩ := of_bd1 h
        have kJ : Ex G 3 cX1_measure RX1 9 59 [(0, vR 28), (1, vR 1), (2, vR p2), (3, vR p3), (4, vI x4)] [] M13 := by
          refine r_iinc (lv2 := [(4, vI (x4 + 1)), (0, vR 28), (1, vR 1), (2, vR p2), (3, vR p3)]) dX1_measure_59 4 rfl (by decide) rfl ?_
          refine r_goto (tgt := 15) dX1_measure_62 (by decide) ?_
          refine r_sub (lv2 := [(0, vR 28), (1, vR 1), (2, vR p2), (3, vR p3), (4, vI (x4 + 1))]) [1, 2, 3, 4, 0] rfl ?_
          cases h
          exact ih _ _  _ (k1 _ rfl) hX
        clear h
        have h := h9
        clear h9
        by_cases c9 : wr (bI b8) = 0
        · rw [if_pos c9] at h
          refine r_if_eq (tgt := 59) dX1_measure_46 (by decide) (fun _ => ?_) (fun q => absurd c9 q)
          cases h
          exact kJ
        · rw [if_neg c9] at h
          refine r_if_eq (tgt := 59) dX1_measure_46 (by decide) (fun q => absurd q c9) (fun _ => ?_)
          refine r_aload_n dX1_measure_49 rfl 0 rfl ?_
          refine r_getR (j := 2) (v := 31) dX1_measure_50 f_X1_21 rfl rfl rfl ?_
          refine r_iload dX1_measure_53 4 rfl ?_
          obtain ⟨b11, M12, hc10, h⟩ := of_bd2 h
          refine r_callVI (st := []) dX1_measure_55 v_X1_44 (run_X9_reach rfl hc10) (by decide) (by decide) rfl rfl (Nat.le_of_ble_eq_true rfl) rfl ?_
          refine r_pop dX1_measure_58 rfl ?_
          cases h
          exact kJ
      · rw [if_neg c6] at h
        refine r_if_ne (tgt := 65) dX1_measure_29 (by decide) (fun _ => ?_) (fun q => absurd q c6)
        cases h
        cases k2 _ rfl
        exact hX1 _ _ hX

set_option maxRecDepth 10000 in
theorem lp_X1_measure_L102 {G : Gx} (p2 : Nat) (p3 : Nat) (p4 : Int) (p5 : Int)  (hp2 : (ly p2).1 = 8) (hp3 : ly p3 = (0, (ly p3).2)) (X : (Int × Mem) → Prop) (hX1 : ∀ (x6 : Int) (M : Mem), X (x6, M) → Ex G 3 cX1_measure RX1 9 185 [(0, vR 28), (1, vR 1), (2, vR p2), (3, vR p3), (4, vI p4), (5, vI p5), (6, vI x6)] [] M) : ∀ (nn : Nat) (x6 : Int) (M : Mem) (out : Int × Mem), itr (fun s => m_X1_measure_L102 s.2 p2 p3 p4 p5 s.1) nn (x6, M) = some out → X out → Ex G 3 cX1_measure RX1 9 102 [(0, vR 28), (1, vR 1), (2, vR p2), (3, vR p3), (4, vI p4), (5, vI p5), (6, vI x6)] [] M := by
  intro nn
  induction nn with
  | zero =>
    intro x6 M out h _
    cases h
  | succ nn ih =>
    intro x6 M out h0 hX
    obtain ⟨w, h, k1, k2⟩ := itr_inv h0
    have h : m_X1_measure_L102 M p2 p3 p4 p5 x6 = some w := h
    unfold m_X1_measure_L102 at h
    refine r_iload dX1_measure_102 6 rfl ?_
    refine r_iconst dX1_measure_104 ?_
    by_cases c19 : wr 4 ≤ wr x6
    · rw [if_pos c19] at h
      refine r_icmp_ge (tgt := 185) dX1_measure_105 (by decide) (fun _ => ?_) (fun q => absurd c19 q)
      cases h
      cases k2 _ rfl
      exact hX1 _ _ hX
    · rw [if_neg c19] at h
      refine r_icmp_ge (tgt := 185) dX1_measure_105 (by decide) (fun q => absurd q c19) (fun _ => ?_)
      refine r_aload_n dX1_measure_108 rfl 1 rfl ?_
      refine r_aload_n dX1_measure_109 rfl 2 rfl ?_
      refine r_iload dX1_measure_110 5 rfl ?_
      refine r_bipush dX1_measure_112 (by decide) ?_
      refine r_irem dX1_measure_114 (by decide) ?_
      refine r_iload dX1_measure_115 5 rfl ?_
      refine r_bipush dX1_measure_117 (by decide) ?_
      refine r_idiv dX1_measure_119 (by decide) ?_
      refine r_iload dX1_measure_120 6 rfl ?_
      obtain ⟨r21, hc20, h⟩ := of_bd1 h
      refine r_callSI (st := []) dX1_measure_122 v_X1_51 (run_X1_stepFrom hp2 hc20) (by decide) (by decide) rfl (Nat.le_of_ble_eq_true rfl) rfl ?_
      refine r_istore (lv2 := [(7, vI r21), (0, vR 28), (1, vR 1), (2, vR p2), (3, vR p3), (4, vI p4), (5, vI p5), (6, vI x6)]) dX1_measure_125 (by decide) rfl ?_
      refine r_iload dX1_measure_127 6 rfl ?_
      refine r_iload dX1_measure_129 7 rfl ?_
      refine r_callSI (st := []) dX1_measure_131 v_X1_55 (run_X1_cornerBeside rfl) (by decide) (by decide) rfl (Nat.le_of_ble_eq_true rfl) rfl ?_
      refine r_istore (lv2 := [(8, vI (m_X1_cornerBeside p5 x6)), (7, vI r21), (0, vR 28), (1, vR 1), (2, vR p2), (3, vR p3), (4, vI p4), (5, vI p5), (6, vI x6)]) dX1_measure_134 (by decide) rfl ?_
      refine r_iload dX1_measure_136 1 rfl ?_
      obtain ⟨M32, h9, h⟩ := of_bd1 h
      have kJ : Ex G 3 cX1_measure RX1 9 179 [(0, vR 28), (1, vR 1), (2, vR p2), (3, vR p3), (4, vI p4), (5, vI p5), (6, vI x6)] [] M32 := by
        refine r_iinc (lv2 := [(6, vI (x6 + 1)), (0, vR 28), (1, vR 1), (2, vR p2), (3, vR p3), (4, vI p4), (5, vI p5)]) dX1_measure_179 6 rfl (by decide) rfl ?_
        refine r_goto (tgt := 102) dX1_measure_182 (by decide) ?_
        refine r_sub (lv2 := [(0, vR 28), (1, vR 1), (2, vR p2), (3, vR p3), (4, vI p4), (5, vI p5), (6, vI (x6 + 1))]) [1, 2, 3, 4, 5, 6, 0] rfl ?_
        cases h
        exact ih _ _  _ (k1 _ rfl) hX
      clear h
      have h := h9
      clear h9
      by_cases c22 : wr r21 = 0
      · rw [if_pos c22] at h
        refine r_if_eq (tgt := 179) dX1_measure_138 (by decide) (fun _ => ?_) (fun q => absurd c22 q)
        refine r_sub (lv2 := [(0, vR 28), (1, vR 1), (2, vR p2), (3, vR p3), (4, vI p4), (5, vI p5), (6, vI x6)]) [2, 3, 4, 5, 6, 7, 8] rfl ?_
        cases h
        exact kJ
      · rw [if_neg c22] at h
        refine r_if_eq (tgt := 179) dX1_measure_138 (by decide) (fun q => absurd q c22) (fun _ => ?_)
        refine r_iload dX1_measure_141 0 rfl ?_
        by_cases c23 : wr (m_X1_cornerBeside p5 x6) < 0
        · rw [if_pos c23] at h
          refine r_if_lt (tgt := 179) dX1_measure_143 (by decide) (fun _ => ?_) (fun q => absurd c23 q)
          refine r_sub (lv2 := [(0, vR 28), (1, vR 1), (2, vR p2), (3, vR p3), (4, vI p4), (5, vI p5), (6, vI x6)]) [2, 3, 4, 5, 6, 7, 8] rfl ?_
          cases h
          exact kJ
        · rw [if_neg c23] at h
          refine r_if_lt (tgt := 179) dX1_measure_143 (by decide) (fun q => absurd q c23) (fun _ => ?_)
          refine r_iload dX1_measure_146 0 rfl ?_
          refine r_bipush dX1_measure_148 (by decide) ?_
          by_cases c24 : wr (m_X1_cornerBeside p5 x6) < wr 81
          · rw [if_pos c24] at h
            refine r_icmp_lt (tgt := 156) dX1_measure_150 (by decide) (fun _ => ?_) (fun q => absurd c24 q)
            refine r_aload_n dX1_measure_156 rfl 2 rfl ?_
            refine r_getR (j := 2) (v := 31) dX1_measure_157 f_X1_21 rfl rfl rfl ?_
            refine r_iload dX1_measure_160 0 rfl ?_
            obtain ⟨b26, M27, hc25, h⟩ := of_bd2 h
            refine r_callVI (st := []) dX1_measure_162 v_X1_44 (run_X9_reach rfl hc25) (by decide) (by decide) rfl rfl (Nat.le_of_ble_eq_true rfl) rfl ?_
            by_cases c28 : wr (bI b26) = 0
            · rw [if_pos c28] at h
              refine r_if_eq (tgt := 179) dX1_measure_165 (by decide) (fun _ => ?_) (fun q => absurd c28 q)
              refine r_sub (lv2 := [(0, vR 28), (1, vR 1), (2, vR p2), (3, vR p3), (4, vI p4), (5, vI p5), (6, vI x6)]) [2, 3, 4, 5, 6, 7, 8] rfl ?_
              cases h
              exact kJ
            · rw [if_neg c28] at h
              refine r_if_eq (tgt := 179) dX1_measure_165 (by decide) (fun q => absurd q c28) (fun _ => ?_)
              refine r_aload_n dX1_measure_168 rfl 5 rfl ?_
              refine r_iload dX1_measure_169 0 rfl ?_
              refine r_aload_n dX1_measure_171 rfl 5 rfl ?_
              refine r_iload dX1_measure_172 7 rfl ?_
              obtain ⟨c29, h⟩ := of_ck h
              refine r_iald dX1_measure_174 hp3 c29 ?_
              refine r_iload dX1_measure_175 1 rfl ?_
              refine r_iadd dX1_measure_177 ?_
              obtain ⟨c30, h⟩ := of_ck h
              obtain ⟨M31, eM31, h⟩ := of_lt h
              refine r_iast dX1_measure_178 hp3 c30 ?_
              rw [← eM31]
              refine r_sub (lv2 := [(0, vR 28), (1, vR 1), (2, vR p2), (3, vR p3), (4, vI p4), (5, vI p5), (6, vI x6)]) [2, 3, 4, 5, 6, 7, 8] rfl ?_
              cases h
              exact kJ
          · rw [if_neg c24] at h
            refine r_icmp_lt (tgt := 156) dX1_measure_150 (by decide) (fun q => absurd q c24) (fun _ => ?_)
            refine r_goto (tgt := 179) dX1_measure_153 (by decide) ?_
            refine r_sub (lv2 := [(0, vR 28), (1, vR 1), (2, vR p2), (3, vR p3), (4, vI p4), (5, vI p5), (6, vI x6)]) [2, 3, 4, 5, 6, 7, 8] rfl ?_
            cases h
            exact kJ

set_option maxRecDepth 10000 in
theorem lp_X1_measure_L68 {G : Gx} (p2 : Nat) (p3 : Nat)  (hp2 : (ly p2).1 = 8) (hp3 : ly p3 = (0, (ly p3).2)) (X : (Int × Mem) → Prop) (hX1 : ∀ (x4 : Int) (M : Mem), X (x4, M) → Ex G 3 cX1_measure RX1 9 191 [(0, vR 28), (1, vR 1), (2, vR p2), (3, vR p3), (4, vI x4)] [] M) : ∀ (nn : Nat) (x4 : Int) (M : Mem) (out : Int × Mem), itr (fun s => m_X1_measure_L68 s.2 p2 p3 s.1) nn (x4, M) = some out → X out → Ex G 3 cX1_measure RX1 9 68 [(0, vR 28), (1, vR 1), (2, vR p2), (3, vR p3), (4, vI x4)] [] M := by
  intro nn
  induction nn with
  | zero =>
    intro x4 M out h _
    cases h
  | succ nn ih =>
    intro x4 M out h0 hX
    obtain ⟨w, h, k1, k2⟩ := itr_inv h0
    have h : m_X1_measure_L68 M p2 p3 x4 = some w := h
    unfold m_X1_measure_L68 at h
    refine r_iload dX1_measure_68 4 rfl ?_
    refine r_bipush dX1_measure_70 (by decide) ?_
    by_cases c16 : wr 100 ≤ wr x4
    · rw [if_pos c16] at h
      refine r_icmp_ge (tgt := 191) dX1_measure_72 (by decide) (fun _ => ?_) (fun q => absurd c16 q)
      cases h
      cases k2 _ rfl
      exact hX1 _ _ hX
    · rw [if_neg c16] at h
      refine r_icmp_ge (tgt := 191) dX1_measure_72 (by decide) (fun q => absurd q c16) (fun _ => ?_)
      refine r_iload dX1_measure_75 4 rfl ?_
      refine r_aload_n dX1_measure_77 rfl 0 rfl ?_
      refine r_getR (j := 2) (v := 31) dX1_measure_78 f_X1_21 rfl rfl rfl ?_
      refine r_getI (j := 2) (jz := 2) dX1_measure_81 f_X1_34 rfl rfl rfl ?_
      by_cases c17 : wr (gI M 31 2) ≤ wr x4
      · rw [if_pos c17] at h
        refine r_icmp_ge (tgt := 191) dX1_measure_84 (by decide) (fun _ => ?_) (fun q => absurd c17 q)
        cases h
        cases k2 _ rfl
        exact hX1 _ _ hX
      · rw [if_neg c17] at h
        refine r_icmp_ge (tgt := 191) dX1_measure_84 (by decide) (fun q => absurd q c17) (fun _ => ?_)
        refine r_aload_n dX1_measure_87 rfl 0 rfl ?_
        refine r_getR (j := 2) (v := 31) dX1_measure_88 f_X1_21 rfl rfl rfl ?_
        refine r_getR (j := 1) (v := 33) dX1_measure_91 f_X1_48 rfl rfl rfl ?_
        refine r_iload dX1_measure_94 4 rfl ?_
        obtain ⟨c18, h⟩ := of_ck h
        refine r_iald dX1_measure_96 rfl c18 ?_
        refine r_istore (lv2 := [(5, vI (gI M 33 (wr x4))), (0, vR 28), (1, vR 1), (2, vR p2), (3, vR p3), (4, vI x4)]) dX1_measure_97 (by decide) rfl ?_
        refine r_iconst dX1_measure_99 ?_
        refine r_istore (lv2 := [(6, vI 0), (5, vI (gI M 33 (wr x4))), (0, vR 28), (1, vR 1), (2, vR p2), (3, vR p3), (4, vI x4)]) dX1_measure_100 (by decide) rfl ?_
        obtain ⟨y33, M34, h9, h⟩ := of_bd2 h
        refine r_sub (lv2 := [(0, vR 28), (1, vR 1), (2, vR p2), (3, vR p3), (4, vI x4), (5, vI (gI M 33 (wr x4))), (6, vI 0)]) [2, 3, 4, 5, 6, 1, 0] rfl ?_
        refine lp_X1_measure_L102 p2 p3 x4 (gI M 33 (wr x4)) hp2 hp3 (fun w => w = (y33, M34)) ?_ FU 0 M _ h9 rfl
        intro z0 z1 hw
        cases hw
        refine r_iinc (lv2 := [(4, vI (x4 + 1)), (0, vR 28), (1, vR 1), (2, vR p2), (3, vR p3), (5, vI (gI M 33 (wr x4))), (6, vI y33)]) dX1_measure_185 4 rfl (by decide) rfl ?_
        refine r_goto (tgt := 68) dX1_measure_188 (by decide) ?_
        refine r_sub (lv2 := [(0, vR 28), (1, vR 1), (2, vR p2), (3, vR p3), (4, vI (x4 + 1))]) [1, 2, 3, 4, 0] rfl ?_
        cases h
        exact ih _ _  _ (k1 _ rfl) hX

set_option maxRecDepth 10000 in
theorem run_X1_measure {M : Mem} {M2 : Mem} {a2 : Nat} {a3 : Nat}  (ha2 : (ly a2).1 = 8) (ha3 : (ly a3).1 = 0) (h : m_X1_measure M a2 a3 = some (M2)) : RunV 3 yX1_measure cX1_measure 9 none [vR 28, vR 1, vR a2, vR a3] M M2 := by
  refine runV_of (lv := [(0, vR 28), (1, vR 1), (2, vR a2), (3, vR a3)]) (by decide +kernel) rfl (Nat.le_of_ble_eq_true rfl) rfl ?_
  intro G hQ
  unfold m_X1_measure at h
  refine r_aload_n dX1_measure_0 rfl 3 rfl ?_
  refine r_iconst dX1_measure_1 ?_
  obtain ⟨M2, hc1, h⟩ := of_bd1 h
  refine r_callSV (st := []) dX1_measure_2 v_X1_25 (run_J7_fill_53178 (congrArg Prod.fst (ly_t ha3)) hc1) (by decide) (by decide) rfl (Nat.le_of_ble_eq_true rfl) rfl ?_
  refine r_aload_n dX1_measure_5 rfl 0 rfl ?_
  refine r_getR (j := 2) (v := 31) dX1_measure_6 f_X1_21 rfl rfl rfl ?_
  obtain ⟨M4, hc3, h⟩ := of_bd1 h
  refine r_callVV (st := []) dX1_measure_9 v_X1_31 (run_X9_clear rfl hc3) (by decide) (by decide) rfl rfl (Nat.le_of_ble_eq_true rfl) rfl ?_
  refine r_iconst dX1_measure_12 ?_
  refine r_istore (lv2 := [(4, vI 0), (0, vR 28), (1, vR 1), (2, vR a2), (3, vR a3)]) dX1_measure_13 (by decide) rfl ?_
  obtain ⟨y14, M15, h9, h⟩ := of_bd2 h
  refine r_sub (lv2 := [(0, vR 28), (1, vR 1), (2, vR a2), (3, vR a3), (4, vI 0)]) [1, 2, 3, 4, 0] rfl ?_
  refine lp_X1_measure_L15 a2 a3 ha2 (ly_t ha3) (fun w => w = (y14, M15)) ?_ FU 0 M4 _ h9 rfl
  intro z0 z1 hw
  cases hw
  refine r_iconst dX1_measure_65 ?_
  refine r_istore (lv2 := [(4, vI 0), (0, vR 28), (1, vR 1), (2, vR a2), (3, vR a3)]) dX1_measure_66 (by decide) rfl ?_
  obtain ⟨y35, M36, h9, h⟩ := of_bd2 h
  refine r_sub (lv2 := [(0, vR 28), (1, vR 1), (2, vR a2), (3, vR a3), (4, vI 0)]) [1, 2, 3, 4, 0] rfl ?_
  refine lp_X1_measure_L68 a2 a3 ha2 (ly_t ha3) (fun w => w = (y35, M36)) ?_ FU 0 M15 _ h9 rfl
  intro z0 z1 hw
  cases hw
  cases h
  exact hQ _ _ dX1_measure_191

def m_X1_wayOfTurn (M : Mem) (a2 : Nat) (a3 : Int) (a4 : Int) : Option (Int) :=
  bd1 (m_X10_openAt M (a3 - 1) (a4 - 1)) fun r2 =>
  bd1 (m_X10_openAt M a3 (a4 - 1)) fun r4 =>
  bd1 (m_X10_openAt M (a3 - 1) a4) fun r6 =>
  bd1 (m_X10_openAt M a3 a4) fun r8 =>
  if wr r2 < 0 then
    some (-1)
  else
    if wr r4 < 0 then
      some (-1)
    else
      if wr r6 < 0 then
        some (-1)
      else
        if 0 ≤ wr r8 then
          if 0 ≤ wr r2 ∧ wr r2 < 64 then
          if 0 ≤ wr r4 ∧ wr r4 < 64 then
          if wr (gI M (a2 + 1) (wr r2)) = wr (gI M (a2 + 1) (wr r4)) then
            if 0 ≤ wr r6 ∧ wr r6 < 64 then
            if 0 ≤ wr r8 ∧ wr r8 < 64 then
            if wr (gI M (a2 + 1) (wr r6)) = wr (gI M (a2 + 1) (wr r8)) then
              some (iand (a3 + a4) 1)
            else
              if wr (gI M (a2 + 1) (wr r2)) = wr (gI M (a2 + 1) (wr r6)) then
                if wr (gI M (a2 + 1) (wr r4)) = wr (gI M (a2 + 1) (wr r8)) then
                  some (1 - (iand (a3 + a4) 1))
                else
                  some (-1)
              else
                some (-1)
            else none
            else none
          else
            if 0 ≤ wr r6 ∧ wr r6 < 64 then
            if wr (gI M (a2 + 1) (wr r2)) = wr (gI M (a2 + 1) (wr r6)) then
              if 0 ≤ wr r8 ∧ wr r8 < 64 then
              if wr (gI M (a2 + 1) (wr r4)) = wr (gI M (a2 + 1) (wr r8)) then
                some (1 - (iand (a3 + a4) 1))
              else
                some (-1)
              else none
            else
              some (-1)
            else none
          else none
          else none
        else
          some (-1)
set_option maxRecDepth 10000 in
theorem run_X1_wayOfTurn {M : Mem} {a2 : Nat} {a3 : Int} {a4 : Int} {r : Int}  (ha2 : (ly a2).1 = 8) (h : m_X1_wayOfTurn M a2 a3 a4 = some r) : RunI 1 yX1_wayOfTurn cX1_wayOfTurn 10 (some .int) [vR 28, vR 1, vR a2, vI a3, vI a4] M r M := by
  refine runI_of (lv := [(0, vR 28), (1, vR 1), (2, vR a2), (3, vI a3), (4, vI a4)]) (by decide +kernel) (Or.inl rfl) (Nat.le_of_ble_eq_true rfl) rfl ?_
  intro G hQ
  unfold m_X1_wayOfTurn at h
  refine r_aload_n dX1_wayOfTurn_0 rfl 1 rfl ?_
  refine r_iload_n dX1_wayOfTurn_1 rfl 3 rfl ?_
  refine r_iconst dX1_wayOfTurn_2 ?_
  refine r_isub dX1_wayOfTurn_3 ?_
  refine r_iload dX1_wayOfTurn_4 4 rfl ?_
  refine r_iconst dX1_wayOfTurn_6 ?_
  refine r_isub dX1_wayOfTurn_7 ?_
  obtain ⟨r2, hc1, h⟩ := of_bd1 h
  refine r_callVI (st := []) dX1_wayOfTurn_8 v_X1_66 (run_X10_openAt hc1) (by decide) (by decide) rfl rfl (Nat.le_of_ble_eq_true rfl) rfl ?_
  refine r_istore (lv2 := [(5, vI r2), (0, vR 28), (1, vR 1), (2, vR a2), (3, vI a3), (4, vI a4)]) dX1_wayOfTurn_11 (by decide) rfl ?_
  refine r_aload_n dX1_wayOfTurn_13 rfl 2 rfl ?_
  refine r_iload_n dX1_wayOfTurn_14 rfl 4 rfl ?_
  refine r_iload dX1_wayOfTurn_15 5 rfl ?_
  refine r_iconst dX1_wayOfTurn_17 ?_
  refine r_isub dX1_wayOfTurn_18 ?_
  obtain ⟨r4, hc3, h⟩ := of_bd1 h
  refine r_callVI (st := []) dX1_wayOfTurn_19 v_X1_66 (run_X10_openAt hc3) (by decide) (by decide) rfl rfl (Nat.le_of_ble_eq_true rfl) rfl ?_
  refine r_istore (lv2 := [(6, vI r4), (5, vI r2), (0, vR 28), (1, vR 1), (2, vR a2), (3, vI a3), (4, vI a4)]) dX1_wayOfTurn_22 (by decide) rfl ?_
  refine r_aload_n dX1_wayOfTurn_24 rfl 3 rfl ?_
  refine r_iload_n dX1_wayOfTurn_25 rfl 5 rfl ?_
  refine r_iconst dX1_wayOfTurn_26 ?_
  refine r_isub dX1_wayOfTurn_27 ?_
  refine r_iload dX1_wayOfTurn_28 6 rfl ?_
  obtain ⟨r6, hc5, h⟩ := of_bd1 h
  refine r_callVI (st := []) dX1_wayOfTurn_30 v_X1_66 (run_X10_openAt hc5) (by decide) (by decide) rfl rfl (Nat.le_of_ble_eq_true rfl) rfl ?_
  refine r_istore (lv2 := [(7, vI r6), (6, vI r4), (5, vI r2), (0, vR 28), (1, vR 1), (2, vR a2), (3, vI a3), (4, vI a4)]) dX1_wayOfTurn_33 (by decide) rfl ?_
  refine r_aload_n dX1_wayOfTurn_35 rfl 4 rfl ?_
  refine r_iload_n dX1_wayOfTurn_36 rfl 6 rfl ?_
  refine r_iload dX1_wayOfTurn_37 7 rfl ?_
  obtain ⟨r8, hc7, h⟩ := of_bd1 h
  refine r_callVI (st := []) dX1_wayOfTurn_39 v_X1_66 (run_X10_openAt hc7) (by decide) (by decide) rfl rfl (Nat.le_of_ble_eq_true rfl) rfl ?_
  refine r_istore (lv2 := [(8, vI r8), (7, vI r6), (6, vI r4), (5, vI r2), (0, vR 28), (1, vR 1), (2, vR a2), (3, vI a3), (4, vI a4)]) dX1_wayOfTurn_42 (by decide) rfl ?_
  refine r_iload dX1_wayOfTurn_44 3 rfl ?_
  by_cases c9 : wr r2 < 0
  · rw [if_pos c9] at h
    refine r_if_lt (tgt := 64) dX1_wayOfTurn_46 (by decide) (fun _ => ?_) (fun q => absurd c9 q)
    refine r_iconst dX1_wayOfTurn_64 ?_
    cases h
    exact hQ _ _ dX1_wayOfTurn_65
  · rw [if_neg c9] at h
    refine r_if_lt (tgt := 64) dX1_wayOfTurn_46 (by decide) (fun q => absurd q c9) (fun _ => ?_)
    refine r_iload dX1_wayOfTurn_49 2 rfl ?_
    by_cases c10 : wr r4 < 0
    · rw [if_pos c10] at h
      refine r_if_lt (tgt := 64) dX1_wayOfTurn_51 (by decide) (fun _ => ?_) (fun q => absurd c10 q)
      refine r_iconst dX1_wayOfTurn_64 ?_
      cases h
      exact hQ _ _ dX1_wayOfTurn_65
    · rw [if_neg c10] at h
      refine r_if_lt (tgt := 64) dX1_wayOfTurn_51 (by decide) (fun q => absurd q c10) (fun _ => ?_)
      refine r_iload dX1_wayOfTurn_54 1 rfl ?_
      by_cases c11 : wr r6 < 0
      · rw [if_pos c11] at h
        refine r_if_lt (tgt := 64) dX1_wayOfTurn_56 (by decide) (fun _ => ?_) (fun q => absurd c11 q)
        refine r_iconst dX1_wayOfTurn_64 ?_
        cases h
        exact hQ _ _ dX1_wayOfTurn_65
      · rw [if_neg c11] at h
        refine r_if_lt (tgt := 64) dX1_wayOfTurn_56 (by decide) (fun q => absurd q c11) (fun _ => ?_)
        refine r_iload dX1_wayOfTurn_59 0 rfl ?_
        by_cases c12 : 0 ≤ wr r8
        · rw [if_pos c12] at h
          refine r_if_ge (tgt := 66) dX1_wayOfTurn_61 (by decide) (fun _ => ?_) (fun q => absurd c12 q)
          refine r_aload_n dX1_wayOfTurn_66 rfl 6 rfl ?_
          refine r_getR (j := 1) (v := (a2 + 1)) dX1_wayOfTurn_67 f_X1_73 ha2 rfl (pav_on ha2).1 ?_
          refine r_astore (lv2 := [(9, vR (a2 + 1)), (8, vI r8), (7, vI r6), (6, vI r4), (5, vI r2), (0, vR 28), (1, vR 1), (2, vR a2), (3, vI a3), (4, vI a4)]) dX1_wayOfTurn_70 (by decide) rfl ?_
          refine r_aload dX1_wayOfTurn_72 0 rfl ?_
          refine r_iload dX1_wayOfTurn_74 4 rfl ?_
          obtain ⟨c13, h⟩ := of_ck h
          refine r_iald dX1_wayOfTurn_76 (pav_on (M := M) ha2).2 c13 ?_
          refine r_aload dX1_wayOfTurn_77 0 rfl ?_
          refine r_iload dX1_wayOfTurn_79 3 rfl ?_
          obtain ⟨c14, h⟩ := of_ck h
          refine r_iald dX1_wayOfTurn_81 (pav_on (M := M) ha2).2 c14 ?_
          by_cases c15 : wr (gI M (a2 + 1) (wr r2)) = wr (gI M (a2 + 1) (wr r4))
          · rw [if_pos c15] at h
            refine r_icmp_ne (tgt := 105) dX1_wayOfTurn_82 (by decide) (fun q => absurd c15 q) (fun _ => ?_)
            refine r_aload dX1_wayOfTurn_85 0 rfl ?_
            refine r_iload dX1_wayOfTurn_87 2 rfl ?_
            obtain ⟨c20, h⟩ := of_ck h
            refine r_iald dX1_wayOfTurn_89 (pav_on (M := M) ha2).2 c20 ?_
            refine r_aload dX1_wayOfTurn_90 0 rfl ?_
            refine r_iload dX1_wayOfTurn_92 1 rfl ?_
            obtain ⟨c21, h⟩ := of_ck h
            refine r_iald dX1_wayOfTurn_94 (pav_on (M := M) ha2).2 c21 ?_
            by_cases c22 : wr (gI M (a2 + 1) (wr r6)) = wr (gI M (a2 + 1) (wr r8))
            · rw [if_pos c22] at h
              refine r_icmp_ne (tgt := 105) dX1_wayOfTurn_95 (by decide) (fun q => absurd c22 q) (fun _ => ?_)
              refine r_iload_n dX1_wayOfTurn_98 rfl 8 rfl ?_
              refine r_iload dX1_wayOfTurn_99 9 rfl ?_
              refine r_iadd dX1_wayOfTurn_101 ?_
              refine r_iconst dX1_wayOfTurn_102 ?_
              refine r_iand dX1_wayOfTurn_103 ?_
              cases h
              exact hQ _ _ dX1_wayOfTurn_104
            · rw [if_neg c22] at h
              refine r_icmp_ne (tgt := 105) dX1_wayOfTurn_95 (by decide) (fun _ => ?_) (fun q => absurd q c22)
              refine r_aload dX1_wayOfTurn_105 0 rfl ?_
              refine r_iload dX1_wayOfTurn_107 4 rfl ?_
              refine r_iald dX1_wayOfTurn_109 (pav_on (M := M) ha2).2 c13 ?_
              refine r_aload dX1_wayOfTurn_110 0 rfl ?_
              refine r_iload dX1_wayOfTurn_112 2 rfl ?_
              refine r_iald dX1_wayOfTurn_114 (pav_on (M := M) ha2).2 c20 ?_
              by_cases c23 : wr (gI M (a2 + 1) (wr r2)) = wr (gI M (a2 + 1) (wr r6))
              · rw [if_pos c23] at h
                refine r_icmp_ne (tgt := 140) dX1_wayOfTurn_115 (by decide) (fun q => absurd c23 q) (fun _ => ?_)
                refine r_aload dX1_wayOfTurn_118 0 rfl ?_
                refine r_iload dX1_wayOfTurn_120 3 rfl ?_
                refine r_iald dX1_wayOfTurn_122 (pav_on (M := M) ha2).2 c14 ?_
                refine r_aload dX1_wayOfTurn_123 0 rfl ?_
                refine r_iload dX1_wayOfTurn_125 1 rfl ?_
                refine r_iald dX1_wayOfTurn_127 (pav_on (M := M) ha2).2 c21 ?_
                by_cases c24 : wr (gI M (a2 + 1) (wr r4)) = wr (gI M (a2 + 1) (wr r8))
                · rw [if_pos c24] at h
                  refine r_icmp_ne (tgt := 140) dX1_wayOfTurn_128 (by decide) (fun q => absurd c24 q) (fun _ => ?_)
                  refine r_iconst dX1_wayOfTurn_131 ?_
                  refine r_iload_n dX1_wayOfTurn_132 rfl 8 rfl ?_
                  refine r_iload dX1_wayOfTurn_133 9 rfl ?_
                  refine r_iadd dX1_wayOfTurn_135 ?_
                  refine r_iconst dX1_wayOfTurn_136 ?_
                  refine r_iand dX1_wayOfTurn_137 ?_
                  refine r_isub dX1_wayOfTurn_138 ?_
                  cases h
                  exact hQ _ _ dX1_wayOfTurn_139
                · rw [if_neg c24] at h
                  refine r_icmp_ne (tgt := 140) dX1_wayOfTurn_128 (by decide) (fun _ => ?_) (fun q => absurd q c24)
                  refine r_iconst dX1_wayOfTurn_140 ?_
                  cases h
                  exact hQ _ _ dX1_wayOfTurn_141
              · rw [if_neg c23] at h
                refine r_icmp_ne (tgt := 140) dX1_wayOfTurn_115 (by decide) (fun _ => ?_) (fun q => absurd q c23)
                refine r_iconst dX1_wayOfTurn_140 ?_
                cases h
                exact hQ _ _ dX1_wayOfTurn_141
          · rw [if_neg c15] at h
            refine r_icmp_ne (tgt := 105) dX1_wayOfTurn_82 (by decide) (fun _ => ?_) (fun q => absurd q c15)
            refine r_aload dX1_wayOfTurn_105 0 rfl ?_
            refine r_iload dX1_wayOfTurn_107 4 rfl ?_
            refine r_iald dX1_wayOfTurn_109 (pav_on (M := M) ha2).2 c13 ?_
            refine r_aload dX1_wayOfTurn_110 0 rfl ?_
            refine r_iload dX1_wayOfTurn_112 2 rfl ?_
            obtain ⟨c16, h⟩ := of_ck h
            refine r_iald dX1_wayOfTurn_114 (pav_on (M := M) ha2).2 c16 ?_
            by_cases c17 : wr (gI M (a2 + 1) (wr r2)) = wr (gI M (a2 + 1) (wr r6))
            · rw [if_pos c17] at h
              refine r_icmp_ne (tgt := 140) dX1_wayOfTurn_115 (by decide) (fun q => absurd c17 q) (fun _ => ?_)
              refine r_aload dX1_wayOfTurn_118 0 rfl ?_
              refine r_iload dX1_wayOfTurn_120 3 rfl ?_
              refine r_iald dX1_wayOfTurn_122 (pav_on (M := M) ha2).2 c14 ?_
              refine r_aload dX1_wayOfTurn_123 0 rfl ?_
              refine r_iload dX1_wayOfTurn_125 1 rfl ?_
              obtain ⟨c18, h⟩ := of_ck h
              refine r_iald dX1_wayOfTurn_127 (pav_on (M := M) ha2).2 c18 ?_
              by_cases c19 : wr (gI M (a2 + 1) (wr r4)) = wr (gI M (a2 + 1) (wr r8))
              · rw [if_pos c19] at h
                refine r_icmp_ne (tgt := 140) dX1_wayOfTurn_128 (by decide) (fun q => absurd c19 q) (fun _ => ?_)
                refine r_iconst dX1_wayOfTurn_131 ?_
                refine r_iload_n dX1_wayOfTurn_132 rfl 8 rfl ?_
                refine r_iload dX1_wayOfTurn_133 9 rfl ?_
                refine r_iadd dX1_wayOfTurn_135 ?_
                refine r_iconst dX1_wayOfTurn_136 ?_
                refine r_iand dX1_wayOfTurn_137 ?_
                refine r_isub dX1_wayOfTurn_138 ?_
                cases h
                exact hQ _ _ dX1_wayOfTurn_139
              · rw [if_neg c19] at h
                refine r_icmp_ne (tgt := 140) dX1_wayOfTurn_128 (by decide) (fun _ => ?_) (fun q => absurd q c19)
                refine r_iconst dX1_wayOfTurn_140 ?_
                cases h
                exact hQ _ _ dX1_wayOfTurn_141
            · rw [if_neg c17] at h
              refine r_icmp_ne (tgt := 140) dX1_wayOfTurn_115 (by decide) (fun _ => ?_) (fun q => absurd q c17)
              refine r_iconst dX1_wayOfTurn_140 ?_
              cases h
              exact hQ _ _ dX1_wayOfTurn_141
        · rw [if_neg c12] at h
          refine r_if_ge (tgt := 66) dX1_wayOfTurn_61 (by decide) (fun q => absurd q c12) (fun _ => ?_)
          refine r_iconst dX1_wayOfTurn_64 ?_
          cases h
          exact hQ _ _ dX1_wayOfTurn_65

