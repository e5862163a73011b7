def m_X12_init_L202 (M : Mem)  (x1 : Int) : Option ((Int × Mem) ⊕ (Int × Mem)) :=
  if wr 4 ≤ wr x1 then
    some (.inr (x1, M))
  else
    if 0 ≤ wr x1 ∧ wr x1 < 4 then
    lt (sI M 76 (wr x1) (-1)) fun M3 =>
    some (.inl ((x1 + 1), M3))
    else none
def m_X12_init (M : Mem) : Option (Mem) :=
  bd2 (itr (fun s => m_X12_init_L202 s.2  s.1) FU (0, M)) fun y4 M5 =>
  bd1 (m_X12_begins M5 4 4) fun M7 =>
  some M7
set_option maxRecDepth 10000 in
theorem lp_X12_init_L202 {G : Gx}    (X : (Int × Mem) → Prop) (hX1 : ∀ (x1 : Int) (M : Mem), X (x1, M) → Ex G 4 cX12_init RX12 2 220 [(0, vR 55), (1, vI x1)] [] M) : ∀ (nn : Nat) (x1 : Int) (M : Mem) (out : Int × Mem), itr (fun s => m_X12_init_L202 s.2  s.1) nn (x1, M) = some out → X out → Ex G 4 cX12_init RX12 2 202 [(0, vR 55), (1, vI x1)] [] M := by
  intro nn
  induction nn with
  | zero =>
    intro x1 M out h _
    cases h
  | succ nn ih =>
    intro x1 M out h0 hX
    obtain ⟨w, h, k1, k2⟩ := itr_inv h0
    have h : m_X12_init_L202 M  x1 = some w := h
    unfold m_X12_init_L202 at h
    refine r_iload_n dX12_init_202 rfl 1 rfl ?_
    refine r_iconst dX12_init_203 ?_
    by_cases c1 : wr 4 ≤ wr x1
    · rw [if_pos c1] at h
      refine r_icmp_ge (tgt := 220) dX12_init_204 (by decide) (fun _ => ?_) (fun q => absurd c1 q)
      cases h
      cases k2 _ rfl
      exact hX1 _ _ hX
    · rw [if_neg c1] at h
      refine r_icmp_ge (tgt := 220) dX12_init_204 (by decide) (fun q => absurd q c1) (fun _ => ?_)
      refine r_aload_n dX12_init_207 rfl 0 rfl ?_
      refine r_getR (j := 24) (v := 76) dX12_init_208 f_X12_72 rfl rfl rfl ?_
      refine r_iload_n dX12_init_211 rfl 1 rfl ?_
      refine r_iconst dX12_init_212 ?_
      obtain ⟨c2, h⟩ := of_ck h
      obtain ⟨M3, eM3, h⟩ := of_lt h
      refine r_iast dX12_init_213 rfl c2 ?_
      rw [← eM3]
      refine r_iinc (lv2 := [(1, vI (x1 + 1)), (0, vR 55)]) dX12_init_214 1 rfl (by decide) rfl ?_
      refine r_goto (tgt := 202) dX12_init_217 (by decide) ?_
      refine r_sub (lv2 := [(0, vR 55), (1, vI (x1 + 1))]) [1, 0] rfl ?_
      cases h
      exact ih _ _  _ (k1 _ rfl) hX

set_option maxRecDepth 10000 in
theorem x_X12_init {G : Gx} {M : Mem} {M2 : Mem} (h : m_X12_init M = some (M2)) (hQ : RetV G 4 cX12_init RX12 2 M2) : Ex G 4 cX12_init RX12 2 200 [(0, vR 55)] [] M := by
  unfold m_X12_init at h
  refine r_iconst dX12_init_200 ?_
  refine r_istore_n (lv2 := [(1, vI 0), (0, vR 55)]) dX12_init_201 rfl (by decide) rfl ?_
  obtain ⟨y4, M5, h9, h⟩ := of_bd2 h
  refine r_sub (lv2 := [(0, vR 55), (1, vI 0)]) [1, 0] rfl ?_
  refine lp_X12_init_L202   (fun w => w = (y4, M5)) ?_ FU 0 M _ h9 rfl
  intro z0 z1 hw
  cases hw
  refine r_aload_n dX12_init_220 rfl 0 rfl ?_
  refine r_iconst dX12_init_221 ?_
  refine r_iconst dX12_init_222 ?_
  obtain ⟨M7, hc6, h⟩ := of_bd1 h
  refine r_callVV (st := []) dX12_init_223 v_X12_84 (run_X12_begins hc6) (by decide) (by decide) rfl rfl (Nat.le_of_ble_eq_true rfl) rfl ?_
  cases h
  exact hQ _ _ dX12_init_226

def ScrAt (G : Gx) (L : Nat) (xs : Int → Int) : Prop := match G with
  | (_, (s, _, _, _, _, _), _, _, _, _, ad, A) => ∃ ys : Nat → Int32, va_X (ad 1000) L ys s s.heap ∧ ad 1000 < s.heap.size ∧ ¬ A (ad 1000) ∧ ∀ j : Nat, j < L → ys j = Int32.ofInt (xs (j : Int))
set_option maxRecDepth 10000 in
theorem r_scr {G : Gx} {n : Nat} {cc : ByteArray} {own : String} {nL pc : Nat} {lv : List (Nat × Mv)} {st : List Mv} {M : Mem} {L : Nat} {xs : Int → Int} {i : Int} (hX : ScrAt G L xs) (hd : decode cc pc = .ok (.iaload, 1)) (hi : 0 ≤ wr i ∧ wr i < (L : Int)) (kk : Ex G n cc own nL (pc + 1) lv (vI (xs (wr i)) :: st) M) : Ex G n cc own nL pc lv (vI i :: vR 1000 :: st) M := by
  obtain ⟨⟨p, l, e, R⟩, ⟨s, m, args, below, meth, c⟩, ⟨cells, slots⟩, Q, D, cy, ad, A⟩ := G
  intro hF H locs ls hP hS hl
  have hx := hF.1
  have hb := hF.2.1
  obtain ⟨ys, h1, h2, h3, h4⟩ := hX
  refine va_sld hx hb h1 h2 h3 hS (oI_in hi) hd ?_
  have e := oI_cl hi.1
  rw [h4 _ (by omega), e]
  exact kk hF H locs ls hP hS hl
set_option maxRecDepth 10000 in
theorem r_scl {G : Gx} {n : Nat} {cc : ByteArray} {own : String} {nL pc : Nat} {lv : List (Nat × Mv)} {st : List Mv} {M : Mem} {L : Nat} {xs : Int → Int} (hX : ScrAt G L xs) (hd : decode cc pc = .ok (.arraylength, 1)) (kk : Ex G n cc own nL (pc + 1) lv (vI (L : Int) :: st) M) : Ex G n cc own nL pc lv (vR 1000 :: st) M := by
  obtain ⟨⟨p, l, e, R⟩, ⟨s, m, args, below, meth, c⟩, ⟨cells, slots⟩, Q, D, cy, ad, A⟩ := G
  intro hF H locs ls hP hS hl
  have hx := hF.1
  have hb := hF.2.1
  obtain ⟨ys, h1, h2, h3, h4⟩ := hX
  exact va_slen hx hb h1 h2 h3 hS hd (kk hF H locs ls hP hS hl)
def m_L_law_L18 (L : Nat) (xs : Int → Int) (M : Mem)  (x3 : Int) : Option ((Int × Mem) ⊕ ((Int × Mem) ⊕ (Bool × Mem))) :=
  if wr ((L : Int) - 6) < wr x3 then
    some (.inr (.inl (x3, M)))
  else
    if 0 ≤ wr x3 ∧ wr x3 < (L : Int) then
    if wr (iand (xs (wr x3)) 63) = 0 then
      if 0 ≤ wr (x3 + 1) ∧ wr (x3 + 1) < (L : Int) then
      if 0 ≤ wr (x3 + 2) ∧ wr (x3 + 2) < (L : Int) then
      bd2 (m_X11_yard M (xs (wr (x3 + 1))) (xs (wr (x3 + 2)))) fun r7 M8 =>
      bd2 (m_X12_yard M8 (xs (wr (x3 + 1))) (xs (wr (x3 + 2)))) fun r10 M11 =>
      if wr r7 = wr r10 then
        some (.inl ((x3 + 6), M11))
      else
        some (.inr (.inr (false, M11)))
      else none
      else none
    else
      if wr (iand (xs (wr x3)) 63) = 1 then
        if 0 ≤ wr (x3 + 1) ∧ wr (x3 + 1) < (L : Int) then
        if 0 ≤ wr (x3 + 2) ∧ wr (x3 + 2) < (L : Int) then
        lt (if wr (xs (wr (x3 + 2))) = 0 then 0 else 1) fun (v17 : Int) =>
        bd2 (m_X11_cell M (xs (wr (x3 + 1))) v17) fun r19 M20 =>
        lt (if wr (xs (wr (x3 + 2))) = 0 then 0 else 1) fun (v22 : Int) =>
        bd2 (m_X12_cell M20 (xs (wr (x3 + 1))) v22) fun r24 M25 =>
        if wr r19 = wr r24 then
          some (.inl ((x3 + 6), M25))
        else
          some (.inr (.inr (false, M25)))
        else none
        else none
      else
        if wr (iand (xs (wr x3)) 63) = 2 then
          if 0 ≤ wr (x3 + 1) ∧ wr (x3 + 1) < (L : Int) then
          if 0 ≤ wr (x3 + 2) ∧ wr (x3 + 2) < (L : Int) then
          if 0 ≤ wr (x3 + 3) ∧ wr (x3 + 3) < (L : Int) then
          bd2 (m_X11_type M ((lshl (i2l (xs (wr (x3 + 1)))) 32) ||| ((i2l (xs (wr (x3 + 2)))) &&& (4294967295))) (xs (wr (x3 + 3)))) fun r32 M33 =>
          bd2 (m_X12_type M33 ((lshl (i2l (xs (wr (x3 + 1)))) 32) ||| ((i2l (xs (wr (x3 + 2)))) &&& (4294967295))) (xs (wr (x3 + 3)))) fun r35 M36 =>
          if wr r32 = wr r35 then
            some (.inl ((x3 + 6), M36))
          else
            some (.inr (.inr (false, M36)))
          else none
          else none
          else none
        else
          if wr (iand (xs (wr x3)) 63) = 3 then
            bd2 (m_X11_read M) fun r40 M41 =>
            bd2 (m_X12_read M41) fun r43 M44 =>
            if wr r40 = wr r43 then
              some (.inl ((x3 + 6), M44))
            else
              some (.inr (.inr (false, M44)))
          else
            if wr (iand (xs (wr x3)) 63) = 4 then
              if 0 ≤ wr (x3 + 1) ∧ wr (x3 + 1) < (L : Int) then
              if 0 ≤ wr (x3 + 2) ∧ wr (x3 + 2) < (L : Int) then
              if 0 ≤ wr (x3 + 3) ∧ wr (x3 + 3) < (L : Int) then
              bd2 (m_X11_lay M (xs (wr (x3 + 1))) (xs (wr (x3 + 2))) (xs (wr (x3 + 3)))) fun r51 M52 =>
              bd2 (m_X12_lay M52 (xs (wr (x3 + 1))) (xs (wr (x3 + 2))) (xs (wr (x3 + 3)))) fun r54 M55 =>
              if wr r51 = wr r54 then
                some (.inl ((x3 + 6), M55))
              else
                some (.inr (.inr (false, M55)))
              else none
              else none
              else none
            else
              if wr (iand (xs (wr x3)) 63) = 5 then
                if 0 ≤ wr (x3 + 1) ∧ wr (x3 + 1) < (L : Int) then
                bd1 (m_X11_count M (xs (wr (x3 + 1)))) fun r60 =>
                bd1 (m_X12_count M (xs (wr (x3 + 1)))) fun r62 =>
                if wr r60 = wr r62 then
                  some (.inl ((x3 + 6), M))
                else
                  some (.inr (.inr (false, M)))
                else none
              else
                if wr (iand (xs (wr x3)) 63) = 6 then
                  if 0 ≤ wr (x3 + 1) ∧ wr (x3 + 1) < (L : Int) then
                  if 0 ≤ wr (x3 + 2) ∧ wr (x3 + 2) < (L : Int) then
                  bd2 (m_X11_want M (xs (wr (x3 + 1))) (xs (wr (x3 + 2)))) fun r68 M69 =>
                  bd2 (m_X12_want M69 (xs (wr (x3 + 1))) (xs (wr (x3 + 2)))) fun r71 M72 =>
                  if wr r68 = wr r71 then
                    some (.inl ((x3 + 6), M72))
                  else
                    some (.inr (.inr (false, M72)))
                  else none
                  else none
                else
                  if wr (iand (xs (wr x3)) 63) = 7 then
                    if 0 ≤ wr (x3 + 1) ∧ wr (x3 + 1) < (L : Int) then
                    if 0 ≤ wr (x3 + 2) ∧ wr (x3 + 2) < (L : Int) then
                    bd2 (m_X11_price M (xs (wr (x3 + 1))) (xs (wr (x3 + 2)))) fun r78 M79 =>
                    bd2 (m_X12_price M79 (xs (wr (x3 + 1))) (xs (wr (x3 + 2)))) fun r81 M82 =>
                    if wr r78 = wr r81 then
                      some (.inl ((x3 + 6), M82))
                    else
                      some (.inr (.inr (false, M82)))
                    else none
                    else none
                  else
                    if wr (iand (xs (wr x3)) 63) = 8 then
                      bd2 (m_X11_pavings M) fun r86 M87 =>
                      bd2 (m_X12_pavings M87) fun r89 M90 =>
                      if r86 = r89 then
                        some (.inl ((x3 + 6), M90))
                      else
                        some (.inr (.inr (false, M90)))
                    else
                      if wr (iand (xs (wr x3)) 63) = 9 then
                        if 0 ≤ wr (x3 + 1) ∧ wr (x3 + 1) < (L : Int) then
                        bd2 (m_X11_share M (xs (wr (x3 + 1)))) fun r95 M96 =>
                        bd2 (m_X12_share M96 (xs (wr (x3 + 1)))) fun r98 M99 =>
                        if r95 = r98 then
                          some (.inl ((x3 + 6), M99))
                        else
                          some (.inr (.inr (false, M99)))
                        else none
                      else
                        if wr (iand (xs (wr x3)) 63) = 10 then
                          if 0 ≤ wr (x3 + 1) ∧ wr (x3 + 1) < (L : Int) then
                          bd2 (m_X11_sure M (xs (wr (x3 + 1)))) fun r104 M105 =>
                          bd2 (m_X12_sure M105 (xs (wr (x3 + 1)))) fun r107 M108 =>
                          if wr r104 = wr r107 then
                            some (.inl ((x3 + 6), M108))
                          else
                            some (.inr (.inr (false, M108)))
                          else none
                        else
                          if wr (iand (xs (wr x3)) 63) = 11 then
                            if 0 ≤ wr (x3 + 1) ∧ wr (x3 + 1) < (L : Int) then
                            if 0 ≤ wr (x3 + 2) ∧ wr (x3 + 2) < (L : Int) then
                            if 0 ≤ wr (x3 + 3) ∧ wr (x3 + 3) < (L : Int) then
                            bd2 (m_X11_place M (xs (wr (x3 + 1))) ((lshl (i2l (xs (wr (x3 + 2)))) 32) ||| ((i2l (xs (wr (x3 + 3)))) &&& (4294967295)))) fun r115 M116 =>
                            bd2 (m_X12_place M116 (xs (wr (x3 + 1))) ((lshl (i2l (xs (wr (x3 + 2)))) 32) ||| ((i2l (xs (wr (x3 + 3)))) &&& (4294967295)))) fun r118 M119 =>
                            if wr r115 = wr r118 then
                              some (.inl ((x3 + 6), M119))
                            else
                              some (.inr (.inr (false, M119)))
                            else none
                            else none
                            else none
                          else
                            if wr (iand (xs (wr x3)) 63) = 12 then
                              if 0 ≤ wr (x3 + 1) ∧ wr (x3 + 1) < (L : Int) then
                              bd2 (m_X11_rank M (xs (wr (x3 + 1)))) fun r124 M125 =>
                              bd2 (m_X12_rank M125 (xs (wr (x3 + 1)))) fun r127 M128 =>
                              if r124 = r127 then
                                some (.inl ((x3 + 6), M128))
                              else
                                some (.inr (.inr (false, M128)))
                              else none
                            else
                              if wr (iand (xs (wr x3)) 63) = 13 then
                                if 0 ≤ wr (x3 + 1) ∧ wr (x3 + 1) < (L : Int) then
                                if 0 ≤ wr (x3 + 2) ∧ wr (x3 + 2) < (L : Int) then
                                bd1 (m_X11_brick M (xs (wr (x3 + 1))) (xs (wr (x3 + 2)))) fun r134 =>
                                bd1 (m_X12_brick M (xs (wr (x3 + 1))) (xs (wr (x3 + 2)))) fun r136 =>
                                if wr r134 = wr r136 then
                                  some (.inl ((x3 + 6), M))
                                else
                                  some (.inr (.inr (false, M)))
                                else none
                                else none
                              else
                                if wr (iand (xs (wr x3)) 63) = 14 then
                                  if 0 ≤ wr (x3 + 1) ∧ wr (x3 + 1) < (L : Int) then
                                  bd2 (m_X11_cheapest M (xs (wr (x3 + 1)))) fun r141 M142 =>
                                  bd2 (m_X12_cheapest M142 (xs (wr (x3 + 1)))) fun r144 M145 =>
                                  if wr r141 = wr r144 then
                                    some (.inl ((x3 + 6), M145))
                                  else
                                    some (.inr (.inr (false, M145)))
                                  else none
                                else
                                  if wr (iand (xs (wr x3)) 63) = 15 then
                                    if 0 ≤ wr (x3 + 1) ∧ wr (x3 + 1) < (L : Int) then
                                    bd1 (m_X11_cost M (xs (wr (x3 + 1)))) fun r150 =>
                                    bd1 (m_X12_cost M (xs (wr (x3 + 1)))) fun r152 =>
                                    if wr r150 = wr r152 then
                                      some (.inl ((x3 + 6), M))
                                    else
                                      some (.inr (.inr (false, M)))
                                    else none
                                  else
                                    if wr (iand (xs (wr x3)) 63) = 16 then
                                      if 0 ≤ wr (x3 + 1) ∧ wr (x3 + 1) < (L : Int) then
                                      if 0 ≤ wr (x3 + 2) ∧ wr (x3 + 2) < (L : Int) then
                                      bd2 (m_X11_keep M (xs (wr (x3 + 1))) (xs (wr (x3 + 2)))) fun r158 M159 =>
                                      bd2 (m_X12_keep M159 (xs (wr (x3 + 1))) (xs (wr (x3 + 2)))) fun r161 M162 =>
                                      if wr r158 = wr r161 then
                                        some (.inl ((x3 + 6), M162))
                                      else
                                        some (.inr (.inr (false, M162)))
                                      else none
                                      else none
                                    else
                                      if wr (iand (xs (wr x3)) 63) = 17 then
                                        if 0 ≤ wr (x3 + 1) ∧ wr (x3 + 1) < (L : Int) then
                                        if 0 ≤ wr (x3 + 2) ∧ wr (x3 + 2) < (L : Int) then
                                        if 0 ≤ wr (x3 + 3) ∧ wr (x3 + 3) < (L : Int) then
                                        bd2 (m_X11_bricks M (xs (wr (x3 + 1))) (xs (wr (x3 + 2))) (xs (wr (x3 + 3)))) fun r169 M170 =>
                                        bd2 (m_X12_bricks M170 (xs (wr (x3 + 1))) (xs (wr (x3 + 2))) (xs (wr (x3 + 3)))) fun r172 M173 =>
                                        if wr r169 = wr r172 then
                                          some (.inl ((x3 + 6), M173))
                                        else
                                          some (.inr (.inr (false, M173)))
                                        else none
                                        else none
                                        else none
                                      else
                                        if wr (iand (xs (wr x3)) 63) = 18 then
                                          bd2 (m_X11_most M) fun r177 M178 =>
                                          bd2 (m_X12_most M178) fun r180 M181 =>
                                          if wr r177 = wr r180 then
                                            some (.inl ((x3 + 6), M181))
                                          else
                                            some (.inr (.inr (false, M181)))
                                        else
                                          if wr (iand (xs (wr x3)) 63) = 19 then
                                            if 0 ≤ wr (x3 + 1) ∧ wr (x3 + 1) < (L : Int) then
                                            if 0 ≤ wr (x3 + 2) ∧ wr (x3 + 2) < (L : Int) then
                                            bd2 (m_X11_bar M (xs (wr (x3 + 1))) (xs (wr (x3 + 2)))) fun r187 M188 =>
                                            bd2 (m_X12_bar M188 (xs (wr (x3 + 1))) (xs (wr (x3 + 2)))) fun r190 M191 =>
                                            if wr r187 = wr r190 then
                                              some (.inl ((x3 + 6), M191))
                                            else
                                              some (.inr (.inr (false, M191)))
                                            else none
                                            else none
                                          else
                                            if wr (iand (xs (wr x3)) 63) = 20 then
                                              if 0 ≤ wr (x3 + 1) ∧ wr (x3 + 1) < (L : Int) then
                                              if 0 ≤ wr (x3 + 2) ∧ wr (x3 + 2) < (L : Int) then
                                              bd2 (m_X11_bars M (xs (wr (x3 + 1))) (xs (wr (x3 + 2)))) fun r197 M198 =>
                                              bd2 (m_X12_bars M198 (xs (wr (x3 + 1))) (xs (wr (x3 + 2)))) fun r200 M201 =>
                                              if wr r197 = wr r200 then
                                                some (.inl ((x3 + 6), M201))
                                              else
                                                some (.inr (.inr (false, M201)))
                                              else none
                                              else none
                                            else
                                              if wr (iand (xs (wr x3)) 63) = 21 then
                                                bd2 (m_X11_whole M) fun r205 M206 =>
                                                bd2 (m_X12_whole M206) fun r208 M209 =>
                                                if wr r205 = wr r208 then
                                                  some (.inl ((x3 + 6), M209))
                                                else
                                                  some (.inr (.inr (false, M209)))
                                              else
                                                if wr (iand (xs (wr x3)) 63) = 22 then
                                                  if 0 ≤ wr (x3 + 1) ∧ wr (x3 + 1) < (L : Int) then
                                                  if 0 ≤ wr (x3 + 2) ∧ wr (x3 + 2) < (L : Int) then
                                                  if 0 ≤ wr (x3 + 3) ∧ wr (x3 + 3) < (L : Int) then
                                                  bd2 (m_X11_height M (xs (wr (x3 + 1))) (xs (wr (x3 + 2))) (xs (wr (x3 + 3)))) fun r216 M217 =>
                                                  bd2 (m_X12_height M217 (xs (wr (x3 + 1))) (xs (wr (x3 + 2))) (xs (wr (x3 + 3)))) fun r219 M220 =>
                                                  if wr r216 = wr r219 then
                                                    some (.inl ((x3 + 6), M220))
                                                  else
                                                    some (.inr (.inr (false, M220)))
                                                  else none
                                                  else none
                                                  else none
                                                else
                                                  if wr (iand (xs (wr x3)) 63) = 23 then
                                                    if 0 ≤ wr (x3 + 1) ∧ wr (x3 + 1) < (L : Int) then
                                                    if 0 ≤ wr (x3 + 2) ∧ wr (x3 + 2) < (L : Int) then
                                                    if 0 ≤ wr (x3 + 3) ∧ wr (x3 + 3) < (L : Int) then
                                                    bd2 (m_X11_turn M (xs (wr (x3 + 1))) (xs (wr (x3 + 2))) (xs (wr (x3 + 3)))) fun r227 M228 =>
                                                    bd2 (m_X12_turn M228 (xs (wr (x3 + 1))) (xs (wr (x3 + 2))) (xs (wr (x3 + 3)))) fun r230 M231 =>
                                                    if wr r227 = wr r230 then
                                                      some (.inl ((x3 + 6), M231))
                                                    else
                                                      some (.inr (.inr (false, M231)))
                                                    else none
                                                    else none
                                                    else none
                                                  else
                                                    if wr (iand (xs (wr x3)) 63) = 24 then
                                                      if 0 ≤ wr (x3 + 1) ∧ wr (x3 + 1) < (L : Int) then
                                                      if 0 ≤ wr (x3 + 2) ∧ wr (x3 + 2) < (L : Int) then
                                                      bd2 (m_X11_turns M (xs (wr (x3 + 1))) (xs (wr (x3 + 2)))) fun r237 M238 =>
                                                      bd2 (m_X12_turns M238 (xs (wr (x3 + 1))) (xs (wr (x3 + 2)))) fun r240 M241 =>
                                                      if wr r237 = wr r240 then
                                                        some (.inl ((x3 + 6), M241))
                                                      else
                                                        some (.inr (.inr (false, M241)))
                                                      else none
                                                      else none
                                                    else
                                                      if wr (iand (xs (wr x3)) 63) = 25 then
                                                        if 0 ≤ wr (x3 + 1) ∧ wr (x3 + 1) < (L : Int) then
                                                        if 0 ≤ wr (x3 + 2) ∧ wr (x3 + 2) < (L : Int) then
                                                        bd2 (m_X11_settle M (xs (wr (x3 + 1))) (xs (wr (x3 + 2)))) fun r247 M248 =>
                                                        bd2 (m_X12_settle M248 (xs (wr (x3 + 1))) (xs (wr (x3 + 2)))) fun r250 M251 =>
                                                        if wr r247 = wr r250 then
                                                          some (.inl ((x3 + 6), M251))
                                                        else
                                                          some (.inr (.inr (false, M251)))
                                                        else none
                                                        else none
                                                      else
                                                        if wr (iand (xs (wr x3)) 63) = 26 then
                                                          if 0 ≤ wr (x3 + 1) ∧ wr (x3 + 1) < (L : Int) then
                                                          if 0 ≤ wr (x3 + 2) ∧ wr (x3 + 2) < (L : Int) then
                                                          bd2 (m_X11_far M (xs (wr (x3 + 1))) (xs (wr (x3 + 2)))) fun r257 M258 =>
                                                          bd2 (m_X12_far M258 (xs (wr (x3 + 1))) (xs (wr (x3 + 2)))) fun r260 M261 =>
                                                          if wr r257 = wr r260 then
                                                            some (.inl ((x3 + 6), M261))
                                                          else
                                                            some (.inr (.inr (false, M261)))
                                                          else none
                                                          else none
                                                        else
                                                          if wr (iand (xs (wr x3)) 63) = 27 then
                                                            if 0 ≤ wr (x3 + 1) ∧ wr (x3 + 1) < (L : Int) then
                                                            if 0 ≤ wr (x3 + 2) ∧ wr (x3 + 2) < (L : Int) then
                                                            bd2 (m_X11_toward M (xs (wr (x3 + 1))) (xs (wr (x3 + 2)))) fun r267 M268 =>
                                                            bd2 (m_X12_toward M268 (xs (wr (x3 + 1))) (xs (wr (x3 + 2)))) fun r270 M271 =>
                                                            if wr r267 = wr r270 then
                                                              some (.inl ((x3 + 6), M271))
                                                            else
                                                              some (.inr (.inr (false, M271)))
                                                            else none
                                                            else none
                                                          else
                                                            if wr (iand (xs (wr x3)) 63) = 28 then
                                                              if 0 ≤ wr (x3 + 1) ∧ wr (x3 + 1) < (L : Int) then
                                                              bd1 (m_X11_lines M (xs (wr (x3 + 1)))) fun r276 =>
                                                              bd1 (m_X12_lines M (xs (wr (x3 + 1)))) fun r278 =>
                                                              if wr r276 = wr r278 then
                                                                some (.inl ((x3 + 6), M))
                                                              else
                                                                some (.inr (.inr (false, M)))
                                                              else none
                                                            else
                                                              if wr (iand (xs (wr x3)) 63) = 29 then
                                                                bd2 (m_X11_sound M) fun r282 M283 =>
                                                                bd2 (m_X12_sound M283) fun r285 M286 =>
                                                                if r282 = r285 then
                                                                  some (.inl ((x3 + 6), M286))
                                                                else
                                                                  some (.inr (.inr (false, M286)))
                                                              else
                                                                if wr (iand (xs (wr x3)) 63) = 30 then
                                                                  if 0 ≤ wr (x3 + 1) ∧ wr (x3 + 1) < (L : Int) then
                                                                  if 0 ≤ wr (x3 + 2) ∧ wr (x3 + 2) < (L : Int) then
                                                                  bd2 (m_X11_rings M (xs (wr (x3 + 1))) (xs (wr (x3 + 2)))) fun r292 M293 =>
                                                                  bd2 (m_X12_rings M293 (xs (wr (x3 + 1))) (xs (wr (x3 + 2)))) fun r295 M296 =>
                                                                  if wr r292 = wr r295 then
                                                                    some (.inl ((x3 + 6), M296))
                                                                  else
                                                                    some (.inr (.inr (false, M296)))
                                                                  else none
                                                                  else none
                                                                else
                                                                  if wr (iand (xs (wr x3)) 63) = 31 then
                                                                    if 0 ≤ wr (x3 + 1) ∧ wr (x3 + 1) < (L : Int) then
                                                                    if 0 ≤ wr (x3 + 2) ∧ wr (x3 + 2) < (L : Int) then
                                                                    if 0 ≤ wr (x3 + 3) ∧ wr (x3 + 3) < (L : Int) then
                                                                    bd2 (m_X11_ring M (xs (wr (x3 + 1))) (xs (wr (x3 + 2))) (xs (wr (x3 + 3)))) fun r303 M304 =>
                                                                    bd2 (m_X12_ring M304 (xs (wr (x3 + 1))) (xs (wr (x3 + 2))) (xs (wr (x3 + 3)))) fun r306 M307 =>
                                                                    if wr r303 = wr r306 then
                                                                      some (.inl ((x3 + 6), M307))
                                                                    else
                                                                      some (.inr (.inr (false, M307)))
                                                                    else none
                                                                    else none
                                                                    else none
                                                                  else
                                                                    if wr (iand (xs (wr x3)) 63) = 32 then
                                                                      if 0 ≤ wr (x3 + 1) ∧ wr (x3 + 1) < (L : Int) then
                                                                      if 0 ≤ wr (x3 + 2) ∧ wr (x3 + 2) < (L : Int) then
                                                                      if 0 ≤ wr (x3 + 3) ∧ wr (x3 + 3) < (L : Int) then
                                                                      bd2 (m_X11_wind M (xs (wr (x3 + 1))) (xs (wr (x3 + 2))) (xs (wr (x3 + 3)))) fun r314 M315 =>
                                                                      bd2 (m_X12_wind M315 (xs (wr (x3 + 1))) (xs (wr (x3 + 2))) (xs (wr (x3 + 3)))) fun r317 M318 =>
                                                                      if wr r314 = wr r317 then
                                                                        some (.inl ((x3 + 6), M318))
                                                                      else
                                                                        some (.inr (.inr (false, M318)))
                                                                      else none
                                                                      else none
                                                                      else none
                                                                    else
                                                                      if wr (iand (xs (wr x3)) 63) = 33 then
                                                                        if 0 ≤ wr (x3 + 1) ∧ wr (x3 + 1) < (L : Int) then
                                                                        if 0 ≤ wr (x3 + 2) ∧ wr (x3 + 2) < (L : Int) then
                                                                        if 0 ≤ wr (x3 + 3) ∧ wr (x3 + 3) < (L : Int) then
                                                                        bd2 (m_X11_sheet M (xs (wr (x3 + 1))) (xs (wr (x3 + 2))) (xs (wr (x3 + 3)))) fun r325 M326 =>
                                                                        bd2 (m_X12_sheet M326 (xs (wr (x3 + 1))) (xs (wr (x3 + 2))) (xs (wr (x3 + 3)))) fun r328 M329 =>
                                                                        if wr r325 = wr r328 then
                                                                          some (.inl ((x3 + 6), M329))
                                                                        else
                                                                          some (.inr (.inr (false, M329)))
                                                                        else none
                                                                        else none
                                                                        else none
                                                                      else
                                                                        if wr (iand (xs (wr x3)) 63) = 34 then
                                                                          if 0 ≤ wr (x3 + 1) ∧ wr (x3 + 1) < (L : Int) then
                                                                          bd2 (m_X11_drop M (xs (wr (x3 + 1)))) fun r334 M335 =>
                                                                          bd2 (m_X12_drop M335 (xs (wr (x3 + 1)))) fun r337 M338 =>
                                                                          if wr r334 = wr r337 then
                                                                            some (.inl ((x3 + 6), M338))
                                                                          else
                                                                            some (.inr (.inr (false, M338)))
                                                                          else none
                                                                        else
                                                                          if wr (iand (xs (wr x3)) 63) = 35 then
                                                                            if 0 ≤ wr (x3 + 1) ∧ wr (x3 + 1) < (L : Int) then
                                                                            if 0 ≤ wr (x3 + 2) ∧ wr (x3 + 2) < (L : Int) then
                                                                            if 0 ≤ wr (x3 + 3) ∧ wr (x3 + 3) < (L : Int) then
                                                                            if 0 ≤ wr (x3 + 4) ∧ wr (x3 + 4) < (L : Int) then
                                                                            bd2 (m_X11_item M (xs (wr (x3 + 1))) (xs (wr (x3 + 2))) (xs (wr (x3 + 3))) (xs (wr (x3 + 4)))) fun r346 M347 =>
                                                                            bd2 (m_X12_item M347 (xs (wr (x3 + 1))) (xs (wr (x3 + 2))) (xs (wr (x3 + 3))) (xs (wr (x3 + 4)))) fun r349 M350 =>
                                                                            if wr r346 = wr r349 then
                                                                              some (.inl ((x3 + 6), M350))
                                                                            else
                                                                              some (.inr (.inr (false, M350)))
                                                                            else none
                                                                            else none
                                                                            else none
                                                                            else none
                                                                          else
                                                                            if wr (iand (xs (wr x3)) 63) = 36 then
                                                                              if 0 ≤ wr (x3 + 1) ∧ wr (x3 + 1) < (L : Int) then
                                                                              if 0 ≤ wr (x3 + 2) ∧ wr (x3 + 2) < (L : Int) then
                                                                              if 0 ≤ wr (x3 + 3) ∧ wr (x3 + 3) < (L : Int) then
                                                                              if 0 ≤ wr (x3 + 4) ∧ wr (x3 + 4) < (L : Int) then
                                                                              if 0 ≤ wr (x3 + 5) ∧ wr (x3 + 5) < (L : Int) then
                                                                              bd2 (m_X11_copy M (xs (wr (x3 + 1))) (xs (wr (x3 + 2))) (xs (wr (x3 + 3))) (xs (wr (x3 + 4))) (xs (wr (x3 + 5)))) fun r359 M360 =>
                                                                              bd2 (m_X12_copy M360 (xs (wr (x3 + 1))) (xs (wr (x3 + 2))) (xs (wr (x3 + 3))) (xs (wr (x3 + 4))) (xs (wr (x3 + 5)))) fun r362 M363 =>
                                                                              if wr r359 = wr r362 then
                                                                                some (.inl ((x3 + 6), M363))
                                                                              else
                                                                                some (.inr (.inr (false, M363)))
                                                                              else none
                                                                              else none
                                                                              else none
                                                                              else none
                                                                              else none
                                                                            else
                                                                              some (.inl ((x3 + 6), M))
    else none
def m_L_law (L : Nat) (xs : Int → Int) (M : Mem) : Option (Bool × Mem) :=
  be2 (itr (fun s => m_L_law_L18 L xs s.2  s.1) FU (0, M)) (fun y365 M366 =>
  some (true, M366))
set_option maxRecDepth 10000 in
theorem lp_L_law_L18 {G : Gx} {L : Nat} {xs : Int → Int} (hSc : ScrAt G L xs)    (X : ((Int × Mem) ⊕ (Bool × Mem)) → Prop) (hX1 : ∀ (x3 : Int) (M : Mem), X (.inl (x3, M)) → Ex G 8 cL_law RL 4 1443 [(0, vR 1000), (1, vR 0), (2, vR 55), (3, vI x3)] [] M) (hX2 : ∀ (r : Bool) (M2 : Mem), X (.inr (r, M2)) → RetI G 8 cL_law RL 4 (bI r) M2) : ∀ (nn : Nat) (x3 : Int) (M : Mem) (out : (Int × Mem) ⊕ (Bool × Mem)), itr (fun s => m_L_law_L18 L xs s.2  s.1) nn (x3, M) = some out → X out → Ex G 8 cL_law RL 4 18 [(0, vR 1000), (1, vR 0), (2, vR 55), (3, vI x3)] [] M := by
  intro nn
  induction nn with
  | zero =>
    intro x3 M out h _
    cases h
  | succ nn ih =>
    intro x3 M out h0 hX
    obtain ⟨w, h, k1, k2⟩ := itr_inv h0
    have h : m_L_law_L18 L xs M  x3 = some w := h
    unfold m_L_law_L18 at h
    refine r_iload_n dL_law_18 rfl 3 rfl ?_
    refine r_aload_n dL_law_19 rfl 0 rfl ?_
    refine r_scl hSc dL_law_20 ?_
    refine r_bipush dL_law_21 (by decide) ?_
    refine r_isub dL_law_23 ?_
    by_cases c1 : wr ((L : Int) - 6) < wr x3
    · rw [if_pos c1] at h
      refine r_icmp_gt (tgt := 1443) dL_law_24 (by decide) (fun _ => ?_) (fun q => absurd c1 q)
      cases h
      cases k2 _ rfl
      exact hX1 _ _ hX
    · rw [if_neg c1] at h
      refine r_icmp_gt (tgt := 1443) dL_law_24 (by decide) (fun q => absurd q c1) (fun _ => ?_)
      refine r_aload_n dL_law_27 rfl 0 rfl ?_
      refine r_iload_n dL_law_28 rfl 3 rfl ?_
      obtain ⟨c2, h⟩ := of_ck h
      refine r_scr hSc dL_law_29 c2 ?_
      refine r_bipush dL_law_30 (by decide) ?_
      refine r_iand dL_law_32 ?_
      by_cases c3 : wr (iand (xs (wr x3)) 63) = 0
      · rw [if_pos c3] at h
        refine r_tabIn (tgt := 196) dL_law_33 0 (c3.trans rfl) (by decide) rfl (by decide) ?_
        refine r_aload_n dL_law_196 rfl 1 rfl ?_
        refine r_aload_n dL_law_197 rfl 0 rfl ?_
        refine r_iload_n dL_law_198 rfl 3 rfl ?_
        refine r_iconst dL_law_199 ?_
        refine r_iadd dL_law_200 ?_
        obtain ⟨c4, h⟩ := of_ck h
        refine r_scr hSc dL_law_201 c4 ?_
        refine r_aload_n dL_law_202 rfl 0 rfl ?_
        refine r_iload_n dL_law_203 rfl 3 rfl ?_
        refine r_iconst dL_law_204 ?_
        refine r_iadd dL_law_205 ?_
        obtain ⟨c5, h⟩ := of_ck h
        refine r_scr hSc dL_law_206 c5 ?_
        obtain ⟨r7, M8, hc6, h⟩ := of_bd2 h
        refine r_callVI (st := []) dL_law_207 v_L_13 (run_X11_yard hc6) (by decide) (by decide) rfl rfl (Nat.le_of_ble_eq_true rfl) rfl ?_
        refine r_aload_n dL_law_210 rfl 2 rfl ?_
        refine r_aload_n dL_law_211 rfl 0 rfl ?_
        refine r_iload_n dL_law_212 rfl 3 rfl ?_
        refine r_iconst dL_law_213 ?_
        refine r_iadd dL_law_214 ?_
        refine r_scr hSc dL_law_215 c4 ?_
        refine r_aload_n dL_law_216 rfl 0 rfl ?_
        refine r_iload_n dL_law_217 rfl 3 rfl ?_
        refine r_iconst dL_law_218 ?_
        refine r_iadd dL_law_219 ?_
        refine r_scr hSc dL_law_220 c5 ?_
        obtain ⟨r10, M11, hc9, h⟩ := of_bd2 h
        refine r_callVI (st := [vI r7]) dL_law_221 v_L_17 (run_X12_yard hc9) (by decide) (by decide) rfl rfl (Nat.le_of_ble_eq_true rfl) rfl ?_
        by_cases c12 : wr r7 = wr r10
        · rw [if_pos c12] at h
          refine r_icmp_eq (tgt := 1437) dL_law_224 (by decide) (fun _ => ?_) (fun q => absurd c12 q)
          refine r_iinc (lv2 := [(3, vI (x3 + 6)), (0, vR 1000), (1, vR 0), (2, vR 55)]) dL_law_1437 3 rfl (by decide) rfl ?_
          refine r_goto (tgt := 18) dL_law_1440 (by decide) ?_
          refine r_sub (lv2 := [(0, vR 1000), (1, vR 0), (2, vR 55), (3, vI (x3 + 6))]) [1, 2, 3, 0] rfl ?_
          cases h
          exact ih _ _  _ (k1 _ rfl) hX
        · rw [if_neg c12] at h
          refine r_icmp_eq (tgt := 1437) dL_law_224 (by decide) (fun q => absurd q c12) (fun _ => ?_)
          refine r_iconst dL_law_227 ?_
          cases h
          cases k2 _ rfl
          exact hX2 _ _ hX _ _ dL_law_228
      · rw [if_neg c3] at h
        by_cases c13 : wr (iand (xs (wr x3)) 63) = 1
        · rw [if_pos c13] at h
          refine r_tabIn (tgt := 229) dL_law_33 1 (c13.trans rfl) (by decide) rfl (by decide) ?_
          refine r_aload_n dL_law_229 rfl 1 rfl ?_
          refine r_aload_n dL_law_230 rfl 0 rfl ?_
          refine r_iload_n dL_law_231 rfl 3 rfl ?_
          refine r_iconst dL_law_232 ?_
          refine r_iadd dL_law_233 ?_
          obtain ⟨c14, h⟩ := of_ck h
          refine r_scr hSc dL_law_234 c14 ?_
          refine r_aload_n dL_law_235 rfl 0 rfl ?_
          refine r_iload_n dL_law_236 rfl 3 rfl ?_
          refine r_iconst dL_law_237 ?_
          refine r_iadd dL_law_238 ?_
          obtain ⟨c15, h⟩ := of_ck h
          refine r_scr hSc dL_law_239 c15 ?_
          obtain ⟨v17, ev17, h⟩ := of_lt h
          have kJ : Ex G 8 cL_law RL 4 248 [(0, vR 1000), (1, vR 0), (2, vR 55), (3, vI x3)] [vI v17, vI (xs (wr (x3 + 1))), vR 0] M := by
            obtain ⟨r19, M20, hc18, h⟩ := of_bd2 h
            refine r_callVI (st := []) dL_law_248 v_L_18 (run_X11_cell hc18) (by decide) (by decide) rfl rfl (Nat.le_of_ble_eq_true rfl) rfl ?_
            refine r_aload_n dL_law_251 rfl 2 rfl ?_
            refine r_aload_n dL_law_252 rfl 0 rfl ?_
            refine r_iload_n dL_law_253 rfl 3 rfl ?_
            refine r_iconst dL_law_254 ?_
            refine r_iadd dL_law_255 ?_
            refine r_scr hSc dL_law_256 c14 ?_
            refine r_aload_n dL_law_257 rfl 0 rfl ?_
            refine r_iload_n dL_law_258 rfl 3 rfl ?_
            refine r_iconst dL_law_259 ?_
            refine r_iadd dL_law_260 ?_
            refine r_scr hSc dL_law_261 c15 ?_
            obtain ⟨v22, ev22, h⟩ := of_lt h
            have kJ : Ex G 8 cL_law RL 4 270 [(0, vR 1000), (1, vR 0), (2, vR 55), (3, vI x3)] [vI v22, vI (xs (wr (x3 + 1))), vR 55, vI r19] M20 := by
              obtain ⟨r24, M25, hc23, h⟩ := of_bd2 h
              refine r_callVI (st := [vI r19]) dL_law_270 v_L_22 (run_X12_cell hc23) (by decide) (by decide) rfl rfl (Nat.le_of_ble_eq_true rfl) rfl ?_
              by_cases c26 : wr r19 = wr r24
              · rw [if_pos c26] at h
                refine r_icmp_eq (tgt := 1437) dL_law_273 (by decide) (fun _ => ?_) (fun q => absurd c26 q)
                refine r_iinc (lv2 := [(3, vI (x3 + 6)), (0, vR 1000), (1, vR 0), (2, vR 55)]) dL_law_1437 3 rfl (by decide) rfl ?_
                refine r_goto (tgt := 18) dL_law_1440 (by decide) ?_
                refine r_sub (lv2 := [(0, vR 1000), (1, vR 0), (2, vR 55), (3, vI (x3 + 6))]) [1, 2, 3, 0] rfl ?_
                cases h
                exact ih _ _  _ (k1 _ rfl) hX
              · rw [if_neg c26] at h
                refine r_icmp_eq (tgt := 1437) dL_law_273 (by decide) (fun q => absurd q c26) (fun _ => ?_)
                refine r_iconst dL_law_276 ?_
                cases h
                cases k2 _ rfl
                exact hX2 _ _ hX _ _ dL_law_277
            clear h
            by_cases c21 : wr (xs (wr (x3 + 2))) = 0
            · skip
              refine r_if_eq (tgt := 269) dL_law_262 (by decide) (fun _ => ?_) (fun q => absurd c21 q)
              refine r_iconst dL_law_269 ?_
              rw [show v22 = 0 from by rw [ev22, if_pos c21]] at kJ
              exact kJ
            · skip
              refine r_if_eq (tgt := 269) dL_law_262 (by decide) (fun q => absurd q c21) (fun _ => ?_)
              refine r_iconst dL_law_265 ?_
              refine r_goto (tgt := 270) dL_law_266 (by decide) ?_
              rw [show v22 = 1 from by rw [ev22, if_neg c21]] at kJ
              exact kJ
          clear h
          by_cases c16 : wr (xs (wr (x3 + 2))) = 0
          · skip
            refine r_if_eq (tgt := 247) dL_law_240 (by decide) (fun _ => ?_) (fun q => absurd c16 q)
            refine r_iconst dL_law_247 ?_
            rw [show v17 = 0 from by rw [ev17, if_pos c16]] at kJ
            exact kJ
          · skip
            refine r_if_eq (tgt := 247) dL_law_240 (by decide) (fun q => absurd q c16) (fun _ => ?_)
            refine r_iconst dL_law_243 ?_
            refine r_goto (tgt := 248) dL_law_244 (by decide) ?_
            rw [show v17 = 1 from by rw [ev17, if_neg c16]] at kJ
            exact kJ
        · rw [if_neg c13] at h
          by_cases c27 : wr (iand (xs (wr x3)) 63) = 2
          · rw [if_pos c27] at h
            refine r_tabIn (tgt := 278) dL_law_33 2 (c27.trans rfl) (by decide) rfl (by decide) ?_
            refine r_aload_n dL_law_278 rfl 1 rfl ?_
            refine r_aload_n dL_law_279 rfl 0 rfl ?_
            refine r_iload_n dL_law_280 rfl 3 rfl ?_
            refine r_iconst dL_law_281 ?_
            refine r_iadd dL_law_282 ?_
            obtain ⟨c28, h⟩ := of_ck h
            refine r_scr hSc dL_law_283 c28 ?_
            refine r_i2l dL_law_284 ?_
            refine r_bipush dL_law_285 (by decide) ?_
            refine r_lshl dL_law_287 ?_
            refine r_aload_n dL_law_288 rfl 0 rfl ?_
            refine r_iload_n dL_law_289 rfl 3 rfl ?_
            refine r_iconst dL_law_290 ?_
            refine r_iadd dL_law_291 ?_
            obtain ⟨c29, h⟩ := of_ck h
            refine r_scr hSc dL_law_292 c29 ?_
            refine r_i2l dL_law_293 ?_
            refine r_ldc2 (v := (4294967295)) dL_law_294 kl_L_23 ?_
            refine r_land dL_law_297 ?_
            refine r_lor dL_law_298 ?_
            refine r_aload_n dL_law_299 rfl 0 rfl ?_
            refine r_iload_n dL_law_300 rfl 3 rfl ?_
            refine r_iconst dL_law_301 ?_
            refine r_iadd dL_law_302 ?_
            obtain ⟨c30, h⟩ := of_ck h
            refine r_scr hSc dL_law_303 c30 ?_
            obtain ⟨r32, M33, hc31, h⟩ := of_bd2 h
            refine r_callVI (st := []) dL_law_304 v_L_25 (run_X11_type hc31) (by decide) (by decide) rfl rfl (Nat.le_of_ble_eq_true rfl) rfl ?_
            refine r_aload_n dL_law_307 rfl 2 rfl ?_
            refine r_aload_n dL_law_308 rfl 0 rfl ?_
            refine r_iload_n dL_law_309 rfl 3 rfl ?_
            refine r_iconst dL_law_310 ?_
            refine r_iadd dL_law_311 ?_
            refine r_scr hSc dL_law_312 c28 ?_
            refine r_i2l dL_law_313 ?_
            refine r_bipush dL_law_314 (by decide) ?_
            refine r_lshl dL_law_316 ?_
            refine r_aload_n dL_law_317 rfl 0 rfl ?_
            refine r_iload_n dL_law_318 rfl 3 rfl ?_
            refine r_iconst dL_law_319 ?_
            refine r_iadd dL_law_320 ?_
            refine r_scr hSc dL_law_321 c29 ?_
            refine r_i2l dL_law_322 ?_
            refine r_ldc2 (v := (4294967295)) dL_law_323 kl_L_23 ?_
            refine r_land dL_law_326 ?_
            refine r_lor dL_law_327 ?_
            refine r_aload_n dL_law_328 rfl 0 rfl ?_
            refine r_iload_n dL_law_329 rfl 3 rfl ?_
            refine r_iconst dL_law_330 ?_
            refine r_iadd dL_law_331 ?_
            refine r_scr hSc dL_law_332 c30 ?_
            obtain ⟨r35, M36, hc34, h⟩ := of_bd2 h
            refine r_callVI (st := [vI r32]) dL_law_333 v_L_29 (run_X12_type hc34) (by decide) (by decide) rfl rfl (Nat.le_of_ble_eq_true rfl) rfl ?_
            by_cases c37 : wr r32 = wr r35
            · rw [if_pos c37] at h
              refine r_icmp_eq (tgt := 1437) dL_law_336 (by decide) (fun _ => ?_) (fun q => absurd c37 q)
              refine r_iinc (lv2 := [(3, vI (x3 + 6)), (0, vR 1000), (1, vR 0), (2, vR 55)]) dL_law_1437 3 rfl (by decide) rfl ?_
              refine r_goto (tgt := 18) dL_law_1440 (by decide) ?_
              refine r_sub (lv2 := [(0, vR 1000), (1, vR 0), (2, vR 55), (3, vI (x3 + 6))]) [1, 2, 3, 0] rfl ?_
              cases h
              exact ih _ _  _ (k1 _ rfl) hX
            · rw [if_neg c37] at h
              refine r_icmp_eq (tgt := 1437) dL_law_336 (by decide) (fun q => absurd q c37) (fun _ => ?_)
              refine r_iconst dL_law_339 ?_
              cases h
              cases k2 _ rfl
              exact hX2 _ _ hX _ _ dL_law_340
          · rw [if_neg c27] at h
            by_cases c38 : wr (iand (xs (wr x3)) 63) = 3
            · rw [if_pos c38] at h
              refine r_tabIn (tgt := 341) dL_law_33 3 (c38.trans rfl) (by decide) rfl (by decide) ?_
              refine r_aload_n dL_law_341 rfl 1 rfl ?_
              obtain ⟨r40, M41, hc39, h⟩ := of_bd2 h
              refine r_callVI (st := []) dL_law_342 v_L_30 (run_X11_read hc39) (by decide) (by decide) rfl rfl (Nat.le_of_ble_eq_true rfl) rfl ?_
              refine r_aload_n dL_law_345 rfl 2 rfl ?_
              obtain ⟨r43, M44, hc42, h⟩ := of_bd2 h
              refine r_callVI (st := [vI r40]) dL_law_346 v_L_34 (run_X12_read hc42) (by decide) (by decide) rfl rfl (Nat.le_of_ble_eq_true rfl) rfl ?_
              by_cases c45 : wr r40 = wr r43
              · rw [if_pos c45] at h
                refine r_icmp_eq (tgt := 1437) dL_law_349 (by decide) (fun _ => ?_) (fun q => absurd c45 q)
                refine r_iinc (lv2 := [(3, vI (x3 + 6)), (0, vR 1000), (1, vR 0), (2, vR 55)]) dL_law_1437 3 rfl (by decide) rfl ?_
                refine r_goto (tgt := 18) dL_law_1440 (by decide) ?_
                refine r_sub (lv2 := [(0, vR 1000), (1, vR 0), (2, vR 55), (3, vI (x3 + 6))]) [1, 2, 3, 0] rfl ?_
                cases h
                exact ih _ _  _ (k1 _ rfl) hX
              · rw [if_neg c45] at h
                refine r_icmp_eq (tgt := 1437) dL_law_349 (by decide) (fun q => absurd q c45) (fun _ => ?_)
                refine r_iconst dL_law_352 ?_
                cases h
                cases k2 _ rfl
                exact hX2 _ _ hX _ _ dL_law_353
            · rw [if_neg c38] at h
              by_cases c46 : wr (iand (xs (wr x3)) 63) = 4
              · rw [if_pos c46] at h
                refine r_tabIn (tgt := 354) dL_law_33 4 (c46.trans rfl) (by decide) rfl (by decide) ?_
                refine r_aload_n dL_law_354 rfl 1 rfl ?_
                refine r_aload_n dL_law_355 rfl 0 rfl ?_
                refine r_iload_n dL_law_356 rfl 3 rfl ?_
                refine r_iconst dL_law_357 ?_
                refine r_iadd dL_law_358 ?_
                obtain ⟨c47, h⟩ := of_ck h
                refine r_scr hSc dL_law_359 c47 ?_
                refine r_aload_n dL_law_360 rfl 0 rfl ?_
                refine r_iload_n dL_law_361 rfl 3 rfl ?_
                refine r_iconst dL_law_362 ?_
                refine r_iadd dL_law_363 ?_
                obtain ⟨c48, h⟩ := of_ck h
                refine r_scr hSc dL_law_364 c48 ?_
                refine r_aload_n dL_law_365 rfl 0 rfl ?_
                refine r_iload_n dL_law_366 rfl 3 rfl ?_
                refine r_iconst dL_law_367 ?_
                refine r_iadd dL_law_368 ?_
                obtain ⟨c49, h⟩ := of_ck h
                refine r_scr hSc dL_law_369 c49 ?_
                obtain ⟨r51, M52, hc50, h⟩ := of_bd2 h
                refine r_callVI (st := []) dL_law_370 v_L_35 (run_X11_lay hc50) (by decide) (by decide) rfl rfl (Nat.le_of_ble_eq_true rfl) rfl ?_
                refine r_aload_n dL_law_373 rfl 2 rfl ?_
                refine r_aload_n dL_law_374 rfl 0 rfl ?_
                refine r_iload_n dL_law_375 rfl 3 rfl ?_
                refine r_iconst dL_law_376 ?_
                refine r_iadd dL_law_377 ?_
                refine r_scr hSc dL_law_378 c47 ?_
                refine r_aload_n dL_law_379 rfl 0 rfl ?_
                refine r_iload_n dL_law_380 rfl 3 rfl ?_
                refine r_iconst dL_law_381 ?_
                refine r_iadd dL_law_382 ?_
                refine r_scr hSc dL_law_383 c48 ?_
                refine r_aload_n dL_law_384 rfl 0 rfl ?_
                refine r_iload_n dL_law_385 rfl 3 rfl ?_
                refine r_iconst dL_law_386 ?_
                refine r_iadd dL_law_387 ?_
                refine r_scr hSc dL_law_388 c49 ?_
                obtain ⟨r54, M55, hc53, h⟩ := of_bd2 h
                refine r_callVI (st := [vI r51]) dL_law_389 v_L_39 (run_X12_lay hc53) (by decide) (by decide) rfl rfl (Nat.le_of_ble_eq_true rfl) rfl ?_
                by_cases c56 : wr r51 = wr r54
                · rw [if_pos c56] at h
                  refine r_icmp_eq (tgt := 1437) dL_law_392 (by decide) (fun _ => ?_) (fun q => absurd c56 q)
                  refine r_iinc (lv2 := [(3, vI (x3 + 6)), (0, vR 1000), (1, vR 0), (2, vR 55)]) dL_law_1437 3 rfl (by decide) rfl ?_
                  refine r_goto (tgt := 18) dL_law_1440 (by decide) ?_
                  refine r_sub (lv2 := [(0, vR 1000), (1, vR 0), (2, vR 55), (3, vI (x3 + 6))]) [1, 2, 3, 0] rfl ?_
                  cases h
                  exact ih _ _  _ (k1 _ rfl) hX
                · rw [if_neg c56] at h
                  refine r_icmp_eq (tgt := 1437) dL_law_392 (by decide) (fun q => absurd q c56) (fun _ => ?_)
                  refine r_iconst dL_law_395 ?_
                  cases h
                  cases k2 _ rfl
                  exact hX2 _ _ hX _ _ dL_law_396
              · rw [if_neg c46] at h
                by_cases c57 : wr (iand (xs (wr x3)) 63) = 5
                · rw [if_pos c57] at h
                  refine r_tabIn (tgt := 397) dL_law_33 5 (c57.trans rfl) (by decide) rfl (by decide) ?_
                  refine r_aload_n dL_law_397 rfl 1 rfl ?_
                  refine r_aload_n dL_law_398 rfl 0 rfl ?_
                  refine r_iload_n dL_law_399 rfl 3 rfl ?_
                  refine r_iconst dL_law_400 ?_
                  refine r_iadd dL_law_401 ?_
                  obtain ⟨c58, h⟩ := of_ck h
                  refine r_scr hSc dL_law_402 c58 ?_
                  obtain ⟨r60, hc59, h⟩ := of_bd1 h
                  refine r_callVI (st := []) dL_law_403 v_L_40 (run_X11_count hc59) (by decide) (by decide) rfl rfl (Nat.le_of_ble_eq_true rfl) rfl ?_
                  refine r_aload_n dL_law_406 rfl 2 rfl ?_
                  refine r_aload_n dL_law_407 rfl 0 rfl ?_
                  refine r_iload_n dL_law_408 rfl 3 rfl ?_
                  refine r_iconst dL_law_409 ?_
                  refine r_iadd dL_law_410 ?_
                  refine r_scr hSc dL_law_411 c58 ?_
                  obtain ⟨r62, hc61, h⟩ := of_bd1 h
                  refine r_callVI (st := [vI r60]) dL_law_412 v_L_44 (run_X12_count hc61) (by decide) (by decide) rfl rfl (Nat.le_of_ble_eq_true rfl) rfl ?_
                  by_cases c63 : wr r60 = wr r62
                  · rw [if_pos c63] at h
                    refine r_icmp_eq (tgt := 1437) dL_law_415 (by decide) (fun _ => ?_) (fun q => absurd c63 q)
                    refine r_iinc (lv2 := [(3, vI (x3 + 6)), (0, vR 1000), (1, vR 0), (2, vR 55)]) dL_law_1437 3 rfl (by decide) rfl ?_
                    refine r_goto (tgt := 18) dL_law_1440 (by decide) ?_
                    refine r_sub (lv2 := [(0, vR 1000), (1, vR 0), (2, vR 55), (3, vI (x3 + 6))]) [1, 2, 3, 0] rfl ?_
                    cases h
                    exact ih _ _  _ (k1 _ rfl) hX
                  · rw [if_neg c63] at h
                    refine r_icmp_eq (tgt := 1437) dL_law_415 (by decide) (fun q => absurd q c63) (fun _ => ?_)
                    refine r_iconst dL_law_418 ?_
                    cases h
                    cases k2 _ rfl
                    exact hX2 _ _ hX _ _ dL_law_419
                · rw [if_neg c57] at h
                  by_cases c64 : wr (iand (xs (wr x3)) 63) = 6
                  · rw [if_pos c64] at h
                    refine r_tabIn (tgt := 420) dL_law_33 6 (c64.trans rfl) (by decide) rfl (by decide) ?_
                    refine r_aload_n dL_law_420 rfl 1 rfl ?_
                    refine r_aload_n dL_law_421 rfl 0 rfl ?_
                    refine r_iload_n dL_law_422 rfl 3 rfl ?_
                    refine r_iconst dL_law_423 ?_
                    refine r_iadd dL_law_424 ?_
                    obtain ⟨c65, h⟩ := of_ck h
                    refine r_scr hSc dL_law_425 c65 ?_
                    refine r_aload_n dL_law_426 rfl 0 rfl ?_
                    refine r_iload_n dL_law_427 rfl 3 rfl ?_
                    refine r_iconst dL_law_428 ?_
                    refine r_iadd dL_law_429 ?_
                    obtain ⟨c66, h⟩ := of_ck h
                    refine r_scr hSc dL_law_430 c66 ?_
                    obtain ⟨r68, M69, hc67, h⟩ := of_bd2 h
                    refine r_callVI (st := []) dL_law_431 v_L_45 (run_X11_want hc67) (by decide) (by decide) rfl rfl (Nat.le_of_ble_eq_true rfl) rfl ?_
                    refine r_aload_n dL_law_434 rfl 2 rfl ?_
                    refine r_aload_n dL_law_435 rfl 0 rfl ?_
                    refine r_iload_n dL_law_436 rfl 3 rfl ?_
                    refine r_iconst dL_law_437 ?_
                    refine r_iadd dL_law_438 ?_
                    refine r_scr hSc dL_law_439 c65 ?_
                    refine r_aload_n dL_law_440 rfl 0 rfl ?_
                    refine r_iload_n dL_law_441 rfl 3 rfl ?_
                    refine r_iconst dL_law_442 ?_
                    refine r_iadd dL_law_443 ?_
                    refine r_scr hSc dL_law_444 c66 ?_
                    obtain ⟨r71, M72, hc70, h⟩ := of_bd2 h
                    refine r_callVI (st := [vI r68]) dL_law_445 v_L_48 (run_X12_want hc70) (by decide) (by decide) rfl rfl (Nat.le_of_ble_eq_true rfl) rfl ?_
                    by_cases c73 : wr r68 = wr r71
                    · rw [if_pos c73] at h
                      refine r_icmp_eq (tgt := 1437) dL_law_448 (by decide) (fun _ => ?_) (fun q => absurd c73 q)
                      refine r_iinc (lv2 := [(3, vI (x3 + 6)), (0, vR 1000), (1, vR 0), (2, vR 55)]) dL_law_1437 3 rfl (by decide) rfl ?_
                      refine r_goto (tgt := 18) dL_law_1440 (by decide) ?_
                      refine r_sub (lv2 := [(0, vR 1000), (1, vR 0), (2, vR 55), (3, vI (x3 + 6))]) [1, 2, 3, 0] rfl ?_
                      cases h
                      exact ih _ _  _ (k1 _ rfl) hX
                    · rw [if_neg c73] at h
                      refine r_icmp_eq (tgt := 1437) dL_law_448 (by decide) (fun q => absurd q c73) (fun _ => ?_)
                      refine r_iconst dL_law_451 ?_
                      cases h
                      cases k2 _ rfl
                      exact hX2 _ _ hX _ _ dL_law_452
                  · rw [if_neg c64] at h
                    by_cases c74 : wr (iand (xs (wr x3)) 63) = 7
                    · rw [if_pos c74] at h
                      refine r_tabIn (tgt := 453) dL_law_33 7 (c74.trans rfl) (by decide) rfl (by decide) ?_
                      refine r_aload_n dL_law_453 rfl 1 rfl ?_
                      refine r_aload_n dL_law_454 rfl 0 rfl ?_
                      refine r_iload_n dL_law_455 rfl 3 rfl ?_
                      refine r_iconst dL_law_456 ?_
                      refine r_iadd dL_law_457 ?_
                      obtain ⟨c75, h⟩ := of_ck h
                      refine r_scr hSc dL_law_458 c75 ?_
                      refine r_aload_n dL_law_459 rfl 0 rfl ?_
                      refine r_iload_n dL_law_460 rfl 3 rfl ?_
                      refine r_iconst dL_law_461 ?_
                      refine r_iadd dL_law_462 ?_
                      obtain ⟨c76, h⟩ := of_ck h
                      refine r_scr hSc dL_law_463 c76 ?_
                      obtain ⟨r78, M79, hc77, h⟩ := of_bd2 h
                      refine r_callVI (st := []) dL_law_464 v_L_49 (run_X11_price hc77) (by decide) (by decide) rfl rfl (Nat.le_of_ble_eq_true rfl) rfl ?_
                      refine r_aload_n dL_law_467 rfl 2 rfl ?_
                      refine r_aload_n dL_law_468 rfl 0 rfl ?_
                      refine r_iload_n dL_law_469 rfl 3 rfl ?_
                      refine r_iconst dL_law_470 ?_
                      refine r_iadd dL_law_471 ?_
                      refine r_scr hSc dL_law_472 c75 ?_
                      refine r_aload_n dL_law_473 rfl 0 rfl ?_
                      refine r_iload_n dL_law_474 rfl 3 rfl ?_
                      refine r_iconst dL_law_475 ?_
                      refine r_iadd dL_law_476 ?_
                      refine r_scr hSc dL_law_477 c76 ?_
                      obtain ⟨r81, M82, hc80, h⟩ := of_bd2 h
                      refine r_callVI (st := [vI r78]) dL_law_478 v_L_52 (run_X12_price hc80) (by decide) (by decide) rfl rfl (Nat.le_of_ble_eq_true rfl) rfl ?_
                      by_cases c83 : wr r78 = wr r81
                      · rw [if_pos c83] at h
                        refine r_icmp_eq (tgt := 1437) dL_law_481 (by decide) (fun _ => ?_) (fun q => absurd c83 q)
                        refine r_iinc (lv2 := [(3, vI (x3 + 6)), (0, vR 1000), (1, vR 0), (2, vR 55)]) dL_law_1437 3 rfl (by decide) rfl ?_
                        refine r_goto (tgt := 18) dL_law_1440 (by decide) ?_
                        refine r_sub (lv2 := [(0, vR 1000), (1, vR 0), (2, vR 55), (3, vI (x3 + 6))]) [1, 2, 3, 0] rfl ?_
                        cases h
                        exact ih _ _  _ (k1 _ rfl) hX
                      · rw [if_neg c83] at h
                        refine r_icmp_eq (tgt := 1437) dL_law_481 (by decide) (fun q => absurd q c83) (fun _ => ?_)
                        refine r_iconst dL_law_484 ?_
                        cases h
                        cases k2 _ rfl
                        exact hX2 _ _ hX _ _ dL_law_485
                    · rw [if_neg c74] at h
                      by_cases c84 : wr (iand (xs (wr x3)) 63) = 8
                      · rw [if_pos c84] at h
                        refine r_tabIn (tgt := 486) dL_law_33 8 (c84.trans rfl) (by decide) rfl (by decide) ?_
                        refine r_aload_n dL_law_486 rfl 1 rfl ?_
                        obtain ⟨r86, M87, hc85, h⟩ := of_bd2 h
                        refine r_callVL (st := []) dL_law_487 v_L_53 (run_X11_pavings hc85) (by decide) (by decide) rfl rfl (Nat.le_of_ble_eq_true rfl) rfl ?_
                        refine r_aload_n dL_law_490 rfl 2 rfl ?_
                        obtain ⟨r89, M90, hc88, h⟩ := of_bd2 h
                        refine r_callVL (st := [vL r86]) dL_law_491 v_L_57 (run_X12_pavings hc88) (by decide) (by decide) rfl rfl (Nat.le_of_ble_eq_true rfl) rfl ?_
                        by_cases c91 : r86 = r89
                        · rw [if_pos c91] at h
                          refine r_lcmp_eq (tgt := 1437) dL_law_494 dL_law_495 (by decide) (fun _ => ?_) (fun q => absurd c91 q)
                          refine r_iinc (lv2 := [(3, vI (x3 + 6)), (0, vR 1000), (1, vR 0), (2, vR 55)]) dL_law_1437 3 rfl (by decide) rfl ?_
                          refine r_goto (tgt := 18) dL_law_1440 (by decide) ?_
                          refine r_sub (lv2 := [(0, vR 1000), (1, vR 0), (2, vR 55), (3, vI (x3 + 6))]) [1, 2, 3, 0] rfl ?_
                          cases h
                          exact ih _ _  _ (k1 _ rfl) hX
                        · rw [if_neg c91] at h
                          refine r_lcmp_eq (tgt := 1437) dL_law_494 dL_law_495 (by decide) (fun q => absurd q c91) (fun _ => ?_)
                          refine r_iconst dL_law_498 ?_
                          cases h
                          cases k2 _ rfl
                          exact hX2 _ _ hX _ _ dL_law_499
                      · rw [if_neg c84] at h
                        by_cases c92 : wr (iand (xs (wr x3)) 63) = 9
                        · rw [if_pos c92] at h
                          refine r_tabIn (tgt := 500) dL_law_33 9 (c92.trans rfl) (by decide) rfl (by decide) ?_
                          refine r_aload_n dL_law_500 rfl 1 rfl ?_
                          refine r_aload_n dL_law_501 rfl 0 rfl ?_
                          refine r_iload_n dL_law_502 rfl 3 rfl ?_
                          refine r_iconst dL_law_503 ?_
                          refine r_iadd dL_law_504 ?_
                          obtain ⟨c93, h⟩ := of_ck h
                          refine r_scr hSc dL_law_505 c93 ?_
                          obtain ⟨r95, M96, hc94, h⟩ := of_bd2 h
                          refine r_callVL (st := []) dL_law_506 v_L_58 (run_X11_share hc94) (by decide) (by decide) rfl rfl (Nat.le_of_ble_eq_true rfl) rfl ?_
                          refine r_aload_n dL_law_509 rfl 2 rfl ?_
                          refine r_aload_n dL_law_510 rfl 0 rfl ?_
                          refine r_iload_n dL_law_511 rfl 3 rfl ?_
                          refine r_iconst dL_law_512 ?_
                          refine r_iadd dL_law_513 ?_
                          refine r_scr hSc dL_law_514 c93 ?_
                          obtain ⟨r98, M99, hc97, h⟩ := of_bd2 h
                          refine r_callVL (st := [vL r95]) dL_law_515 v_L_62 (run_X12_share hc97) (by decide) (by decide) rfl rfl (Nat.le_of_ble_eq_true rfl) rfl ?_
                          by_cases c100 : r95 = r98
                          · rw [if_pos c100] at h
                            refine r_lcmp_eq (tgt := 1437) dL_law_518 dL_law_519 (by decide) (fun _ => ?_) (fun q => absurd c100 q)
                            refine r_iinc (lv2 := [(3, vI (x3 + 6)), (0, vR 1000), (1, vR 0), (2, vR 55)]) dL_law_1437 3 rfl (by decide) rfl ?_
                            refine r_goto (tgt := 18) dL_law_1440 (by decide) ?_
                            refine r_sub (lv2 := [(0, vR 1000), (1, vR 0), (2, vR 55), (3, vI (x3 + 6))]) [1, 2, 3, 0] rfl ?_
                            cases h
                            exact ih _ _  _ (k1 _ rfl) hX
                          · rw [if_neg c100] at h
                            refine r_lcmp_eq (tgt := 1437) dL_law_518 dL_law_519 (by decide) (fun q => absurd q c100) (fun _ => ?_)
                            refine r_iconst dL_law_522 ?_
                            cases h
                            cases k2 _ rfl
                            exact hX2 _ _ hX _ _ dL_law_523
                        · rw [if_neg c92] at h
                          by_cases c101 : wr (iand (xs (wr x3)) 63) = 10
                          · rw [if_pos c101] at h
                            refine r_tabIn (tgt := 524) dL_law_33 10 (c101.trans rfl) (by decide) rfl (by decide) ?_
                            refine r_aload_n dL_law_524 rfl 1 rfl ?_
                            refine r_aload_n dL_law_525 rfl 0 rfl ?_
                            refine r_iload_n dL_law_526 rfl 3 rfl ?_
                            refine r_iconst dL_law_527 ?_
                            refine r_iadd dL_law_528 ?_
                            obtain ⟨c102, h⟩ := of_ck h
                            refine r_scr hSc dL_law_529 c102 ?_
                            obtain ⟨r104, M105, hc103, h⟩ := of_bd2 h
                            refine r_callVI (st := []) dL_law_530 v_L_63 (run_X11_sure hc103) (by decide) (by decide) rfl rfl (Nat.le_of_ble_eq_true rfl) rfl ?_
                            refine r_aload_n dL_law_533 rfl 2 rfl ?_
                            refine r_aload_n dL_law_534 rfl 0 rfl ?_
                            refine r_iload_n dL_law_535 rfl 3 rfl ?_
                            refine r_iconst dL_law_536 ?_
                            refine r_iadd dL_law_537 ?_
                            refine r_scr hSc dL_law_538 c102 ?_
                            obtain ⟨r107, M108, hc106, h⟩ := of_bd2 h
                            refine r_callVI (st := [vI r104]) dL_law_539 v_L_66 (run_X12_sure hc106) (by decide) (by decide) rfl rfl (Nat.le_of_ble_eq_true rfl) rfl ?_
                            by_cases c109 : wr r104 = wr r107
                            · rw [if_pos c109] at h
                              refine r_icmp_eq (tgt := 1437) dL_law_542 (by decide) (fun _ => ?_) (fun q => absurd c109 q)
                              refine r_iinc (lv2 := [(3, vI (x3 + 6)), (0, vR 1000), (1, vR 0), (2, vR 55)]) dL_law_1437 3 rfl (by decide) rfl ?_
                              refine r_goto (tgt := 18) dL_law_1440 (by decide) ?_
                              refine r_sub (lv2 := [(0, vR 1000), (1, vR 0), (2, vR 55), (3, vI (x3 + 6))]) [1, 2, 3, 0] rfl ?_
                              cases h
                              exact ih _ _  _ (k1 _ rfl) hX
                            · rw [if_neg c109] at h
                              refine r_icmp_eq (tgt := 1437) dL_law_542 (by decide) (fun q => absurd q c109) (fun _ => ?_)
                              refine r_iconst dL_law_545 ?_
                              cases h
                              cases k2 _ rfl
                              exact hX2 _ _ hX _ _ dL_law_546
                          · rw [if_neg c101] at h
                            by_cases c110 : wr (iand (xs (wr x3)) 63) = 11
                            · rw [if_pos c110] at h
                              refine r_tabIn (tgt := 547) dL_law_33 11 (c110.trans rfl) (by decide) rfl (by decide) ?_
                              refine r_aload_n dL_law_547 rfl 1 rfl ?_
                              refine r_aload_n dL_law_548 rfl 0 rfl ?_
                              refine r_iload_n dL_law_549 rfl 3 rfl ?_
                              refine r_iconst dL_law_550 ?_
                              refine r_iadd dL_law_551 ?_
                              obtain ⟨c111, h⟩ := of_ck h
                              refine r_scr hSc dL_law_552 c111 ?_
                              refine r_aload_n dL_law_553 rfl 0 rfl ?_
                              refine r_iload_n dL_law_554 rfl 3 rfl ?_
                              refine r_iconst dL_law_555 ?_
                              refine r_iadd dL_law_556 ?_
                              obtain ⟨c112, h⟩ := of_ck h
                              refine r_scr hSc dL_law_557 c112 ?_
                              refine r_i2l dL_law_558 ?_
                              refine r_bipush dL_law_559 (by decide) ?_
                              refine r_lshl dL_law_561 ?_
                              refine r_aload_n dL_law_562 rfl 0 rfl ?_
                              refine r_iload_n dL_law_563 rfl 3 rfl ?_
                              refine r_iconst dL_law_564 ?_
                              refine r_iadd dL_law_565 ?_
                              obtain ⟨c113, h⟩ := of_ck h
                              refine r_scr hSc dL_law_566 c113 ?_
                              refine r_i2l dL_law_567 ?_
                              refine r_ldc2 (v := (4294967295)) dL_law_568 kl_L_23 ?_
                              refine r_land dL_law_571 ?_
                              refine r_lor dL_law_572 ?_
                              obtain ⟨r115, M116, hc114, h⟩ := of_bd2 h
                              refine r_callVI (st := []) dL_law_573 v_L_67 (run_X11_place hc114) (by decide) (by decide) rfl rfl (Nat.le_of_ble_eq_true rfl) rfl ?_
                              refine r_aload_n dL_law_576 rfl 2 rfl ?_
                              refine r_aload_n dL_law_577 rfl 0 rfl ?_
                              refine r_iload_n dL_law_578 rfl 3 rfl ?_
                              refine r_iconst dL_law_579 ?_
                              refine r_iadd dL_law_580 ?_
                              refine r_scr hSc dL_law_581 c111 ?_
                              refine r_aload_n dL_law_582 rfl 0 rfl ?_
                              refine r_iload_n dL_law_583 rfl 3 rfl ?_
                              refine r_iconst dL_law_584 ?_
                              refine r_iadd dL_law_585 ?_
                              refine r_scr hSc dL_law_586 c112 ?_
                              refine r_i2l dL_law_587 ?_
                              refine r_bipush dL_law_588 (by decide) ?_
                              refine r_lshl dL_law_590 ?_
                              refine r_aload_n dL_law_591 rfl 0 rfl ?_
                              refine r_iload_n dL_law_592 rfl 3 rfl ?_
                              refine r_iconst dL_law_593 ?_
                              refine r_iadd dL_law_594 ?_
                              refine r_scr hSc dL_law_595 c113 ?_
                              refine r_i2l dL_law_596 ?_
                              refine r_ldc2 (v := (4294967295)) dL_law_597 kl_L_23 ?_
                              refine r_land dL_law_600 ?_
                              refine r_lor dL_law_601 ?_
                              obtain ⟨r118, M119, hc117, h⟩ := of_bd2 h
                              refine r_callVI (st := [vI r115]) dL_law_602 v_L_71 (run_X12_place hc117) (by decide) (by decide) rfl rfl (Nat.le_of_ble_eq_true rfl) rfl ?_
                              by_cases c120 : wr r115 = wr r118
                              · rw [if_pos c120] at h
                                refine r_icmp_eq (tgt := 1437) dL_law_605 (by decide) (fun _ => ?_) (fun q => absurd c120 q)
                                refine r_iinc (lv2 := [(3, vI (x3 + 6)), (0, vR 1000), (1, vR 0), (2, vR 55)]) dL_law_1437 3 rfl (by decide) rfl ?_
                                refine r_goto (tgt := 18) dL_law_1440 (by decide) ?_
                                refine r_sub (lv2 := [(0, vR 1000), (1, vR 0), (2, vR 55), (3, vI (x3 + 6))]) [1, 2, 3, 0] rfl ?_
                                cases h
                                exact ih _ _  _ (k1 _ rfl) hX
                              · rw [if_neg c120] at h
                                refine r_icmp_eq (tgt := 1437) dL_law_605 (by decide) (fun q => absurd q c120) (fun _ => ?_)
                                refine r_iconst dL_law_608 ?_
                                cases h
                                cases k2 _ rfl
                                exact hX2 _ _ hX _ _ dL_law_609
                            · rw [if_neg c110] at h
                              by_cases c121 : wr (iand (xs (wr x3)) 63) = 12
                              · rw [if_pos c121] at h
                                refine r_tabIn (tgt := 610) dL_law_33 12 (c121.trans rfl) (by decide) rfl (by decide) ?_
                                refine r_aload_n dL_law_610 rfl 1 rfl ?_
                                refine r_aload_n dL_law_611 rfl 0 rfl ?_
                                refine r_iload_n dL_law_612 rfl 3 rfl ?_
                                refine r_iconst dL_law_613 ?_
                                refine r_iadd dL_law_614 ?_
                                obtain ⟨c122, h⟩ := of_ck h
                                refine r_scr hSc dL_law_615 c122 ?_
                                obtain ⟨r124, M125, hc123, h⟩ := of_bd2 h
                                refine r_callVL (st := []) dL_law_616 v_L_72 (run_X11_rank hc123) (by decide) (by decide) rfl rfl (Nat.le_of_ble_eq_true rfl) rfl ?_
                                refine r_aload_n dL_law_619 rfl 2 rfl ?_
                                refine r_aload_n dL_law_620 rfl 0 rfl ?_
                                refine r_iload_n dL_law_621 rfl 3 rfl ?_
                                refine r_iconst dL_law_622 ?_
                                refine r_iadd dL_law_623 ?_
                                refine r_scr hSc dL_law_624 c122 ?_
                                obtain ⟨r127, M128, hc126, h⟩ := of_bd2 h
                                refine r_callVL (st := [vL r124]) dL_law_625 v_L_75 (run_X12_rank hc126) (by decide) (by decide) rfl rfl (Nat.le_of_ble_eq_true rfl) rfl ?_
                                by_cases c129 : r124 = r127
                                · rw [if_pos c129] at h
                                  refine r_lcmp_eq (tgt := 1437) dL_law_628 dL_law_629 (by decide) (fun _ => ?_) (fun q => absurd c129 q)
                                  refine r_iinc (lv2 := [(3, vI (x3 + 6)), (0, vR 1000), (1, vR 0), (2, vR 55)]) dL_law_1437 3 rfl (by decide) rfl ?_
                                  refine r_goto (tgt := 18) dL_law_1440 (by decide) ?_
                                  refine r_sub (lv2 := [(0, vR 1000), (1, vR 0), (2, vR 55), (3, vI (x3 + 6))]) [1, 2, 3, 0] rfl ?_
                                  cases h
                                  exact ih _ _  _ (k1 _ rfl) hX
                                · rw [if_neg c129] at h
                                  refine r_lcmp_eq (tgt := 1437) dL_law_628 dL_law_629 (by decide) (fun q => absurd q c129) (fun _ => ?_)
                                  refine r_iconst dL_law_632 ?_
                                  cases h
                                  cases k2 _ rfl
                                  exact hX2 _ _ hX _ _ dL_law_633
                              · rw [if_neg c121] at h
                                by_cases c130 : wr (iand (xs (wr x3)) 63) = 13
                                · rw [if_pos c130] at h
                                  refine r_tabIn (tgt := 634) dL_law_33 13 (c130.trans rfl) (by decide) rfl (by decide) ?_
                                  refine r_aload_n dL_law_634 rfl 1 rfl ?_
                                  refine r_aload_n dL_law_635 rfl 0 rfl ?_
                                  refine r_iload_n dL_law_636 rfl 3 rfl ?_
                                  refine r_iconst dL_law_637 ?_
                                  refine r_iadd dL_law_638 ?_
                                  obtain ⟨c131, h⟩ := of_ck h
                                  refine r_scr hSc dL_law_639 c131 ?_
                                  refine r_aload_n dL_law_640 rfl 0 rfl ?_
                                  refine r_iload_n dL_law_641 rfl 3 rfl ?_
                                  refine r_iconst dL_law_642 ?_
                                  refine r_iadd dL_law_643 ?_
                                  obtain ⟨c132, h⟩ := of_ck h
                                  refine r_scr hSc dL_law_644 c132 ?_
                                  obtain ⟨r134, hc133, h⟩ := of_bd1 h
                                  refine r_callVI (st := []) dL_law_645 v_L_76 (run_X11_brick hc133) (by decide) (by decide) rfl rfl (Nat.le_of_ble_eq_true rfl) rfl ?_
                                  refine r_aload_n dL_law_648 rfl 2 rfl ?_
                                  refine r_aload_n dL_law_649 rfl 0 rfl ?_
                                  refine r_iload_n dL_law_650 rfl 3 rfl ?_
                                  refine r_iconst dL_law_651 ?_
                                  refine r_iadd dL_law_652 ?_
                                  refine r_scr hSc dL_law_653 c131 ?_
                                  refine r_aload_n dL_law_654 rfl 0 rfl ?_
                                  refine r_iload_n dL_law_655 rfl 3 rfl ?_
                                  refine r_iconst dL_law_656 ?_
                                  refine r_iadd dL_law_657 ?_
                                  refine r_scr hSc dL_law_658 c132 ?_
                                  obtain ⟨r136, hc135, h⟩ := of_bd1 h
                                  refine r_callVI (st := [vI r134]) dL_law_659 v_L_79 (run_X12_brick hc135) (by decide) (by decide) rfl rfl (Nat.le_of_ble_eq_true rfl) rfl ?_
                                  by_cases c137 : wr r134 = wr r136
                                  · rw [if_pos c137] at h
                                    refine r_icmp_eq (tgt := 1437) dL_law_662 (by decide) (fun _ => ?_) (fun q => absurd c137 q)
                                    refine r_iinc (lv2 := [(3, vI (x3 + 6)), (0, vR 1000), (1, vR 0), (2, vR 55)]) dL_law_1437 3 rfl (by decide) rfl ?_
                                    refine r_goto (tgt := 18) dL_law_1440 (by decide) ?_
                                    refine r_sub (lv2 := [(0, vR 1000), (1, vR 0), (2, vR 55), (3, vI (x3 + 6))]) [1, 2, 3, 0] rfl ?_
                                    cases h
                                    exact ih _ _  _ (k1 _ rfl) hX
                                  · rw [if_neg c137] at h
                                    refine r_icmp_eq (tgt := 1437) dL_law_662 (by decide) (fun q => absurd q c137) (fun _ => ?_)
                                    refine r_iconst dL_law_665 ?_
                                    cases h
                                    cases k2 _ rfl
                                    exact hX2 _ _ hX _ _ dL_law_666
                                · rw [if_neg c130] at h
                                  by_cases c138 : wr (iand (xs (wr x3)) 63) = 14
                                  · rw [if_pos c138] at h
                                    refine r_tabIn (tgt := 667) dL_law_33 14 (c138.trans rfl) (by decide) rfl (by decide) ?_
                                    refine r_aload_n dL_law_667 rfl 1 rfl ?_
                                    refine r_aload_n dL_law_668 rfl 0 rfl ?_
                                    refine r_iload_n dL_law_669 rfl 3 rfl ?_
                                    refine r_iconst dL_law_670 ?_
                                    refine r_iadd dL_law_671 ?_
                                    obtain ⟨c139, h⟩ := of_ck h
                                    refine r_scr hSc dL_law_672 c139 ?_
                                    obtain ⟨r141, M142, hc140, h⟩ := of_bd2 h
                                    refine r_callVI (st := []) dL_law_673 v_L_80 (run_X11_cheapest hc140) (by decide) (by decide) rfl rfl (Nat.le_of_ble_eq_true rfl) rfl ?_
                                    refine r_aload_n dL_law_676 rfl 2 rfl ?_
                                    refine r_aload_n dL_law_677 rfl 0 rfl ?_
                                    refine r_iload_n dL_law_678 rfl 3 rfl ?_
                                    refine r_iconst dL_law_679 ?_
                                    refine r_iadd dL_law_680 ?_
                                    refine r_scr hSc dL_law_681 c139 ?_
                                    obtain ⟨r144, M145, hc143, h⟩ := of_bd2 h
                                    refine r_callVI (st := [vI r141]) dL_law_682 v_L_83 (run_X12_cheapest hc143) (by decide) (by decide) rfl rfl (Nat.le_of_ble_eq_true rfl) rfl ?_
                                    by_cases c146 : wr r141 = wr r144
                                    · rw [if_pos c146] at h
                                      refine r_icmp_eq (tgt := 1437) dL_law_685 (by decide) (fun _ => ?_) (fun q => absurd c146 q)
                                      refine r_iinc (lv2 := [(3, vI (x3 + 6)), (0, vR 1000), (1, vR 0), (2, vR 55)]) dL_law_1437 3 rfl (by decide) rfl ?_
                                      refine r_goto (tgt := 18) dL_law_1440 (by decide) ?_
                                      refine r_sub (lv2 := [(0, vR 1000), (1, vR 0), (2, vR 55), (3, vI (x3 + 6))]) [1, 2, 3, 0] rfl ?_
                                      cases h
                                      exact ih _ _  _ (k1 _ rfl) hX
                                    · rw [if_neg c146] at h
                                      refine r_icmp_eq (tgt := 1437) dL_law_685 (by decide) (fun q => absurd q c146) (fun _ => ?_)
                                      refine r_iconst dL_law_688 ?_
                                      cases h
                                      cases k2 _ rfl
                                      exact hX2 _ _ hX _ _ dL_law_689
                                  · rw [if_neg c138] at h
                                    by_cases c147 : wr (iand (xs (wr x3)) 63) = 15
                                    · rw [if_pos c147] at h
                                      refine r_tabIn (tgt := 690) dL_law_33 15 (c147.trans rfl) (by decide) rfl (by decide) ?_
                                      refine r_aload_n dL_law_690 rfl 1 rfl ?_
                                      refine r_aload_n dL_law_691 rfl 0 rfl ?_
                                      refine r_iload_n dL_law_692 rfl 3 rfl ?_
                                      refine r_iconst dL_law_693 ?_
                                      refine r_iadd dL_law_694 ?_
                                      obtain ⟨c148, h⟩ := of_ck h
                                      refine r_scr hSc dL_law_695 c148 ?_
                                      obtain ⟨r150, hc149, h⟩ := of_bd1 h
                                      refine r_callVI (st := []) dL_law_696 v_L_84 (run_X11_cost hc149) (by decide) (by decide) rfl rfl (Nat.le_of_ble_eq_true rfl) rfl ?_
                                      refine r_aload_n dL_law_699 rfl 2 rfl ?_
                                      refine r_aload_n dL_law_700 rfl 0 rfl ?_
                                      refine r_iload_n dL_law_701 rfl 3 rfl ?_
                                      refine r_iconst dL_law_702 ?_
                                      refine r_iadd dL_law_703 ?_
                                      refine r_scr hSc dL_law_704 c148 ?_
                                      obtain ⟨r152, hc151, h⟩ := of_bd1 h
                                      refine r_callVI (st := [vI r150]) dL_law_705 v_L_87 (run_X12_cost hc151) (by decide) (by decide) rfl rfl (Nat.le_of_ble_eq_true rfl) rfl ?_
                                      by_cases c153 : wr r150 = wr r152
                                      · rw [if_pos c153] at h
                                        refine r_icmp_eq (tgt := 1437) dL_law_708 (by decide) (fun _ => ?_) (fun q => absurd c153 q)
                                        refine r_iinc (lv2 := [(3, vI (x3 + 6)), (0, vR 1000), (1, vR 0), (2, vR 55)]) dL_law_1437 3 rfl (by decide) rfl ?_
                                        refine r_goto (tgt := 18) dL_law_1440 (by decide) ?_
                                        refine r_sub (lv2 := [(0, vR 1000), (1, vR 0), (2, vR 55), (3, vI (x3 + 6))]) [1, 2, 3, 0] rfl ?_
                                        cases h
                                        exact ih _ _  _ (k1 _ rfl) hX
                                      · rw [if_neg c153] at h
                                        refine r_icmp_eq (tgt := 1437) dL_law_708 (by decide) (fun q => absurd q c153) (fun _ => ?_)
                                        refine r_iconst dL_law_711 ?_
                                        cases h
                                        cases k2 _ rfl
                                        exact hX2 _ _ hX _ _ dL_law_712
                                    · rw [if_neg c147] at h
                                      by_cases c154 : wr (iand (xs (wr x3)) 63) = 16
                                      · rw [if_pos c154] at h
                                        refine r_tabIn (tgt := 713) dL_law_33 16 (c154.trans rfl) (by decide) rfl (by decide) ?_
                                        refine r_aload_n dL_law_713 rfl 1 rfl ?_
                                        refine r_aload_n dL_law_714 rfl 0 rfl ?_
                                        refine r_iload_n dL_law_715 rfl 3 rfl ?_
                                        refine r_iconst dL_law_716 ?_
                                        refine r_iadd dL_law_717 ?_
                                        obtain ⟨c155, h⟩ := of_ck h
                                        refine r_scr hSc dL_law_718 c155 ?_
                                        refine r_aload_n dL_law_719 rfl 0 rfl ?_
                                        refine r_iload_n dL_law_720 rfl 3 rfl ?_
                                        refine r_iconst dL_law_721 ?_
                                        refine r_iadd dL_law_722 ?_
                                        obtain ⟨c156, h⟩ := of_ck h
                                        refine r_scr hSc dL_law_723 c156 ?_
                                        obtain ⟨r158, M159, hc157, h⟩ := of_bd2 h
                                        refine r_callVI (st := []) dL_law_724 v_L_88 (run_X11_keep hc157) (by decide) (by decide) rfl rfl (Nat.le_of_ble_eq_true rfl) rfl ?_
                                        refine r_aload_n dL_law_727 rfl 2 rfl ?_
                                        refine r_aload_n dL_law_728 rfl 0 rfl ?_
                                        refine r_iload_n dL_law_729 rfl 3 rfl ?_
                                        refine r_iconst dL_law_730 ?_
                                        refine r_iadd dL_law_731 ?_
                                        refine r_scr hSc dL_law_732 c155 ?_
                                        refine r_aload_n dL_law_733 rfl 0 rfl ?_
                                        refine r_iload_n dL_law_734 rfl 3 rfl ?_
                                        refine r_iconst dL_law_735 ?_
                                        refine r_iadd dL_law_736 ?_
                                        refine r_scr hSc dL_law_737 c156 ?_
                                        obtain ⟨r161, M162, hc160, h⟩ := of_bd2 h
                                        refine r_callVI (st := [vI r158]) dL_law_738 v_L_91 (run_X12_keep hc160) (by decide) (by decide) rfl rfl (Nat.le_of_ble_eq_true rfl) rfl ?_
                                        by_cases c163 : wr r158 = wr r161
                                        · rw [if_pos c163] at h
                                          refine r_icmp_eq (tgt := 1437) dL_law_741 (by decide) (fun _ => ?_) (fun q => absurd c163 q)
                                          refine r_iinc (lv2 := [(3, vI (x3 + 6)), (0, vR 1000), (1, vR 0), (2, vR 55)]) dL_law_1437 3 rfl (by decide) rfl ?_
                                          refine r_goto (tgt := 18) dL_law_1440 (by decide) ?_
                                          refine r_sub (lv2 := [(0, vR 1000), (1, vR 0), (2, vR 55), (3, vI (x3 + 6))]) [1, 2, 3, 0] rfl ?_
                                          cases h
                                          exact ih _ _  _ (k1 _ rfl) hX
                                        · rw [if_neg c163] at h
                                          refine r_icmp_eq (tgt := 1437) dL_law_741 (by decide) (fun q => absurd q c163) (fun _ => ?_)
                                          refine r_iconst dL_law_744 ?_
                                          cases h
                                          cases k2 _ rfl
                                          exact hX2 _ _ hX _ _ dL_law_745
                                      · rw [if_neg c154] at h
                                        by_cases c164 : wr (iand (xs (wr x3)) 63) = 17
                                        · rw [if_pos c164] at h
                                          refine r_tabIn (tgt := 746) dL_law_33 17 (c164.trans rfl) (by decide) rfl (by decide) ?_
                                          refine r_aload_n dL_law_746 rfl 1 rfl ?_
                                          refine r_aload_n dL_law_747 rfl 0 rfl ?_
                                          refine r_iload_n dL_law_748 rfl 3 rfl ?_
                                          refine r_iconst dL_law_749 ?_
                                          refine r_iadd dL_law_750 ?_
                                          obtain ⟨c165, h⟩ := of_ck h
                                          refine r_scr hSc dL_law_751 c165 ?_
                                          refine r_aload_n dL_law_752 rfl 0 rfl ?_
                                          refine r_iload_n dL_law_753 rfl 3 rfl ?_
                                          refine r_iconst dL_law_754 ?_
                                          refine r_iadd dL_law_755 ?_
                                          obtain ⟨c166, h⟩ := of_ck h
                                          refine r_scr hSc dL_law_756 c166 ?_
                                          refine r_aload_n dL_law_757 rfl 0 rfl ?_
                                          refine r_iload_n dL_law_758 rfl 3 rfl ?_
                                          refine r_iconst dL_law_759 ?_
                                          refine r_iadd dL_law_760 ?_
                                          obtain ⟨c167, h⟩ := of_ck h
                                          refine r_scr hSc dL_law_761 c167 ?_
                                          obtain ⟨r169, M170, hc168, h⟩ := of_bd2 h
                                          refine r_callVI (st := []) dL_law_762 v_L_92 (run_X11_bricks hc168) (by decide) (by decide) rfl rfl (Nat.le_of_ble_eq_true rfl) rfl ?_
                                          refine r_aload_n dL_law_765 rfl 2 rfl ?_
                                          refine r_aload_n dL_law_766 rfl 0 rfl ?_
                                          refine r_iload_n dL_law_767 rfl 3 rfl ?_
                                          refine r_iconst dL_law_768 ?_
                                          refine r_iadd dL_law_769 ?_
                                          refine r_scr hSc dL_law_770 c165 ?_
                                          refine r_aload_n dL_law_771 rfl 0 rfl ?_
                                          refine r_iload_n dL_law_772 rfl 3 rfl ?_
                                          refine r_iconst dL_law_773 ?_
                                          refine r_iadd dL_law_774 ?_
                                          refine r_scr hSc dL_law_775 c166 ?_
                                          refine r_aload_n dL_law_776 rfl 0 rfl ?_
                                          refine r_iload_n dL_law_777 rfl 3 rfl ?_
                                          refine r_iconst dL_law_778 ?_
                                          refine r_iadd dL_law_779 ?_
                                          refine r_scr hSc dL_law_780 c167 ?_
                                          obtain ⟨r172, M173, hc171, h⟩ := of_bd2 h
                                          refine r_callVI (st := [vI r169]) dL_law_781 v_L_95 (run_X12_bricks hc171) (by decide) (by decide) rfl rfl (Nat.le_of_ble_eq_true rfl) rfl ?_
                                          by_cases c174 : wr r169 = wr r172
                                          · rw [if_pos c174] at h
                                            refine r_icmp_eq (tgt := 1437) dL_law_784 (by decide) (fun _ => ?_) (fun q => absurd c174 q)
                                            refine r_iinc (lv2 := [(3, vI (x3 + 6)), (0, vR 1000), (1, vR 0), (2, vR 55)]) dL_law_1437 3 rfl (by decide) rfl ?_
                                            refine r_goto (tgt := 18) dL_law_1440 (by decide) ?_
                                            refine r_sub (lv2 := [(0, vR 1000), (1, vR 0), (2, vR 55), (3, vI (x3 + 6))]) [1, 2, 3, 0] rfl ?_
                                            cases h
                                            exact ih _ _  _ (k1 _ rfl) hX
                                          · rw [if_neg c174] at h
                                            refine r_icmp_eq (tgt := 1437) dL_law_784 (by decide) (fun q => absurd q c174) (fun _ => ?_)
                                            refine r_iconst dL_law_787 ?_
                                            cases h
                                            cases k2 _ rfl
                                            exact hX2 _ _ hX _ _ dL_law_788
                                        · rw [if_neg c164] at h
                                          by_cases c175 : wr (iand (xs (wr x3)) 63) = 18
                                          · rw [if_pos c175] at h
                                            refine r_tabIn (tgt := 789) dL_law_33 18 (c175.trans rfl) (by decide) rfl (by decide) ?_
                                            refine r_aload_n dL_law_789 rfl 1 rfl ?_
                                            obtain ⟨r177, M178, hc176, h⟩ := of_bd2 h
                                            refine r_callVI (st := []) dL_law_790 v_L_96 (run_X11_most hc176) (by decide) (by decide) rfl rfl (Nat.le_of_ble_eq_true rfl) rfl ?_
                                            refine r_aload_n dL_law_793 rfl 2 rfl ?_
                                            obtain ⟨r180, M181, hc179, h⟩ := of_bd2 h
                                            refine r_callVI (st := [vI r177]) dL_law_794 v_L_99 (run_X12_most hc179) (by decide) (by decide) rfl rfl (Nat.le_of_ble_eq_true rfl) rfl ?_
                                            by_cases c182 : wr r177 = wr r180
                                            · rw [if_pos c182] at h
                                              refine r_icmp_eq (tgt := 1437) dL_law_797 (by decide) (fun _ => ?_) (fun q => absurd c182 q)
                                              refine r_iinc (lv2 := [(3, vI (x3 + 6)), (0, vR 1000), (1, vR 0), (2, vR 55)]) dL_law_1437 3 rfl (by decide) rfl ?_
                                              refine r_goto (tgt := 18) dL_law_1440 (by decide) ?_
                                              refine r_sub (lv2 := [(0, vR 1000), (1, vR 0), (2, vR 55), (3, vI (x3 + 6))]) [1, 2, 3, 0] rfl ?_
                                              cases h
                                              exact ih _ _  _ (k1 _ rfl) hX
                                            · rw [if_neg c182] at h
                                              refine r_icmp_eq (tgt := 1437) dL_law_797 (by decide) (fun q => absurd q c182) (fun _ => ?_)
                                              refine r_iconst dL_law_800 ?_
                                              cases h
                                              cases k2 _ rfl
                                              exact hX2 _ _ hX _ _ dL_law_801
                                          · rw [if_neg c175] at h
                                            by_cases c183 : wr (iand (xs (wr x3)) 63) = 19
                                            · rw [if_pos c183] at h
                                              refine r_tabIn (tgt := 802) dL_law_33 19 (c183.trans rfl) (by decide) rfl (by decide) ?_
                                              refine r_aload_n dL_law_802 rfl 1 rfl ?_
                                              refine r_aload_n dL_law_803 rfl 0 rfl ?_
                                              refine r_iload_n dL_law_804 rfl 3 rfl ?_
                                              refine r_iconst dL_law_805 ?_
                                              refine r_iadd dL_law_806 ?_
                                              obtain ⟨c184, h⟩ := of_ck h
                                              refine r_scr hSc dL_law_807 c184 ?_
                                              refine r_aload_n dL_law_808 rfl 0 rfl ?_
                                              refine r_iload_n dL_law_809 rfl 3 rfl ?_
                                              refine r_iconst dL_law_810 ?_
                                              refine r_iadd dL_law_811 ?_
                                              obtain ⟨c185, h⟩ := of_ck h
                                              refine r_scr hSc dL_law_812 c185 ?_
                                              obtain ⟨r187, M188, hc186, h⟩ := of_bd2 h
                                              refine r_callVI (st := []) dL_law_813 v_L_100 (run_X11_bar hc186) (by decide) (by decide) rfl rfl (Nat.le_of_ble_eq_true rfl) rfl ?_
                                              refine r_aload_n dL_law_816 rfl 2 rfl ?_
                                              refine r_aload_n dL_law_817 rfl 0 rfl ?_
                                              refine r_iload_n dL_law_818 rfl 3 rfl ?_
                                              refine r_iconst dL_law_819 ?_
                                              refine r_iadd dL_law_820 ?_
                                              refine r_scr hSc dL_law_821 c184 ?_
                                              refine r_aload_n dL_law_822 rfl 0 rfl ?_
                                              refine r_iload_n dL_law_823 rfl 3 rfl ?_
                                              refine r_iconst dL_law_824 ?_
                                              refine r_iadd dL_law_825 ?_
                                              refine r_scr hSc dL_law_826 c185 ?_
                                              obtain ⟨r190, M191, hc189, h⟩ := of_bd2 h
                                              refine r_callVI (st := [vI r187]) dL_law_827 v_L_103 (run_X12_bar hc189) (by decide) (by decide) rfl rfl (Nat.le_of_ble_eq_true rfl) rfl ?_
                                              by_cases c192 : wr r187 = wr r190
                                              · rw [if_pos c192] at h
                                                refine r_icmp_eq (tgt := 1437) dL_law_830 (by decide) (fun _ => ?_) (fun q => absurd c192 q)
                                                refine r_iinc (lv2 := [(3, vI (x3 + 6)), (0, vR 1000), (1, vR 0), (2, vR 55)]) dL_law_1437 3 rfl (by decide) rfl ?_
                                                refine r_goto (tgt := 18) dL_law_1440 (by decide) ?_
                                                refine r_sub (lv2 := [(0, vR 1000), (1, vR 0), (2, vR 55), (3, vI (x3 + 6))]) [1, 2, 3, 0] rfl ?_
                                                cases h
                                                exact ih _ _  _ (k1 _ rfl) hX
                                              · rw [if_neg c192] at h
                                                refine r_icmp_eq (tgt := 1437) dL_law_830 (by decide) (fun q => absurd q c192) (fun _ => ?_)
                                                refine r_iconst dL_law_833 ?_
                                                cases h
                                                cases k2 _ rfl
                                                exact hX2 _ _ hX _ _ dL_law_834
                                            · rw [if_neg c183] at h
                                              by_cases c193 : wr (iand (xs (wr x3)) 63) = 20
                                              · rw [if_pos c193] at h
                                                refine r_tabIn (tgt := 835) dL_law_33 20 (c193.trans rfl) (by decide) rfl (by decide) ?_
                                                refine r_aload_n dL_law_835 rfl 1 rfl ?_
                                                refine r_aload_n dL_law_836 rfl 0 rfl ?_
                                                refine r_iload_n dL_law_837 rfl 3 rfl ?_
                                                refine r_iconst dL_law_838 ?_
                                                refine r_iadd dL_law_839 ?_
                                                obtain ⟨c194, h⟩ := of_ck h
                                                refine r_scr hSc dL_law_840 c194 ?_
                                                refine r_aload_n dL_law_841 rfl 0 rfl ?_
                                                refine r_iload_n dL_law_842 rfl 3 rfl ?_
                                                refine r_iconst dL_law_843 ?_
                                                refine r_iadd dL_law_844 ?_
                                                obtain ⟨c195, h⟩ := of_ck h
                                                refine r_scr hSc dL_law_845 c195 ?_
                                                obtain ⟨r197, M198, hc196, h⟩ := of_bd2 h
                                                refine r_callVI (st := []) dL_law_846 v_L_104 (run_X11_bars hc196) (by decide) (by decide) rfl rfl (Nat.le_of_ble_eq_true rfl) rfl ?_
                                                refine r_aload_n dL_law_849 rfl 2 rfl ?_
                                                refine r_aload_n dL_law_850 rfl 0 rfl ?_
                                                refine r_iload_n dL_law_851 rfl 3 rfl ?_
                                                refine r_iconst dL_law_852 ?_
                                                refine r_iadd dL_law_853 ?_
                                                refine r_scr hSc dL_law_854 c194 ?_
                                                refine r_aload_n dL_law_855 rfl 0 rfl ?_
                                                refine r_iload_n dL_law_856 rfl 3 rfl ?_
                                                refine r_iconst dL_law_857 ?_
                                                refine r_iadd dL_law_858 ?_
                                                refine r_scr hSc dL_law_859 c195 ?_
                                                obtain ⟨r200, M201, hc199, h⟩ := of_bd2 h
                                                refine r_callVI (st := [vI r197]) dL_law_860 v_L_107 (run_X12_bars hc199) (by decide) (by decide) rfl rfl (Nat.le_of_ble_eq_true rfl) rfl ?_
                                                by_cases c202 : wr r197 = wr r200
                                                · rw [if_pos c202] at h
                                                  refine r_icmp_eq (tgt := 1437) dL_law_863 (by decide) (fun _ => ?_) (fun q => absurd c202 q)
                                                  refine r_iinc (lv2 := [(3, vI (x3 + 6)), (0, vR 1000), (1, vR 0), (2, vR 55)]) dL_law_1437 3 rfl (by decide) rfl ?_
                                                  refine r_goto (tgt := 18) dL_law_1440 (by decide) ?_
                                                  refine r_sub (lv2 := [(0, vR 1000), (1, vR 0), (2, vR 55), (3, vI (x3 + 6))]) [1, 2, 3, 0] rfl ?_
                                                  cases h
                                                  exact ih _ _  _ (k1 _ rfl) hX
                                                · rw [if_neg c202] at h
                                                  refine r_icmp_eq (tgt := 1437) dL_law_863 (by decide) (fun q => absurd q c202) (fun _ => ?_)
                                                  refine r_iconst dL_law_866 ?_
                                                  cases h
                                                  cases k2 _ rfl
                                                  exact hX2 _ _ hX _ _ dL_law_867
                                              · rw [if_neg c193] at h
                                                by_cases c203 : wr (iand (xs (wr x3)) 63) = 21
                                                · rw [if_pos c203] at h
                                                  refine r_tabIn (tgt := 868) dL_law_33 21 (c203.trans rfl) (by decide) rfl (by decide) ?_
                                                  refine r_aload_n dL_law_868 rfl 1 rfl ?_
                                                  obtain ⟨r205, M206, hc204, h⟩ := of_bd2 h
                                                  refine r_callVI (st := []) dL_law_869 v_L_108 (run_X11_whole hc204) (by decide) (by decide) rfl rfl (Nat.le_of_ble_eq_true rfl) rfl ?_
                                                  refine r_aload_n dL_law_872 rfl 2 rfl ?_
                                                  obtain ⟨r208, M209, hc207, h⟩ := of_bd2 h
                                                  refine r_callVI (st := [vI r205]) dL_law_873 v_L_111 (run_X12_whole hc207) (by decide) (by decide) rfl rfl (Nat.le_of_ble_eq_true rfl) rfl ?_
                                                  by_cases c210 : wr r205 = wr r208
                                                  · rw [if_pos c210] at h
                                                    refine r_icmp_eq (tgt := 1437) dL_law_876 (by decide) (fun _ => ?_) (fun q => absurd c210 q)
                                                    refine r_iinc (lv2 := [(3, vI (x3 + 6)), (0, vR 1000), (1, vR 0), (2, vR 55)]) dL_law_1437 3 rfl (by decide) rfl ?_
                                                    refine r_goto (tgt := 18) dL_law_1440 (by decide) ?_
                                                    refine r_sub (lv2 := [(0, vR 1000), (1, vR 0), (2, vR 55), (3, vI (x3 + 6))]) [1, 2, 3, 0] rfl ?_
                                                    cases h
                                                    exact ih _ _  _ (k1 _ rfl) hX
                                                  · rw [if_neg c210] at h
                                                    refine r_icmp_eq (tgt := 1437) dL_law_876 (by decide) (fun q => absurd q c210) (fun _ => ?_)
                                                    refine r_iconst dL_law_879 ?_
                                                    cases h
                                                    cases k2 _ rfl
                                                    exact hX2 _ _ hX _ _ dL_law_880
                                                · rw [if_neg c203] at h
                                                  by_cases c211 : wr (iand (xs (wr x3)) 63) = 22
                                                  · rw [if_pos c211] at h
                                                    refine r_tabIn (tgt := 881) dL_law_33 22 (c211.trans rfl) (by decide) rfl (by decide) ?_
                                                    refine r_aload_n dL_law_881 rfl 1 rfl ?_
                                                    refine r_aload_n dL_law_882 rfl 0 rfl ?_
                                                    refine r_iload_n dL_law_883 rfl 3 rfl ?_
                                                    refine r_iconst dL_law_884 ?_
                                                    refine r_iadd dL_law_885 ?_
                                                    obtain ⟨c212, h⟩ := of_ck h
                                                    refine r_scr hSc dL_law_886 c212 ?_
                                                    refine r_aload_n dL_law_887 rfl 0 rfl ?_
                                                    refine r_iload_n dL_law_888 rfl 3 rfl ?_
                                                    refine r_iconst dL_law_889 ?_
                                                    refine r_iadd dL_law_890 ?_
                                                    obtain ⟨c213, h⟩ := of_ck h
                                                    refine r_scr hSc dL_law_891 c213 ?_
                                                    refine r_aload_n dL_law_892 rfl 0 rfl ?_
                                                    refine r_iload_n dL_law_893 rfl 3 rfl ?_
                                                    refine r_iconst dL_law_894 ?_
                                                    refine r_iadd dL_law_895 ?_
                                                    obtain ⟨c214, h⟩ := of_ck h
                                                    refine r_scr hSc dL_law_896 c214 ?_
                                                    obtain ⟨r216, M217, hc215, h⟩ := of_bd2 h
                                                    refine r_callVI (st := []) dL_law_897 v_L_112 (run_X11_height hc215) (by decide) (by decide) rfl rfl (Nat.le_of_ble_eq_true rfl) rfl ?_
                                                    refine r_aload_n dL_law_900 rfl 2 rfl ?_
                                                    refine r_aload_n dL_law_901 rfl 0 rfl ?_
                                                    refine r_iload_n dL_law_902 rfl 3 rfl ?_
                                                    refine r_iconst dL_law_903 ?_
                                                    refine r_iadd dL_law_904 ?_
                                                    refine r_scr hSc dL_law_905 c212 ?_
                                                    refine r_aload_n dL_law_906 rfl 0 rfl ?_
                                                    refine r_iload_n dL_law_907 rfl 3 rfl ?_
                                                    refine r_iconst dL_law_908 ?_
                                                    refine r_iadd dL_law_909 ?_
                                                    refine r_scr hSc dL_law_910 c213 ?_
                                                    refine r_aload_n dL_law_911 rfl 0 rfl ?_
                                                    refine r_iload_n dL_law_912 rfl 3 rfl ?_
                                                    refine r_iconst dL_law_913 ?_
                                                    refine r_iadd dL_law_914 ?_
                                                    refine r_scr hSc dL_law_915 c214 ?_
                                                    obtain ⟨r219, M220, hc218, h⟩ := of_bd2 h
                                                    refine r_callVI (st := [vI r216]) dL_law_916 v_L_115 (run_X12_height hc218) (by decide) (by decide) rfl rfl (Nat.le_of_ble_eq_true rfl) rfl ?_
                                                    by_cases c221 : wr r216 = wr r219
                                                    · rw [if_pos c221] at h
                                                      refine r_icmp_eq (tgt := 1437) dL_law_919 (by decide) (fun _ => ?_) (fun q => absurd c221 q)
                                                      refine r_iinc (lv2 := [(3, vI (x3 + 6)), (0, vR 1000), (1, vR 0), (2, vR 55)]) dL_law_1437 3 rfl (by decide) rfl ?_
                                                      refine r_goto (tgt := 18) dL_law_1440 (by decide) ?_
                                                      refine r_sub (lv2 := [(0, vR 1000), (1, vR 0), (2, vR 55), (3, vI (x3 + 6))]) [1, 2, 3, 0] rfl ?_
                                                      cases h
                                                      exact ih _ _  _ (k1 _ rfl) hX
                                                    · rw [if_neg c221] at h
                                                      refine r_icmp_eq (tgt := 1437) dL_law_919 (by decide) (fun q => absurd q c221) (fun _ => ?_)
                                                      refine r_iconst dL_law_922 ?_
                                                      cases h
                                                      cases k2 _ rfl
                                                      exact hX2 _ _ hX _ _ dL_law_923
                                                  · rw [if_neg c211] at h
                                                    by_cases c222 : wr (iand (xs (wr x3)) 63) = 23
                                                    · rw [if_pos c222] at h
                                                      refine r_tabIn (tgt := 924) dL_law_33 23 (c222.trans rfl) (by decide) rfl (by decide) ?_
                                                      refine r_aload_n dL_law_924 rfl 1 rfl ?_
                                                      refine r_aload_n dL_law_925 rfl 0 rfl ?_
                                                      refine r_iload_n dL_law_926 rfl 3 rfl ?_
                                                      refine r_iconst dL_law_927 ?_
                                                      refine r_iadd dL_law_928 ?_
                                                      obtain ⟨c223, h⟩ := of_ck h
                                                      refine r_scr hSc dL_law_929 c223 ?_
                                                      refine r_aload_n dL_law_930 rfl 0 rfl ?_
                                                      refine r_iload_n dL_law_931 rfl 3 rfl ?_
                                                      refine r_iconst dL_law_932 ?_
                                                      refine r_iadd dL_law_933 ?_
                                                      obtain ⟨c224, h⟩ := of_ck h
                                                      refine r_scr hSc dL_law_934 c224 ?_
                                                      refine r_aload_n dL_law_935 rfl 0 rfl ?_
                                                      refine r_iload_n dL_law_936 rfl 3 rfl ?_
                                                      refine r_iconst dL_law_937 ?_
                                                      refine r_iadd dL_law_938 ?_
                                                      obtain ⟨c225, h⟩ := of_ck h
                                                      refine r_scr hSc dL_law_939 c225 ?_
                                                      obtain ⟨r227, M228, hc226, h⟩ := of_bd2 h
                                                      refine r_callVI (st := []) dL_law_940 v_L_116 (run_X11_turn hc226) (by decide) (by decide) rfl rfl (Nat.le_of_ble_eq_true rfl) rfl ?_
                                                      refine r_aload_n dL_law_943 rfl 2 rfl ?_
                                                      refine r_aload_n dL_law_944 rfl 0 rfl ?_
                                                      refine r_iload_n dL_law_945 rfl 3 rfl ?_
                                                      refine r_iconst dL_law_946 ?_
                                                      refine r_iadd dL_law_947 ?_
                                                      refine r_scr hSc dL_law_948 c223 ?_
                                                      refine r_aload_n dL_law_949 rfl 0 rfl ?_
                                                      refine r_iload_n dL_law_950 rfl 3 rfl ?_
                                                      refine r_iconst dL_law_951 ?_
                                                      refine r_iadd dL_law_952 ?_
                                                      refine r_scr hSc dL_law_953 c224 ?_
                                                      refine r_aload_n dL_law_954 rfl 0 rfl ?_
                                                      refine r_iload_n dL_law_955 rfl 3 rfl ?_
                                                      refine r_iconst dL_law_956 ?_
                                                      refine r_iadd dL_law_957 ?_
                                                      refine r_scr hSc dL_law_958 c225 ?_
                                                      obtain ⟨r230, M231, hc229, h⟩ := of_bd2 h
                                                      refine r_callVI (st := [vI r227]) dL_law_959 v_L_119 (run_X12_turn hc229) (by decide) (by decide) rfl rfl (Nat.le_of_ble_eq_true rfl) rfl ?_
                                                      by_cases c232 : wr r227 = wr r230
                                                      · rw [if_pos c232] at h
                                                        refine r_icmp_eq (tgt := 1437) dL_law_962 (by decide) (fun _ => ?_) (fun q => absurd c232 q)
                                                        refine r_iinc (lv2 := [(3, vI (x3 + 6)), (0, vR 1000), (1, vR 0), (2, vR 55)]) dL_law_1437 3 rfl (by decide) rfl ?_
                                                        refine r_goto (tgt := 18) dL_law_1440 (by decide) ?_
                                                        refine r_sub (lv2 := [(0, vR 1000), (1, vR 0), (2, vR 55), (3, vI (x3 + 6))]) [1, 2, 3, 0] rfl ?_
                                                        cases h
                                                        exact ih _ _  _ (k1 _ rfl) hX
                                                      · rw [if_neg c232] at h
                                                        refine r_icmp_eq (tgt := 1437) dL_law_962 (by decide) (fun q => absurd q c232) (fun _ => ?_)
                                                        refine r_iconst dL_law_965 ?_
                                                        cases h
                                                        cases k2 _ rfl
                                                        exact hX2 _ _ hX _ _ dL_law_966
                                                    · rw [if_neg c222] at h
                                                      by_cases c233 : wr (iand (xs (wr x3)) 63) = 24
                                                      · rw [if_pos c233] at h
                                                        refine r_tabIn (tgt := 967) dL_law_33 24 (c233.trans rfl) (by decide) rfl (by decide) ?_
                                                        refine r_aload_n dL_law_967 rfl 1 rfl ?_
                                                        refine r_aload_n dL_law_968 rfl 0 rfl ?_
                                                        refine r_iload_n dL_law_969 rfl 3 rfl ?_
                                                        refine r_iconst dL_law_970 ?_
                                                        refine r_iadd dL_law_971 ?_
                                                        obtain ⟨c234, h⟩ := of_ck h
                                                        refine r_scr hSc dL_law_972 c234 ?_
                                                        refine r_aload_n dL_law_973 rfl 0 rfl ?_
                                                        refine r_iload_n dL_law_974 rfl 3 rfl ?_
                                                        refine r_iconst dL_law_975 ?_
                                                        refine r_iadd dL_law_976 ?_
                                                        obtain ⟨c235, h⟩ := of_ck h
                                                        refine r_scr hSc dL_law_977 c235 ?_
                                                        obtain ⟨r237, M238, hc236, h⟩ := of_bd2 h
                                                        refine r_callVI (st := []) dL_law_978 v_L_120 (run_X11_turns hc236) (by decide) (by decide) rfl rfl (Nat.le_of_ble_eq_true rfl) rfl ?_
                                                        refine r_aload_n dL_law_981 rfl 2 rfl ?_
                                                        refine r_aload_n dL_law_982 rfl 0 rfl ?_
                                                        refine r_iload_n dL_law_983 rfl 3 rfl ?_
                                                        refine r_iconst dL_law_984 ?_
                                                        refine r_iadd dL_law_985 ?_
                                                        refine r_scr hSc dL_law_986 c234 ?_
                                                        refine r_aload_n dL_law_987 rfl 0 rfl ?_
                                                        refine r_iload_n dL_law_988 rfl 3 rfl ?_
                                                        refine r_iconst dL_law_989 ?_
                                                        refine r_iadd dL_law_990 ?_
                                                        refine r_scr hSc dL_law_991 c235 ?_
                                                        obtain ⟨r240, M241, hc239, h⟩ := of_bd2 h
                                                        refine r_callVI (st := [vI r237]) dL_law_992 v_L_123 (run_X12_turns hc239) (by decide) (by decide) rfl rfl (Nat.le_of_ble_eq_true rfl) rfl ?_
                                                        by_cases c242 : wr r237 = wr r240
                                                        · rw [if_pos c242] at h
                                                          refine r_icmp_eq (tgt := 1437) dL_law_995 (by decide) (fun _ => ?_) (fun q => absurd c242 q)
                                                          refine r_iinc (lv2 := [(3, vI (x3 + 6)), (0, vR 1000), (1, vR 0), (2, vR 55)]) dL_law_1437 3 rfl (by decide) rfl ?_
                                                          refine r_goto (tgt := 18) dL_law_1440 (by decide) ?_
                                                          refine r_sub (lv2 := [(0, vR 1000), (1, vR 0), (2, vR 55), (3, vI (x3 + 6))]) [1, 2, 3, 0] rfl ?_
                                                          cases h
                                                          exact ih _ _  _ (k1 _ rfl) hX
                                                        · rw [if_neg c242] at h
                                                          refine r_icmp_eq (tgt := 1437) dL_law_995 (by decide) (fun q => absurd q c242) (fun _ => ?_)
                                                          refine r_iconst dL_law_998 ?_
                                                          cases h
                                                          cases k2 _ rfl
                                                          exact hX2 _ _ hX _ _ dL_law_999
                                                      · rw [if_neg c233] at h
                                                        by_cases c243 : wr (iand (xs (wr x3)) 63) = 25
                                                        · rw [if_pos c243] at h
                                                          refine r_tabIn (tgt := 1000) dL_law_33 25 (c243.trans rfl) (by decide) rfl (by decide) ?_
                                                          refine r_aload_n dL_law_1000 rfl 1 rfl ?_
                                                          refine r_aload_n dL_law_1001 rfl 0 rfl ?_
                                                          refine r_iload_n dL_law_1002 rfl 3 rfl ?_
                                                          refine r_iconst dL_law_1003 ?_
                                                          refine r_iadd dL_law_1004 ?_
                                                          obtain ⟨c244, h⟩ := of_ck h
                                                          refine r_scr hSc dL_law_1005 c244 ?_
                                                          refine r_aload_n dL_law_1006 rfl 0 rfl ?_
                                                          refine r_iload_n dL_law_1007 rfl 3 rfl ?_
                                                          refine r_iconst dL_law_1008 ?_
                                                          refine r_iadd dL_law_1009 ?_
                                                          obtain ⟨c245, h⟩ := of_ck h
                                                          refine r_scr hSc dL_law_1010 c245 ?_
                                                          obtain ⟨r247, M248, hc246, h⟩ := of_bd2 h
                                                          refine r_callVI (st := []) dL_law_1011 v_L_124 (run_X11_settle hc246) (by decide) (by decide) rfl rfl (Nat.le_of_ble_eq_true rfl) rfl ?_
                                                          refine r_aload_n dL_law_1014 rfl 2 rfl ?_
                                                          refine r_aload_n dL_law_1015 rfl 0 rfl ?_
                                                          refine r_iload_n dL_law_1016 rfl 3 rfl ?_
                                                          refine r_iconst dL_law_1017 ?_
                                                          refine r_iadd dL_law_1018 ?_
                                                          refine r_scr hSc dL_law_1019 c244 ?_
                                                          refine r_aload_n dL_law_1020 rfl 0 rfl ?_
                                                          refine r_iload_n dL_law_1021 rfl 3 rfl ?_
                                                          refine r_iconst dL_law_1022 ?_
                                                          refine r_iadd dL_law_1023 ?_
                                                          refine r_scr hSc dL_law_1024 c245 ?_
                                                          obtain ⟨r250, M251, hc249, h⟩ := of_bd2 h
                                                          refine r_callVI (st := [vI r247]) dL_law_1025 v_L_127 (run_X12_settle hc249) (by decide) (by decide) rfl rfl (Nat.le_of_ble_eq_true rfl) rfl ?_
                                                          by_cases c252 : wr r247 = wr r250
                                                          · rw [if_pos c252] at h
                                                            refine r_icmp_eq (tgt := 1437) dL_law_1028 (by decide) (fun _ => ?_) (fun q => absurd c252 q)
                                                            refine r_iinc (lv2 := [(3, vI (x3 + 6)), (0, vR 1000), (1, vR 0), (2, vR 55)]) dL_law_1437 3 rfl (by decide) rfl ?_
                                                            refine r_goto (tgt := 18) dL_law_1440 (by decide) ?_
                                                            refine r_sub (lv2 := [(0, vR 1000), (1, vR 0), (2, vR 55), (3, vI (x3 + 6))]) [1, 2, 3, 0] rfl ?_
                                                            cases h
                                                            exact ih _ _  _ (k1 _ rfl) hX
                                                          · rw [if_neg c252] at h
                                                            refine r_icmp_eq (tgt := 1437) dL_law_1028 (by decide) (fun q => absurd q c252) (fun _ => ?_)
                                                            refine r_iconst dL_law_1031 ?_
                                                            cases h
                                                            cases k2 _ rfl
                                                            exact hX2 _ _ hX _ _ dL_law_1032
                                                        · rw [if_neg c243] at h
                                                          by_cases c253 : wr (iand (xs (wr x3)) 63) = 26
                                                          · rw [if_pos c253] at h
                                                            refine r_tabIn (tgt := 1033) dL_law_33 26 (c253.trans rfl) (by decide) rfl (by decide) ?_
                                                            refine r_aload_n dL_law_1033 rfl 1 rfl ?_
                                                            refine r_aload_n dL_law_1034 rfl 0 rfl ?_
                                                            refine r_iload_n dL_law_1035 rfl 3 rfl ?_
                                                            refine r_iconst dL_law_1036 ?_
                                                            refine r_iadd dL_law_1037 ?_
                                                            obtain ⟨c254, h⟩ := of_ck h
                                                            refine r_scr hSc dL_law_1038 c254 ?_
                                                            refine r_aload_n dL_law_1039 rfl 0 rfl ?_
                                                            refine r_iload_n dL_law_1040 rfl 3 rfl ?_
                                                            refine r_iconst dL_law_1041 ?_
                                                            refine r_iadd dL_law_1042 ?_
                                                            obtain ⟨c255, h⟩ := of_ck h
                                                            refine r_scr hSc dL_law_1043 c255 ?_
                                                            obtain ⟨r257, M258, hc256, h⟩ := of_bd2 h
                                                            refine r_callVI (st := []) dL_law_1044 v_L_128 (run_X11_far hc256) (by decide) (by decide) rfl rfl (Nat.le_of_ble_eq_true rfl) rfl ?_
                                                            refine r_aload_n dL_law_1047 rfl 2 rfl ?_
                                                            refine r_aload_n dL_law_1048 rfl 0 rfl ?_
                                                            refine r_iload_n dL_law_1049 rfl 3 rfl ?_
                                                            refine r_iconst dL_law_1050 ?_
                                                            refine r_iadd dL_law_1051 ?_
                                                            refine r_scr hSc dL_law_1052 c254 ?_
                                                            refine r_aload_n dL_law_1053 rfl 0 rfl ?_
                                                            refine r_iload_n dL_law_1054 rfl 3 rfl ?_
                                                            refine r_iconst dL_law_1055 ?_
                                                            refine r_iadd dL_law_1056 ?_
                                                            refine r_scr hSc dL_law_1057 c255 ?_
                                                            obtain ⟨r260, M261, hc259, h⟩ := of_bd2 h
                                                            refine r_callVI (st := [vI r257]) dL_law_1058 v_L_131 (run_X12_far hc259) (by decide) (by decide) rfl rfl (Nat.le_of_ble_eq_true rfl) rfl ?_
                                                            by_cases c262 : wr r257 = wr r260
                                                            · rw [if_pos c262] at h
                                                              refine r_icmp_eq (tgt := 1437) dL_law_1061 (by decide) (fun _ => ?_) (fun q => absurd c262 q)
                                                              refine r_iinc (lv2 := [(3, vI (x3 + 6)), (0, vR 1000), (1, vR 0), (2, vR 55)]) dL_law_1437 3 rfl (by decide) rfl ?_
                                                              refine r_goto (tgt := 18) dL_law_1440 (by decide) ?_
                                                              refine r_sub (lv2 := [(0, vR 1000), (1, vR 0), (2, vR 55), (3, vI (x3 + 6))]) [1, 2, 3, 0] rfl ?_
                                                              cases h
                                                              exact ih _ _  _ (k1 _ rfl) hX
                                                            · rw [if_neg c262] at h
                                                              refine r_icmp_eq (tgt := 1437) dL_law_1061 (by decide) (fun q => absurd q c262) (fun _ => ?_)
                                                              refine r_iconst dL_law_1064 ?_
                                                              cases h
                                                              cases k2 _ rfl
                                                              exact hX2 _ _ hX _ _ dL_law_1065
                                                          · rw [if_neg c253] at h
                                                            by_cases c263 : wr (iand (xs (wr x3)) 63) = 27
                                                            · rw [if_pos c263] at h
                                                              refine r_tabIn (tgt := 1066) dL_law_33 27 (c263.trans rfl) (by decide) rfl (by decide) ?_
                                                              refine r_aload_n dL_law_1066 rfl 1 rfl ?_
                                                              refine r_aload_n dL_law_1067 rfl 0 rfl ?_
                                                              refine r_iload_n dL_law_1068 rfl 3 rfl ?_
                                                              refine r_iconst dL_law_1069 ?_
                                                              refine r_iadd dL_law_1070 ?_
                                                              obtain ⟨c264, h⟩ := of_ck h
                                                              refine r_scr hSc dL_law_1071 c264 ?_
                                                              refine r_aload_n dL_law_1072 rfl 0 rfl ?_
                                                              refine r_iload_n dL_law_1073 rfl 3 rfl ?_
                                                              refine r_iconst dL_law_1074 ?_
                                                              refine r_iadd dL_law_1075 ?_
                                                              obtain ⟨c265, h⟩ := of_ck h
                                                              refine r_scr hSc dL_law_1076 c265 ?_
                                                              obtain ⟨r267, M268, hc266, h⟩ := of_bd2 h
                                                              refine r_callVI (st := []) dL_law_1077 v_L_132 (run_X11_toward hc266) (by decide) (by decide) rfl rfl (Nat.le_of_ble_eq_true rfl) rfl ?_
                                                              refine r_aload_n dL_law_1080 rfl 2 rfl ?_
                                                              refine r_aload_n dL_law_1081 rfl 0 rfl ?_
                                                              refine r_iload_n dL_law_1082 rfl 3 rfl ?_
                                                              refine r_iconst dL_law_1083 ?_
                                                              refine r_iadd dL_law_1084 ?_
                                                              refine r_scr hSc dL_law_1085 c264 ?_
                                                              refine r_aload_n dL_law_1086 rfl 0 rfl ?_
                                                              refine r_iload_n dL_law_1087 rfl 3 rfl ?_
                                                              refine r_iconst dL_law_1088 ?_
                                                              refine r_iadd dL_law_1089 ?_
                                                              refine r_scr hSc dL_law_1090 c265 ?_
                                                              obtain ⟨r270, M271, hc269, h⟩ := of_bd2 h
                                                              refine r_callVI (st := [vI r267]) dL_law_1091 v_L_135 (run_X12_toward hc269) (by decide) (by decide) rfl rfl (Nat.le_of_ble_eq_true rfl) rfl ?_
                                                              by_cases c272 : wr r267 = wr r270
                                                              · rw [if_pos c272] at h
                                                                refine r_icmp_eq (tgt := 1437) dL_law_1094 (by decide) (fun _ => ?_) (fun q => absurd c272 q)
                                                                refine r_iinc (lv2 := [(3, vI (x3 + 6)), (0, vR 1000), (1, vR 0), (2, vR 55)]) dL_law_1437 3 rfl (by decide) rfl ?_
                                                                refine r_goto (tgt := 18) dL_law_1440 (by decide) ?_
                                                                refine r_sub (lv2 := [(0, vR 1000), (1, vR 0), (2, vR 55), (3, vI (x3 + 6))]) [1, 2, 3, 0] rfl ?_
                                                                cases h
                                                                exact ih _ _  _ (k1 _ rfl) hX
                                                              · rw [if_neg c272] at h
                                                                refine r_icmp_eq (tgt := 1437) dL_law_1094 (by decide) (fun q => absurd q c272) (fun _ => ?_)
                                                                refine r_iconst dL_law_1097 ?_
                                                                cases h
                                                                cases k2 _ rfl
                                                                exact hX2 _ _ hX _ _ dL_law_1098
                                                            · rw [if_neg c263] at h
                                                              by_cases c273 : wr (iand (xs (wr x3)) 63) = 28
                                                              · rw [if_pos c273] at h
                                                                refine r_tabIn (tgt := 1099) dL_law_33 28 (c273.trans rfl) (by decide) rfl (by decide) ?_
                                                                refine r_aload_n dL_law_1099 rfl 1 rfl ?_
                                                                refine r_aload_n dL_law_1100 rfl 0 rfl ?_
                                                                refine r_iload_n dL_law_1101 rfl 3 rfl ?_
                                                                refine r_iconst dL_law_1102 ?_
                                                                refine r_iadd dL_law_1103 ?_
                                                                obtain ⟨c274, h⟩ := of_ck h
                                                                refine r_scr hSc dL_law_1104 c274 ?_
                                                                obtain ⟨r276, hc275, h⟩ := of_bd1 h
                                                                refine r_callVI (st := []) dL_law_1105 v_L_136 (run_X11_lines hc275) (by decide) (by decide) rfl rfl (Nat.le_of_ble_eq_true rfl) rfl ?_
                                                                refine r_aload_n dL_law_1108 rfl 2 rfl ?_
                                                                refine r_aload_n dL_law_1109 rfl 0 rfl ?_
                                                                refine r_iload_n dL_law_1110 rfl 3 rfl ?_
                                                                refine r_iconst dL_law_1111 ?_
                                                                refine r_iadd dL_law_1112 ?_
                                                                refine r_scr hSc dL_law_1113 c274 ?_
                                                                obtain ⟨r278, hc277, h⟩ := of_bd1 h
                                                                refine r_callVI (st := [vI r276]) dL_law_1114 v_L_139 (run_X12_lines hc277) (by decide) (by decide) rfl rfl (Nat.le_of_ble_eq_true rfl) rfl ?_
                                                                by_cases c279 : wr r276 = wr r278
                                                                · rw [if_pos c279] at h
                                                                  refine r_icmp_eq (tgt := 1437) dL_law_1117 (by decide) (fun _ => ?_) (fun q => absurd c279 q)
                                                                  refine r_iinc (lv2 := [(3, vI (x3 + 6)), (0, vR 1000), (1, vR 0), (2, vR 55)]) dL_law_1437 3 rfl (by decide) rfl ?_
                                                                  refine r_goto (tgt := 18) dL_law_1440 (by decide) ?_
                                                                  refine r_sub (lv2 := [(0, vR 1000), (1, vR 0), (2, vR 55), (3, vI (x3 + 6))]) [1, 2, 3, 0] rfl ?_
                                                                  cases h
                                                                  exact ih _ _  _ (k1 _ rfl) hX
                                                                · rw [if_neg c279] at h
                                                                  refine r_icmp_eq (tgt := 1437) dL_law_1117 (by decide) (fun q => absurd q c279) (fun _ => ?_)
                                                                  refine r_iconst dL_law_1120 ?_
                                                                  cases h
                                                                  cases k2 _ rfl
                                                                  exact hX2 _ _ hX _ _ dL_law_1121
                                                              · rw [if_neg c273] at h
                                                                by_cases c280 : wr (iand (xs (wr x3)) 63) = 29
                                                                · rw [if_pos c280] at h
                                                                  refine r_tabIn (tgt := 1122) dL_law_33 29 (c280.trans rfl) (by decide) rfl (by decide) ?_
                                                                  refine r_aload_n dL_law_1122 rfl 1 rfl ?_
                                                                  obtain ⟨r282, M283, hc281, h⟩ := of_bd2 h
                                                                  refine r_callVL (st := []) dL_law_1123 v_L_140 (run_X11_sound hc281) (by decide) (by decide) rfl rfl (Nat.le_of_ble_eq_true rfl) rfl ?_
                                                                  refine r_aload_n dL_law_1126 rfl 2 rfl ?_
                                                                  obtain ⟨r285, M286, hc284, h⟩ := of_bd2 h
                                                                  refine r_callVL (st := [vL r282]) dL_law_1127 v_L_143 (run_X12_sound hc284) (by decide) (by decide) rfl rfl (Nat.le_of_ble_eq_true rfl) rfl ?_
                                                                  by_cases c287 : r282 = r285
                                                                  · rw [if_pos c287] at h
                                                                    refine r_lcmp_eq (tgt := 1437) dL_law_1130 dL_law_1131 (by decide) (fun _ => ?_) (fun q => absurd c287 q)
                                                                    refine r_iinc (lv2 := [(3, vI (x3 + 6)), (0, vR 1000), (1, vR 0), (2, vR 55)]) dL_law_1437 3 rfl (by decide) rfl ?_
                                                                    refine r_goto (tgt := 18) dL_law_1440 (by decide) ?_
                                                                    refine r_sub (lv2 := [(0, vR 1000), (1, vR 0), (2, vR 55), (3, vI (x3 + 6))]) [1, 2, 3, 0] rfl ?_
                                                                    cases h
                                                                    exact ih _ _  _ (k1 _ rfl) hX
                                                                  · rw [if_neg c287] at h
                                                                    refine r_lcmp_eq (tgt := 1437) dL_law_1130 dL_law_1131 (by decide) (fun q => absurd q c287) (fun _ => ?_)
                                                                    refine r_iconst dL_law_1134 ?_
                                                                    cases h
                                                                    cases k2 _ rfl
                                                                    exact hX2 _ _ hX _ _ dL_law_1135
                                                                · rw [if_neg c280] at h
                                                                  by_cases c288 : wr (iand (xs (wr x3)) 63) = 30
                                                                  · rw [if_pos c288] at h
                                                                    refine r_tabIn (tgt := 1136) dL_law_33 30 (c288.trans rfl) (by decide) rfl (by decide) ?_
                                                                    refine r_aload_n dL_law_1136 rfl 1 rfl ?_
                                                                    refine r_aload_n dL_law_1137 rfl 0 rfl ?_
                                                                    refine r_iload_n dL_law_1138 rfl 3 rfl ?_
                                                                    refine r_iconst dL_law_1139 ?_
                                                                    refine r_iadd dL_law_1140 ?_
                                                                    obtain ⟨c289, h⟩ := of_ck h
                                                                    refine r_scr hSc dL_law_1141 c289 ?_
                                                                    refine r_aload_n dL_law_1142 rfl 0 rfl ?_
                                                                    refine r_iload_n dL_law_1143 rfl 3 rfl ?_
                                                                    refine r_iconst dL_law_1144 ?_
                                                                    refine r_iadd dL_law_1145 ?_
                                                                    obtain ⟨c290, h⟩ := of_ck h
                                                                    refine r_scr hSc dL_law_1146 c290 ?_
                                                                    obtain ⟨r292, M293, hc291, h⟩ := of_bd2 h
                                                                    refine r_callVI (st := []) dL_law_1147 v_L_144 (run_X11_rings hc291) (by decide) (by decide) rfl rfl (Nat.le_of_ble_eq_true rfl) rfl ?_
                                                                    refine r_aload_n dL_law_1150 rfl 2 rfl ?_
                                                                    refine r_aload_n dL_law_1151 rfl 0 rfl ?_
                                                                    refine r_iload_n dL_law_1152 rfl 3 rfl ?_
                                                                    refine r_iconst dL_law_1153 ?_
                                                                    refine r_iadd dL_law_1154 ?_
                                                                    refine r_scr hSc dL_law_1155 c289 ?_
                                                                    refine r_aload_n dL_law_1156 rfl 0 rfl ?_
                                                                    refine r_iload_n dL_law_1157 rfl 3 rfl ?_
                                                                    refine r_iconst dL_law_1158 ?_
                                                                    refine r_iadd dL_law_1159 ?_
                                                                    refine r_scr hSc dL_law_1160 c290 ?_
                                                                    obtain ⟨r295, M296, hc294, h⟩ := of_bd2 h
                                                                    refine r_callVI (st := [vI r292]) dL_law_1161 v_L_147 (run_X12_rings hc294) (by decide) (by decide) rfl rfl (Nat.le_of_ble_eq_true rfl) rfl ?_
                                                                    by_cases c297 : wr r292 = wr r295
                                                                    · rw [if_pos c297] at h
                                                                      refine r_icmp_eq (tgt := 1437) dL_law_1164 (by decide) (fun _ => ?_) (fun q => absurd c297 q)
                                                                      refine r_iinc (lv2 := [(3, vI (x3 + 6)), (0, vR 1000), (1, vR 0), (2, vR 55)]) dL_law_1437 3 rfl (by decide) rfl ?_
                                                                      refine r_goto (tgt := 18) dL_law_1440 (by decide) ?_
                                                                      refine r_sub (lv2 := [(0, vR 1000), (1, vR 0), (2, vR 55), (3, vI (x3 + 6))]) [1, 2, 3, 0] rfl ?_
                                                                      cases h
                                                                      exact ih _ _  _ (k1 _ rfl) hX
                                                                    · rw [if_neg c297] at h
                                                                      refine r_icmp_eq (tgt := 1437) dL_law_1164 (by decide) (fun q => absurd q c297) (fun _ => ?_)
                                                                      refine r_iconst dL_law_1167 ?_
                                                                      cases h
                                                                      cases k2 _ rfl
                                                                      exact hX2 _ _ hX _ _ dL_law_1168
                                                                  · rw [if_neg c288] at h
                                                                    by_cases c298 : wr (iand (xs (wr x3)) 63) = 31
                                                                    · rw [if_pos c298] at h
                                                                      refine r_tabIn (tgt := 1169) dL_law_33 31 (c298.trans rfl) (by decide) rfl (by decide) ?_
                                                                      refine r_aload_n dL_law_1169 rfl 1 rfl ?_
                                                                      refine r_aload_n dL_law_1170 rfl 0 rfl ?_
                                                                      refine r_iload_n dL_law_1171 rfl 3 rfl ?_
                                                                      refine r_iconst dL_law_1172 ?_
                                                                      refine r_iadd dL_law_1173 ?_
                                                                      obtain ⟨c299, h⟩ := of_ck h
                                                                      refine r_scr hSc dL_law_1174 c299 ?_
                                                                      refine r_aload_n dL_law_1175 rfl 0 rfl ?_
                                                                      refine r_iload_n dL_law_1176 rfl 3 rfl ?_
                                                                      refine r_iconst dL_law_1177 ?_
                                                                      refine r_iadd dL_law_1178 ?_
                                                                      obtain ⟨c300, h⟩ := of_ck h
                                                                      refine r_scr hSc dL_law_1179 c300 ?_
                                                                      refine r_aload_n dL_law_1180 rfl 0 rfl ?_
                                                                      refine r_iload_n dL_law_1181 rfl 3 rfl ?_
                                                                      refine r_iconst dL_law_1182 ?_
                                                                      refine r_iadd dL_law_1183 ?_
                                                                      obtain ⟨c301, h⟩ := of_ck h
                                                                      refine r_scr hSc dL_law_1184 c301 ?_
                                                                      obtain ⟨r303, M304, hc302, h⟩ := of_bd2 h
                                                                      refine r_callVI (st := []) dL_law_1185 v_L_148 (run_X11_ring hc302) (by decide) (by decide) rfl rfl (Nat.le_of_ble_eq_true rfl) rfl ?_
                                                                      refine r_aload_n dL_law_1188 rfl 2 rfl ?_
                                                                      refine r_aload_n dL_law_1189 rfl 0 rfl ?_
                                                                      refine r_iload_n dL_law_1190 rfl 3 rfl ?_
                                                                      refine r_iconst dL_law_1191 ?_
                                                                      refine r_iadd dL_law_1192 ?_
                                                                      refine r_scr hSc dL_law_1193 c299 ?_
                                                                      refine r_aload_n dL_law_1194 rfl 0 rfl ?_
                                                                      refine r_iload_n dL_law_1195 rfl 3 rfl ?_
                                                                      refine r_iconst dL_law_1196 ?_
                                                                      refine r_iadd dL_law_1197 ?_
                                                                      refine r_scr hSc dL_law_1198 c300 ?_
                                                                      refine r_aload_n dL_law_1199 rfl 0 rfl ?_
                                                                      refine r_iload_n dL_law_1200 rfl 3 rfl ?_
                                                                      refine r_iconst dL_law_1201 ?_
                                                                      refine r_iadd dL_law_1202 ?_
                                                                      refine r_scr hSc dL_law_1203 c301 ?_
                                                                      obtain ⟨r306, M307, hc305, h⟩ := of_bd2 h
                                                                      refine r_callVI (st := [vI r303]) dL_law_1204 v_L_151 (run_X12_ring hc305) (by decide) (by decide) rfl rfl (Nat.le_of_ble_eq_true rfl) rfl ?_
                                                                      by_cases c308 : wr r303 = wr r306
                                                                      · rw [if_pos c308] at h
                                                                        refine r_icmp_eq (tgt := 1437) dL_law_1207 (by decide) (fun _ => ?_) (fun q => absurd c308 q)
                                                                        refine r_iinc (lv2 := [(3, vI (x3 + 6)), (0, vR 1000), (1, vR 0), (2, vR 55)]) dL_law_1437 3 rfl (by decide) rfl ?_
                                                                        refine r_goto (tgt := 18) dL_law_1440 (by decide) ?_
                                                                        refine r_sub (lv2 := [(0, vR 1000), (1, vR 0), (2, vR 55), (3, vI (x3 + 6))]) [1, 2, 3, 0] rfl ?_
                                                                        cases h
                                                                        exact ih _ _  _ (k1 _ rfl) hX
                                                                      · rw [if_neg c308] at h
                                                                        refine r_icmp_eq (tgt := 1437) dL_law_1207 (by decide) (fun q => absurd q c308) (fun _ => ?_)
                                                                        refine r_iconst dL_law_1210 ?_
                                                                        cases h
                                                                        cases k2 _ rfl
                                                                        exact hX2 _ _ hX _ _ dL_law_1211
                                                                    · rw [if_neg c298] at h
                                                                      by_cases c309 : wr (iand (xs (wr x3)) 63) = 32
                                                                      · rw [if_pos c309] at h
                                                                        refine r_tabIn (tgt := 1212) dL_law_33 32 (c309.trans rfl) (by decide) rfl (by decide) ?_
                                                                        refine r_aload_n dL_law_1212 rfl 1 rfl ?_
                                                                        refine r_aload_n dL_law_1213 rfl 0 rfl ?_
                                                                        refine r_iload_n dL_law_1214 rfl 3 rfl ?_
                                                                        refine r_iconst dL_law_1215 ?_
                                                                        refine r_iadd dL_law_1216 ?_
                                                                        obtain ⟨c310, h⟩ := of_ck h
                                                                        refine r_scr hSc dL_law_1217 c310 ?_
                                                                        refine r_aload_n dL_law_1218 rfl 0 rfl ?_
                                                                        refine r_iload_n dL_law_1219 rfl 3 rfl ?_
                                                                        refine r_iconst dL_law_1220 ?_
                                                                        refine r_iadd dL_law_1221 ?_
                                                                        obtain ⟨c311, h⟩ := of_ck h
                                                                        refine r_scr hSc dL_law_1222 c311 ?_
                                                                        refine r_aload_n dL_law_1223 rfl 0 rfl ?_
                                                                        refine r_iload_n dL_law_1224 rfl 3 rfl ?_
                                                                        refine r_iconst dL_law_1225 ?_
                                                                        refine r_iadd dL_law_1226 ?_
                                                                        obtain ⟨c312, h⟩ := of_ck h
                                                                        refine r_scr hSc dL_law_1227 c312 ?_
                                                                        obtain ⟨r314, M315, hc313, h⟩ := of_bd2 h
                                                                        refine r_callVI (st := []) dL_law_1228 v_L_152 (run_X11_wind hc313) (by decide) (by decide) rfl rfl (Nat.le_of_ble_eq_true rfl) rfl ?_
                                                                        refine r_aload_n dL_law_1231 rfl 2 rfl ?_
                                                                        refine r_aload_n dL_law_1232 rfl 0 rfl ?_
                                                                        refine r_iload_n dL_law_1233 rfl 3 rfl ?_
                                                                        refine r_iconst dL_law_1234 ?_
                                                                        refine r_iadd dL_law_1235 ?_
                                                                        refine r_scr hSc dL_law_1236 c310 ?_
                                                                        refine r_aload_n dL_law_1237 rfl 0 rfl ?_
                                                                        refine r_iload_n dL_law_1238 rfl 3 rfl ?_
                                                                        refine r_iconst dL_law_1239 ?_
                                                                        refine r_iadd dL_law_1240 ?_
                                                                        refine r_scr hSc dL_law_1241 c311 ?_
                                                                        refine r_aload_n dL_law_1242 rfl 0 rfl ?_
                                                                        refine r_iload_n dL_law_1243 rfl 3 rfl ?_
                                                                        refine r_iconst dL_law_1244 ?_
                                                                        refine r_iadd dL_law_1245 ?_
                                                                        refine r_scr hSc dL_law_1246 c312 ?_
                                                                        obtain ⟨r317, M318, hc316, h⟩ := of_bd2 h
                                                                        refine r_callVI (st := [vI r314]) dL_law_1247 v_L_155 (run_X12_wind hc316) (by decide) (by decide) rfl rfl (Nat.le_of_ble_eq_true rfl) rfl ?_
                                                                        by_cases c319 : wr r314 = wr r317
                                                                        · rw [if_pos c319] at h
                                                                          refine r_icmp_eq (tgt := 1437) dL_law_1250 (by decide) (fun _ => ?_) (fun q => absurd c319 q)
                                                                          refine r_iinc (lv2 := [(3, vI (x3 + 6)), (0, vR 1000), (1, vR 0), (2, vR 55)]) dL_law_1437 3 rfl (by decide) rfl ?_
                                                                          refine r_goto (tgt := 18) dL_law_1440 (by decide) ?_
                                                                          refine r_sub (lv2 := [(0, vR 1000), (1, vR 0), (2, vR 55), (3, vI (x3 + 6))]) [1, 2, 3, 0] rfl ?_
                                                                          cases h
                                                                          exact ih _ _  _ (k1 _ rfl) hX
                                                                        · rw [if_neg c319] at h
                                                                          refine r_icmp_eq (tgt := 1437) dL_law_1250 (by decide) (fun q => absurd q c319) (fun _ => ?_)
                                                                          refine r_iconst dL_law_1253 ?_
                                                                          cases h
                                                                          cases k2 _ rfl
                                                                          exact hX2 _ _ hX _ _ dL_law_1254
                                                                      · rw [if_neg c309] at h
                                                                        by_cases c320 : wr (iand (xs (wr x3)) 63) = 33
                                                                        · rw [if_pos c320] at h
                                                                          refine r_tabIn (tgt := 1255) dL_law_33 33 (c320.trans rfl) (by decide) rfl (by decide) ?_
                                                                          refine r_aload_n dL_law_1255 rfl 1 rfl ?_
                                                                          refine r_aload_n dL_law_1256 rfl 0 rfl ?_
                                                                          refine r_iload_n dL_law_1257 rfl 3 rfl ?_
                                                                          refine r_iconst dL_law_1258 ?_
                                                                          refine r_iadd dL_law_1259 ?_
                                                                          obtain ⟨c321, h⟩ := of_ck h
                                                                          refine r_scr hSc dL_law_1260 c321 ?_
                                                                          refine r_aload_n dL_law_1261 rfl 0 rfl ?_
                                                                          refine r_iload_n dL_law_1262 rfl 3 rfl ?_
                                                                          refine r_iconst dL_law_1263 ?_
                                                                          refine r_iadd dL_law_1264 ?_
                                                                          obtain ⟨c322, h⟩ := of_ck h
                                                                          refine r_scr hSc dL_law_1265 c322 ?_
                                                                          refine r_aload_n dL_law_1266 rfl 0 rfl ?_
                                                                          refine r_iload_n dL_law_1267 rfl 3 rfl ?_
                                                                          refine r_iconst dL_law_1268 ?_
                                                                          refine r_iadd dL_law_1269 ?_
                                                                          obtain ⟨c323, h⟩ := of_ck h
                                                                          refine r_scr hSc dL_law_1270 c323 ?_
                                                                          obtain ⟨r325, M326, hc324, h⟩ := of_bd2 h
                                                                          refine r_callVI (st := []) dL_law_1271 v_L_156 (run_X11_sheet hc324) (by decide) (by decide) rfl rfl (Nat.le_of_ble_eq_true rfl) rfl ?_
                                                                          refine r_aload_n dL_law_1274 rfl 2 rfl ?_
                                                                          refine r_aload_n dL_law_1275 rfl 0 rfl ?_
                                                                          refine r_iload_n dL_law_1276 rfl 3 rfl ?_
                                                                          refine r_iconst dL_law_1277 ?_
                                                                          refine r_iadd dL_law_1278 ?_
                                                                          refine r_scr hSc dL_law_1279 c321 ?_
                                                                          refine r_aload_n dL_law_1280 rfl 0 rfl ?_
                                                                          refine r_iload_n dL_law_1281 rfl 3 rfl ?_
                                                                          refine r_iconst dL_law_1282 ?_
                                                                          refine r_iadd dL_law_1283 ?_
                                                                          refine r_scr hSc dL_law_1284 c322 ?_
                                                                          refine r_aload_n dL_law_1285 rfl 0 rfl ?_
                                                                          refine r_iload_n dL_law_1286 rfl 3 rfl ?_
                                                                          refine r_iconst dL_law_1287 ?_
                                                                          refine r_iadd dL_law_1288 ?_
                                                                          refine r_scr hSc dL_law_1289 c323 ?_
                                                                          obtain ⟨r328, M329, hc327, h⟩ := of_bd2 h
                                                                          refine r_callVI (st := [vI r325]) dL_law_1290 v_L_159 (run_X12_sheet hc327) (by decide) (by decide) rfl rfl (Nat.le_of_ble_eq_true rfl) rfl ?_
                                                                          by_cases c330 : wr r325 = wr r328
                                                                          · rw [if_pos c330] at h
                                                                            refine r_icmp_eq (tgt := 1437) dL_law_1293 (by decide) (fun _ => ?_) (fun q => absurd c330 q)
                                                                            refine r_iinc (lv2 := [(3, vI (x3 + 6)), (0, vR 1000), (1, vR 0), (2, vR 55)]) dL_law_1437 3 rfl (by decide) rfl ?_
                                                                            refine r_goto (tgt := 18) dL_law_1440 (by decide) ?_
                                                                            refine r_sub (lv2 := [(0, vR 1000), (1, vR 0), (2, vR 55), (3, vI (x3 + 6))]) [1, 2, 3, 0] rfl ?_
                                                                            cases h
                                                                            exact ih _ _  _ (k1 _ rfl) hX
                                                                          · rw [if_neg c330] at h
                                                                            refine r_icmp_eq (tgt := 1437) dL_law_1293 (by decide) (fun q => absurd q c330) (fun _ => ?_)
                                                                            refine r_iconst dL_law_1296 ?_
                                                                            cases h
                                                                            cases k2 _ rfl
                                                                            exact hX2 _ _ hX _ _ dL_law_1297
                                                                        · rw [if_neg c320] at h
                                                                          by_cases c331 : wr (iand (xs (wr x3)) 63) = 34
                                                                          · rw [if_pos c331] at h
                                                                            refine r_tabIn (tgt := 1298) dL_law_33 34 (c331.trans rfl) (by decide) rfl (by decide) ?_
                                                                            refine r_aload_n dL_law_1298 rfl 1 rfl ?_
                                                                            refine r_aload_n dL_law_1299 rfl 0 rfl ?_
                                                                            refine r_iload_n dL_law_1300 rfl 3 rfl ?_
                                                                            refine r_iconst dL_law_1301 ?_
                                                                            refine r_iadd dL_law_1302 ?_
                                                                            obtain ⟨c332, h⟩ := of_ck h
                                                                            refine r_scr hSc dL_law_1303 c332 ?_
                                                                            obtain ⟨r334, M335, hc333, h⟩ := of_bd2 h
                                                                            refine r_callVI (st := []) dL_law_1304 v_L_160 (run_X11_drop hc333) (by decide) (by decide) rfl rfl (Nat.le_of_ble_eq_true rfl) rfl ?_
                                                                            refine r_aload_n dL_law_1307 rfl 2 rfl ?_
                                                                            refine r_aload_n dL_law_1308 rfl 0 rfl ?_
                                                                            refine r_iload_n dL_law_1309 rfl 3 rfl ?_
                                                                            refine r_iconst dL_law_1310 ?_
                                                                            refine r_iadd dL_law_1311 ?_
                                                                            refine r_scr hSc dL_law_1312 c332 ?_
                                                                            obtain ⟨r337, M338, hc336, h⟩ := of_bd2 h
                                                                            refine r_callVI (st := [vI r334]) dL_law_1313 v_L_163 (run_X12_drop hc336) (by decide) (by decide) rfl rfl (Nat.le_of_ble_eq_true rfl) rfl ?_
                                                                            by_cases c339 : wr r334 = wr r337
                                                                            · rw [if_pos c339] at h
                                                                              refine r_icmp_eq (tgt := 1437) dL_law_1316 (by decide) (fun _ => ?_) (fun q => absurd c339 q)
                                                                              refine r_iinc (lv2 := [(3, vI (x3 + 6)), (0, vR 1000), (1, vR 0), (2, vR 55)]) dL_law_1437 3 rfl (by decide) rfl ?_
                                                                              refine r_goto (tgt := 18) dL_law_1440 (by decide) ?_
                                                                              refine r_sub (lv2 := [(0, vR 1000), (1, vR 0), (2, vR 55), (3, vI (x3 + 6))]) [1, 2, 3, 0] rfl ?_
                                                                              cases h
                                                                              exact ih _ _  _ (k1 _ rfl) hX
                                                                            · rw [if_neg c339] at h
                                                                              refine r_icmp_eq (tgt := 1437) dL_law_1316 (by decide) (fun q => absurd q c339) (fun _ => ?_)
                                                                              refine r_iconst dL_law_1319 ?_
                                                                              cases h
                                                                              cases k2 _ rfl
                                                                              exact hX2 _ _ hX _ _ dL_law_1320
                                                                          · rw [if_neg c331] at h
                                                                            by_cases c340 : wr (iand (xs (wr x3)) 63) = 35
                                                                            · rw [if_pos c340] at h
                                                                              refine r_tabIn (tgt := 1321) dL_law_33 35 (c340.trans rfl) (by decide) rfl (by decide) ?_
                                                                              refine r_aload_n dL_law_1321 rfl 1 rfl ?_
                                                                              refine r_aload_n dL_law_1322 rfl 0 rfl ?_
                                                                              refine r_iload_n dL_law_1323 rfl 3 rfl ?_
                                                                              refine r_iconst dL_law_1324 ?_
                                                                              refine r_iadd dL_law_1325 ?_
                                                                              obtain ⟨c341, h⟩ := of_ck h
                                                                              refine r_scr hSc dL_law_1326 c341 ?_
                                                                              refine r_aload_n dL_law_1327 rfl 0 rfl ?_
                                                                              refine r_iload_n dL_law_1328 rfl 3 rfl ?_
                                                                              refine r_iconst dL_law_1329 ?_
                                                                              refine r_iadd dL_law_1330 ?_
                                                                              obtain ⟨c342, h⟩ := of_ck h
                                                                              refine r_scr hSc dL_law_1331 c342 ?_
                                                                              refine r_aload_n dL_law_1332 rfl 0 rfl ?_
                                                                              refine r_iload_n dL_law_1333 rfl 3 rfl ?_
                                                                              refine r_iconst dL_law_1334 ?_
                                                                              refine r_iadd dL_law_1335 ?_
                                                                              obtain ⟨c343, h⟩ := of_ck h
                                                                              refine r_scr hSc dL_law_1336 c343 ?_
                                                                              refine r_aload_n dL_law_1337 rfl 0 rfl ?_
                                                                              refine r_iload_n dL_law_1338 rfl 3 rfl ?_
                                                                              refine r_iconst dL_law_1339 ?_
                                                                              refine r_iadd dL_law_1340 ?_
                                                                              obtain ⟨c344, h⟩ := of_ck h
                                                                              refine r_scr hSc dL_law_1341 c344 ?_
                                                                              obtain ⟨r346, M347, hc345, h⟩ := of_bd2 h
                                                                              refine r_callVI (st := []) dL_law_1342 v_L_164 (run_X11_item hc345) (by decide) (by decide) rfl rfl (Nat.le_of_ble_eq_true rfl) rfl ?_
                                                                              refine r_aload_n dL_law_1345 rfl 2 rfl ?_
                                                                              refine r_aload_n dL_law_1346 rfl 0 rfl ?_
                                                                              refine r_iload_n dL_law_1347 rfl 3 rfl ?_
                                                                              refine r_iconst dL_law_1348 ?_
                                                                              refine r_iadd dL_law_1349 ?_
                                                                              refine r_scr hSc dL_law_1350 c341 ?_
                                                                              refine r_aload_n dL_law_1351 rfl 0 rfl ?_
                                                                              refine r_iload_n dL_law_1352 rfl 3 rfl ?_
                                                                              refine r_iconst dL_law_1353 ?_
                                                                              refine r_iadd dL_law_1354 ?_
                                                                              refine r_scr hSc dL_law_1355 c342 ?_
                                                                              refine r_aload_n dL_law_1356 rfl 0 rfl ?_
                                                                              refine r_iload_n dL_law_1357 rfl 3 rfl ?_
                                                                              refine r_iconst dL_law_1358 ?_
                                                                              refine r_iadd dL_law_1359 ?_
                                                                              refine r_scr hSc dL_law_1360 c343 ?_
                                                                              refine r_aload_n dL_law_1361 rfl 0 rfl ?_
                                                                              refine r_iload_n dL_law_1362 rfl 3 rfl ?_
                                                                              refine r_iconst dL_law_1363 ?_
                                                                              refine r_iadd dL_law_1364 ?_
                                                                              refine r_scr hSc dL_law_1365 c344 ?_
                                                                              obtain ⟨r349, M350, hc348, h⟩ := of_bd2 h
                                                                              refine r_callVI (st := [vI r346]) dL_law_1366 v_L_168 (run_X12_item hc348) (by decide) (by decide) rfl rfl (Nat.le_of_ble_eq_true rfl) rfl ?_
                                                                              by_cases c351 : wr r346 = wr r349
                                                                              · rw [if_pos c351] at h
                                                                                refine r_icmp_eq (tgt := 1437) dL_law_1369 (by decide) (fun _ => ?_) (fun q => absurd c351 q)
                                                                                refine r_iinc (lv2 := [(3, vI (x3 + 6)), (0, vR 1000), (1, vR 0), (2, vR 55)]) dL_law_1437 3 rfl (by decide) rfl ?_
                                                                                refine r_goto (tgt := 18) dL_law_1440 (by decide) ?_
                                                                                refine r_sub (lv2 := [(0, vR 1000), (1, vR 0), (2, vR 55), (3, vI (x3 + 6))]) [1, 2, 3, 0] rfl ?_
                                                                                cases h
                                                                                exact ih _ _  _ (k1 _ rfl) hX
                                                                              · rw [if_neg c351] at h
                                                                                refine r_icmp_eq (tgt := 1437) dL_law_1369 (by decide) (fun q => absurd q c351) (fun _ => ?_)
                                                                                refine r_iconst dL_law_1372 ?_
                                                                                cases h
                                                                                cases k2 _ rfl
                                                                                exact hX2 _ _ hX _ _ dL_law_1373
                                                                            · rw [if_neg c340] at h
                                                                              by_cases c352 : wr (iand (xs (wr x3)) 63) = 36
                                                                              · rw [if_pos c352] at h
                                                                                refine r_tabIn (tgt := 1374) dL_law_33 36 (c352.trans rfl) (by decide) rfl (by decide) ?_
                                                                                refine r_aload_n dL_law_1374 rfl 1 rfl ?_
                                                                                refine r_aload_n dL_law_1375 rfl 0 rfl ?_
                                                                                refine r_iload_n dL_law_1376 rfl 3 rfl ?_
                                                                                refine r_iconst dL_law_1377 ?_
                                                                                refine r_iadd dL_law_1378 ?_
                                                                                obtain ⟨c353, h⟩ := of_ck h
                                                                                refine r_scr hSc dL_law_1379 c353 ?_
                                                                                refine r_aload_n dL_law_1380 rfl 0 rfl ?_
                                                                                refine r_iload_n dL_law_1381 rfl 3 rfl ?_
                                                                                refine r_iconst dL_law_1382 ?_
                                                                                refine r_iadd dL_law_1383 ?_
                                                                                obtain ⟨c354, h⟩ := of_ck h
                                                                                refine r_scr hSc dL_law_1384 c354 ?_
                                                                                refine r_aload_n dL_law_1385 rfl 0 rfl ?_
                                                                                refine r_iload_n dL_law_1386 rfl 3 rfl ?_
                                                                                refine r_iconst dL_law_1387 ?_
                                                                                refine r_iadd dL_law_1388 ?_
                                                                                obtain ⟨c355, h⟩ := of_ck h
                                                                                refine r_scr hSc dL_law_1389 c355 ?_
                                                                                refine r_aload_n dL_law_1390 rfl 0 rfl ?_
                                                                                refine r_iload_n dL_law_1391 rfl 3 rfl ?_
                                                                                refine r_iconst dL_law_1392 ?_
                                                                                refine r_iadd dL_law_1393 ?_
                                                                                obtain ⟨c356, h⟩ := of_ck h
                                                                                refine r_scr hSc dL_law_1394 c356 ?_
                                                                                refine r_aload_n dL_law_1395 rfl 0 rfl ?_
                                                                                refine r_iload_n dL_law_1396 rfl 3 rfl ?_
                                                                                refine r_iconst dL_law_1397 ?_
                                                                                refine r_iadd dL_law_1398 ?_
                                                                                obtain ⟨c357, h⟩ := of_ck h
                                                                                refine r_scr hSc dL_law_1399 c357 ?_
                                                                                obtain ⟨r359, M360, hc358, h⟩ := of_bd2 h
                                                                                refine r_callVI (st := []) dL_law_1400 v_L_169 (run_X11_copy hc358) (by decide) (by decide) rfl rfl (Nat.le_of_ble_eq_true rfl) rfl ?_
                                                                                refine r_aload_n dL_law_1403 rfl 2 rfl ?_
                                                                                refine r_aload_n dL_law_1404 rfl 0 rfl ?_
                                                                                refine r_iload_n dL_law_1405 rfl 3 rfl ?_
                                                                                refine r_iconst dL_law_1406 ?_
                                                                                refine r_iadd dL_law_1407 ?_
                                                                                refine r_scr hSc dL_law_1408 c353 ?_
                                                                                refine r_aload_n dL_law_1409 rfl 0 rfl ?_
                                                                                refine r_iload_n dL_law_1410 rfl 3 rfl ?_
                                                                                refine r_iconst dL_law_1411 ?_
                                                                                refine r_iadd dL_law_1412 ?_
                                                                                refine r_scr hSc dL_law_1413 c354 ?_
                                                                                refine r_aload_n dL_law_1414 rfl 0 rfl ?_
                                                                                refine r_iload_n dL_law_1415 rfl 3 rfl ?_
                                                                                refine r_iconst dL_law_1416 ?_
                                                                                refine r_iadd dL_law_1417 ?_
                                                                                refine r_scr hSc dL_law_1418 c355 ?_
                                                                                refine r_aload_n dL_law_1419 rfl 0 rfl ?_
                                                                                refine r_iload_n dL_law_1420 rfl 3 rfl ?_
                                                                                refine r_iconst dL_law_1421 ?_
                                                                                refine r_iadd dL_law_1422 ?_
                                                                                refine r_scr hSc dL_law_1423 c356 ?_
                                                                                refine r_aload_n dL_law_1424 rfl 0 rfl ?_
                                                                                refine r_iload_n dL_law_1425 rfl 3 rfl ?_
                                                                                refine r_iconst dL_law_1426 ?_
                                                                                refine r_iadd dL_law_1427 ?_
                                                                                refine r_scr hSc dL_law_1428 c357 ?_
                                                                                obtain ⟨r362, M363, hc361, h⟩ := of_bd2 h
                                                                                refine r_callVI (st := [vI r359]) dL_law_1429 v_L_173 (run_X12_copy hc361) (by decide) (by decide) rfl rfl (Nat.le_of_ble_eq_true rfl) rfl ?_
                                                                                by_cases c364 : wr r359 = wr r362
                                                                                · rw [if_pos c364] at h
                                                                                  refine r_icmp_eq (tgt := 1437) dL_law_1432 (by decide) (fun _ => ?_) (fun q => absurd c364 q)
                                                                                  refine r_iinc (lv2 := [(3, vI (x3 + 6)), (0, vR 1000), (1, vR 0), (2, vR 55)]) dL_law_1437 3 rfl (by decide) rfl ?_
                                                                                  refine r_goto (tgt := 18) dL_law_1440 (by decide) ?_
                                                                                  refine r_sub (lv2 := [(0, vR 1000), (1, vR 0), (2, vR 55), (3, vI (x3 + 6))]) [1, 2, 3, 0] rfl ?_
                                                                                  cases h
                                                                                  exact ih _ _  _ (k1 _ rfl) hX
                                                                                · rw [if_neg c364] at h
                                                                                  refine r_icmp_eq (tgt := 1437) dL_law_1432 (by decide) (fun q => absurd q c364) (fun _ => ?_)
                                                                                  refine r_iconst dL_law_1435 ?_
                                                                                  cases h
                                                                                  cases k2 _ rfl
                                                                                  exact hX2 _ _ hX _ _ dL_law_1436
                                                                              · rw [if_neg c352] at h
                                                                                refine r_tabOut (tgt := 1437) dL_law_33 (by omega) (by decide) ?_
                                                                                refine r_iinc (lv2 := [(3, vI (x3 + 6)), (0, vR 1000), (1, vR 0), (2, vR 55)]) dL_law_1437 3 rfl (by decide) rfl ?_
                                                                                refine r_goto (tgt := 18) dL_law_1440 (by decide) ?_
                                                                                refine r_sub (lv2 := [(0, vR 1000), (1, vR 0), (2, vR 55), (3, vI (x3 + 6))]) [1, 2, 3, 0] rfl ?_
                                                                                cases h
                                                                                exact ih _ _  _ (k1 _ rfl) hX

set_option maxRecDepth 10000 in
theorem x_L_law {G : Gx} {L : Nat} {xs : Int → Int} (hSc : ScrAt G L xs) {M : Mem} {M2 : Mem} {r : Bool} (h : m_L_law L xs M = some (r, M2)) (hQ : RetI G 8 cL_law RL 4 (bI r) M2) : Ex G 8 cL_law RL 4 16 [(2, vR 55), (1, vR 0), (0, vR 1000)] [] M := by
  unfold m_L_law at h
  refine r_iconst dL_law_16 ?_
  refine r_istore_n (lv2 := [(3, vI 0), (2, vR 55), (1, vR 0), (0, vR 1000)]) dL_law_17 rfl (by decide) rfl ?_
  obtain ⟨w9, h9, h⟩ := of_be2 h
  refine r_sub (lv2 := [(0, vR 1000), (1, vR 0), (2, vR 55), (3, vI 0)]) [3, 2, 1, 0] rfl ?_
  refine lp_L_law_L18 hSc   (fun w => w = w9) ?_ ?_ FU 0 M w9 h9 rfl
  · intro y365 M366 hw
    subst hw
    have h := h.1 _ _  rfl
    refine r_iconst dL_law_1443 ?_
    cases h
    exact hQ _ _ dL_law_1444
  · intro r9 M9 hw
    subst hw
    have h := h.2 _ rfl
    cases h
    exact hQ

