/-! sound: the class, column by column -/
def tq (H : Int) (bo be bs : Bool) (g : Int → Nat) (m : Int) : Nat := if bo = true ∧ m % 2 = 0 then (if bs = true ∧ m / 2 % 2 = 0 then g (m / 2 + 1) else 0) + (if be = true then g (m / 2 + p2 (H - 1)) else 0) else g (m / 2)
theorem tq_e {H : Int} {op f : Int → Bool} {t : Int} (g : Int → Nat) : tsc H op f t g = tq H (op t) (f (2 * t + 1)) (f (2 * t)) g := rfl
theorem pass70_s {M : Mem} {W H : Int} {op : Int → Bool} (hy : YC M W H op) {y : Int} (y0 : 0 ≤ y) (y1 : y < H) {n1 n2 : Nat} (d1 : dR M 14 0 = n1) (d2 : dR M 14 1 = n2) (hn : (n1 = 15 ∧ n2 = 16) ∨ (n1 = 16 ∧ n2 = 15)) (hz : ∀ v, 0 ≤ v → v < 256 → gL M n2 v = 0) (bo be bs : Bool) (hbs : bs = true → y + 1 < H) : ∃ M2 z, itr (fun s => m_X0_pass_L70 s.2 (p2 y) (bI bo) (bI be) (bI bs) s.1) FU (0, M) = some (z, M2) ∧ (∀ g, rd H ((y + 1) % H) (gL M2 n2) g = rd H y (gL M n1) (tq H bo be bs g)) ∧ Fr [n2] M M2 := by
  have hW := hy.2.2.1
  have hH1 := hW.2.2.1
  have hH2 := hW.2.2.2
  have hp := p2_256 hH1 hH2
  have hbH := Bt0 (x := H) (by omega) (by omega)
  have hby := Bt0 (x := y) (by omega) (by omega)
  have hby1 := Bt0 (x := y + 1) (by omega) (by omega)
  have ly1 : ly n1 = (2, 256) := by rcases hn with ⟨q, -⟩ | ⟨q, -⟩ <;> rw [q] <;> decide
  have ly2 : ly n2 = (2, 256) := by rcases hn with ⟨-, q⟩ | ⟨-, q⟩ <;> rw [q] <;> decide
  have nm1 : n1 ∉ [n2] := by simp; omega
  have nmi : ∀ k, k = 1 ∨ k = 2 ∨ k = 14 → k ∉ [n2] := fun k hk => by simp; omega
  obtain ⟨M2, e2, h2, f2⟩ := for_M (f := fun s => m_X0_pass_L70 s.2 (p2 y) (bI bo) (bI be) (bI bs) s.1) 0 (p2 H) (fun u M' => (∀ g, rd H ((y + 1) % H) (gL M' n2) g = rdN H y (gL M n1) (tq H bo be bs g) u) ∧ Fr [n2] M M') (fun u M' u0 u1 hI => by
    show ∃ M2, m_X0_pass_L70 M' (p2 y) (bI bo) (bI be) (bI bs) u = _ ∧ _
    obtain ⟨i1, i5⟩ := hI
    unfold m_X0_pass_L70
    have hy' := hy.fr i5 (nmi 1 (by omega)) (nmi 2 (by omega))
    have q1 : dR M' 14 0 = n1 := (fR i5 (nmi 14 (by omega)) 0).trans d1
    have q2 : dR M' 14 1 = n2 := (fR i5 (nmi 14 (by omega)) 1).trans d2
    have hr0 := Rt0 (x := y) hH1 hH2 y0 y1 u0 u1
    have hr1 := Rt1 (x := y) hH1 hH2 y0 y1 u0 u1
    have ha4 := (Bt4 (u := u) (x := y) u0 (by omega) (by omega) (by omega)).1
    have k1 := Bt1 (u := u) (x := y) u0 (by omega) (by omega) (by omega)
    have k2 := Bt1 (u := u) (x := y + 1) u0 (by omega) (by omega) (by omega)
    rw [hby.2.2.1] at k2
    have wri : ∀ z, wr (iand u z) = iand u z := fun z => by
      unfold iand
      exact wr_id (Int32.le_toInt _) (by have := Int32.toInt_lt (Int32.ofInt u &&& Int32.ofInt z); omega)
    have eF : gL M' n1 u = gL M n1 u := fL i5 nm1 u
    rw [hy'.2.1, hbH.1, wr_id (x := p2 H) (by omega) (by omega), wr_id (x := u) (by omega) (by omega), if_neg (by omega), q1, q2, if_pos ly1, if_pos (c := 0 ≤ u ∧ u < 256) (by omega), eF]
    simp only [if_pos ly2]
    generalize hm : rot H y u = m at *
    by_cases hF : gL M n1 u = 0
    · rw [if_pos hF, bd1_q]
      refine ⟨M', rfl, fun g => ?_, i5⟩
      rw [rdN_s u0, hF, Int64.zero_mul, L_add0]; exact i1 g
    rw [if_neg hF]
    simp only [wrb]
    by_cases hB : bo = true ∧ m % 2 = 0
    rotate_left
    · have hv : ∃ v, iand u (ixor (p2 y) (-1)) = v ∧ 0 ≤ v ∧ v < p2 H ∧ rot H ((y + 1) % H) v = m / 2 := by
        by_cases z : u / p2 y % 2 = 0
        · refine ⟨u, by rw [ha4, z]; omega, u0, u1, (hr1.1 z).1⟩
        · have z1 : u / p2 y % 2 = 1 := by omega
          exact ⟨u - p2 y, by rw [ha4, z1]; omega, (hr1.2 z).2, by omega, (hr1.2 z).1⟩
      obtain ⟨v, ev, v0, v1, er⟩ := hv
      have eX : ∀ X : Option Mem, (if bo = false then (if 0 ≤ wr (iand u (ixor (p2 y) (-1))) ∧ wr (iand u (ixor (p2 y) (-1))) < 256 then lt (sL M' n2 (wr (iand u (ixor (p2 y) (-1)))) (gL M' n2 (wr (iand u (ixor (p2 y) (-1)))) + gL M n1 u)) fun M22 => some M22 else none) else if wr (iand u (p2 y)) = 0 then X else (if 0 ≤ wr (iand u (ixor (p2 y) (-1))) ∧ wr (iand u (ixor (p2 y) (-1))) < 256 then lt (sL M' n2 (wr (iand u (ixor (p2 y) (-1)))) (gL M' n2 (wr (iand u (ixor (p2 y) (-1)))) + gL M n1 u)) fun M22 => some M22 else none)) = some (sL M' n2 v (gL M' n2 v + gL M n1 u)) := fun X => by
        rw [ev, wr_id (x := v) (by omega) (by omega), if_pos (c := 0 ≤ v ∧ v < 256) (by omega), lt_q]
        by_cases z : bo = false
        · rw [if_pos z]
        · rw [if_neg z, if_neg]
          rw [wri, k1, ← hr0.2.2.1]
          exact fun q => hB ⟨by simpa using z, q⟩
      rw [eX, bd1_q]
      refine ⟨_, rfl, fun g => ?_, i5.sL (by simp) rfl⟩
      rw [rd_add (F := gL M' n2) (y := v) (a := gL M n1 u) (fun q hq => by rw [gL_sL, if_neg (fun z => hq z.2)]) (by rw [gL_sL, if_pos ⟨rfl, rfl⟩]) v0 v1, i1 g, rdN_s u0, er, hm]
      have : tq H bo be bs g m = g (m / 2) := by unfold tq; rw [if_neg hB]
      rw [this]
    have hze : u / p2 y % 2 = 0 := by rw [← hr0.2.2.1]; exact hB.2
    obtain ⟨a1, a2, a3, a4⟩ := hr1.1 hze
    rw [if_neg (by rw [hB.1]; simp), if_pos (by rw [wri, k1]; exact hze)]
    obtain ⟨M3, e3, j1, j4⟩ : ∃ M3, (if be = false then some M' else if 0 ≤ wr (u + p2 y) ∧ wr (u + p2 y) < 256 then lt (sL M' n2 (wr (u + p2 y)) (gL M' n2 (wr (u + p2 y)) + gL M n1 u)) fun M27 => some M27 else none) = some M3 ∧ (∀ g, rd H ((y + 1) % H) (gL M3 n2) g = rd H ((y + 1) % H) (gL M' n2) g + gL M n1 u * lN (if be = true then g (m / 2 + p2 (H - 1)) else 0)) ∧ Fr [n2] M M3 := by
      cases be
      · refine ⟨M', rfl, fun g => ?_, i5⟩
        rw [if_neg (by simp), F_0, L_add0]
      · rw [if_tf, wr_id (x := u + p2 y) (by omega) (by omega), if_pos (by omega), lt_q]
        refine ⟨_, rfl, fun g => ?_, i5.sL (by simp) rfl⟩
        rw [if_pos rfl, rd_add (F := gL M' n2) (y := u + p2 y) (a := gL M n1 u) (fun q hq => by rw [gL_sL, if_neg (fun z => hq z.2)]) (by rw [gL_sL, if_pos ⟨rfl, rfl⟩]) (by omega) a3, a2]
    rw [e3, bd1_q]
    have q4 : dR M3 14 1 = n2 := (fR j4 (nmi 14 (by omega)) 1).trans d2
    rw [q4, if_pos ly2]
    have eT : ∀ g, tq H bo be bs g m = (if be = true then g (m / 2 + p2 (H - 1)) else 0) + (if bs = true ∧ m / 2 % 2 = 0 then g (m / 2 + 1) else 0) := fun g => by
      unfold tq
      rw [if_pos hB, Nat.add_comm]
    by_cases hS : bs = true ∧ m / 2 % 2 = 0
    · have hx := hbs hS.1
      have hz2 : u / (2 * p2 y) % 2 = 0 := by rw [← hr0.2.2.2 hx]; exact hS.2
      obtain ⟨b1, b2⟩ := a4 hx hz2
      rw [if_neg (by rw [hS.1]; simp), if_pos (by rw [wri, k2]; exact hz2), wr_id (x := u + 2 * p2 y) (by omega) (by omega), if_pos (by omega), lt_q, bd1_q]
      refine ⟨_, rfl, fun g => ?_, j4.sL (by simp) rfl⟩
      rw [rd_add (F := gL M3 n2) (y := u + 2 * p2 y) (a := gL M n1 u) (fun q hq => by rw [gL_sL, if_neg (fun z => hq z.2)]) (by rw [gL_sL, if_pos ⟨rfl, rfl⟩]) (by omega) b2, b1, j1 g, i1 g, rdN_s u0, hm, eT, if_pos hS, ← lN_add, Int64.mul_add, Int64.add_assoc]
    · have eS : ∀ X : Option Mem, (if bs = false then some M3 else if wr (iand u (2 * p2 y)) = 0 then X else some M3) = some M3 := fun X => by
        by_cases z : bs = true
        · have hx := hbs z
          rw [if_neg (by rw [z]; simp), if_neg]
          rw [wri, k2]
          exact fun q => hS ⟨z, by rw [hr0.2.2.2 hx]; exact q⟩
        · rw [if_pos (by simpa using z)]
      rw [eS, bd1_q]
      refine ⟨M3, rfl, fun g => ?_, j4⟩
      rw [j1 g, i1 g, rdN_s u0, hm, eT, if_neg hS, Nat.add_zero]) (fun M' hI => by
    show m_X0_pass_L70 M' (p2 y) (bI bo) (bI be) (bI bs) (p2 H) = _
    unfold m_X0_pass_L70
    rw [fI hI.2 (nmi 1 (by omega)), hy.2.1, hbH.1, if_pos (Int.le_refl _)]) (by omega) (by omega) (M0 := M) ⟨fun g => by
      unfold rd rdN
      rw [sl_0 _ (fun v v0 v1 => by rw [hz v v0 (by omega), Int64.zero_mul])]
      rfl, Fr.rf⟩
  exact ⟨M2, _, e2, h2, f2⟩
theorem st_oE {W H : Int} {op : Int → Bool} (hW : WHr W H) {x y : Int} (x0 : 0 ≤ x) (x1 : x < W) (y0 : 0 ≤ y) (y1 : y < H) : stn W H op (2 * (y * W + x)) = (opn W H op x y && opn W H op (x + 1) y) := by
  have hc := xy_c hW x0 x1 y0 y1
  apply bx
  rw [Bool.and_eq_true, opn_t, opn_t]
  constructor
  · intro h
    obtain ⟨e1, e2, e3, e4⟩ := st_e hW h
    have := (stn_t hW h).2.2.1
    rw [show 2 * (y * W + x) / 2 = y * W + x by omega] at this
    rw [hc.2.2.1] at e1
    exact ⟨⟨⟨x0, x1, y0, y1⟩, this⟩, ⟨by omega, e1, y0, y1⟩, by rw [← Int.add_assoc]; exact e3⟩
  · rintro ⟨⟨-, o1⟩, ⟨a, b, c, d⟩, o2⟩
    have eo : oth W H (2 * (y * W + x)) = y * W + x + 1 := oth_ev (by rw [hc.2.2.1]; exact b)
    refine stn_i hW (by omega) (by omega) (by rw [show 2 * (y * W + x) / 2 = y * W + x by omega]; exact o1) (by rw [eo]; omega) (by rw [eo, Int.add_assoc]; exact o2)
theorem st_oS {W H : Int} {op : Int → Bool} (hW : WHr W H) {x y : Int} (x0 : 0 ≤ x) (x1 : x < W) (y0 : 0 ≤ y) (y1 : y < H) : stn W H op (2 * (y * W + x) + 1) = (opn W H op x y && opn W H op x (y + 1)) := by
  have hc := xy_c hW x0 x1 y0 y1
  have ea : (y + 1) * W + x = y * W + x + W := by rw [Int.add_mul]; omega
  have a1 := hW.1
  apply bx
  rw [Bool.and_eq_true, opn_t, opn_t, ea]
  constructor
  · intro h
    have e1 := stn_so hW h
    obtain ⟨e2, e3⟩ := st_s hW h
    have := (stn_t hW h).2.2.1
    rw [show (2 * (y * W + x) + 1) / 2 = y * W + x by omega] at this
    rw [hc.2.2.2] at e1
    exact ⟨⟨⟨x0, x1, y0, y1⟩, this⟩, ⟨x0, x1, by omega, e1⟩, e3⟩
  · rintro ⟨⟨-, o1⟩, ⟨a, b, c, d⟩, o2⟩
    have eo : oth W H (2 * (y * W + x) + 1) = y * W + x + W := oth_od (by rw [hc.2.2.2]; exact d)
    refine stn_i hW (by omega) (by omega) (by rw [show (2 * (y * W + x) + 1) / 2 = y * W + x by omega]; exact o1) (by rw [eo]; omega) (by rw [eo]; exact o2)
theorem pass_s {M : Mem} {W H : Int} {op : Int → Bool} (hy : YC M W H op) {x y : Int} (x0 : 0 ≤ x) (x1 : x < W) (y0 : 0 ≤ y) (y1 : y < H) {n1 n2 : Nat} (d1 : dR M 14 0 = n1) (d2 : dR M 14 1 = n2) (hn : (n1 = 15 ∧ n2 = 16) ∨ (n1 = 16 ∧ n2 = 15)) (hz : ∀ v, 0 ≤ v → v < 256 → gL M n2 v = 0) : ∃ M2, m_X0_pass M x y = some M2 ∧ (∀ g, rd H ((y + 1) % H) (gL M2 n2) g = rd H y (gL M n1) (tsc H (opT W H op) (fT W H (stn W H op)) (x * H + y) g)) ∧ Fr [n2] M M2 := by
  have hW := hy.2.2.1
  obtain ⟨a1, a2, a3, a4⟩ := hW
  have hW := hy.2.2.1
  have hby := Bt0 (x := y) (by omega) (by omega)
  obtain ⟨M2, z, e2, h2, f2⟩ := pass70_s hy y0 y1 d1 d2 hn hz (opn W H op x y) (opn W H op x y && opn W H op (x + 1) y) (opn W H op x y && opn W H op x (y + 1)) (fun q => by
    rw [Bool.and_eq_true] at q
    exact (opn_t.mp q.2).1.2.2.2)
  have hc := xy_c (WHs hW) (x := y) (y := x) y0 y1 x0 x1
  have hHW : H * W = W * H := Int.mul_comm _ _
  rw [hHW] at hc
  have et : trc W H (x * H + y) = y * W + x := by
    unfold trc
    rw [hc.2.2.1, hc.2.2.2]
  have eo : opT W H op (x * H + y) = opn W H op x y := by
    unfold opT
    rw [et]
    apply bx
    rw [opn_t]
    exact ⟨fun q => ⟨⟨x0, x1, y0, y1⟩, q⟩, fun q => q.2⟩
  refine ⟨M2, ?_, fun g => ?_, f2⟩
  · unfold m_X0_pass
    rw [openAt_g hy (x := x) (y := y) (by omega) (by omega) (by omega) (by omega), bd1_q, lt_q, b01 hW]
    have eE : (if wr (bI (opn W H op x y)) = 0 then some 0 else bd1 (m_X10_openAt M (x + 1) y) fun r7 => if wr r7 < 0 then some 0 else some 1) = some (bI (opn W H op x y && opn W H op (x + 1) y)) := by
      rw [openAt_g hy (x := x + 1) (y := y) (by omega) (by omega) (by omega) (by omega), bd1_q]
      have hb := b01 (op := op) hW (x + 1) y
      cases opn W H op x y
      · rfl
      · rw [if_neg (by decide), Bool.true_and, ← hb]
        split <;> rfl
    have eS : (if wr (bI (opn W H op x y)) = 0 then some 0 else bd1 (m_X10_openAt M x (y + 1)) fun r7 => if wr r7 < 0 then some 0 else some 1) = some (bI (opn W H op x y && opn W H op x (y + 1))) := by
      rw [openAt_g hy (x := x) (y := y + 1) (by omega) (by omega) (by omega) (by omega), bd1_q]
      have hb := b01 (op := op) hW x (y + 1)
      cases opn W H op x y
      · rfl
      · rw [if_neg (by decide), Bool.true_and, ← hb]
        split <;> rfl
    rw [eE, bd1_q, eS, bd1_q, hby.1, e2, bd2_q]
  · rw [h2 g, tq_e, eo, fT_o hc.1 hc.2.1, fT_e hc.1 hc.2.1, et, st_oE hW x0 x1 y0 y1, st_oS hW x0 x1 y0 y1]
def kz (g : Int → Nat) (m : Int) : Nat := if m = 0 then 0 else g m
def kk (x : Int) (g : Int → Nat) : Int → Nat := if 0 < x then kz g else g
def tK (H : Int) (op f : Int → Bool) (t : Int) (g : Int → Nat) : Int → Nat := if t % H = 0 then kk t (tsc H op f t g) else tsc H op f t g
def e00 (m : Int) : Nat := if m = 0 then 1 else 0
theorem rd_e0 {W : Int} {F : Int → Int64} (h : 1 ≤ p2 W) : rd W 0 F e00 = F 0 := by
  unfold rd
  obtain ⟨n, hn⟩ : ∃ n : Nat, (p2 W).toNat = n + 1 := ⟨(p2 W).toNat - 1, by omega⟩
  rw [hn]
  clear hn h
  induction n with
  | zero =>
    show 0 + F ((0 : Nat) : Int) * lN (e00 (rot W 0 ((0 : Nat) : Int))) = F 0
    rw [rot_0, Int64.zero_add]
    show F 0 * lN 1 = F 0
    rw [← lN1, Int64.mul_one]
  | succ n ih =>
    show sl (n + 1) _ + F ((n + 1 : Nat) : Int) * lN (e00 (rot W 0 ((n + 1 : Nat) : Int))) = F 0
    rw [ih, rot_0]
    have : e00 ((n + 1 : Nat) : Int) = 0 := by unfold e00; rw [if_neg (by omega)]
    rw [this, F_0, L_add0]
theorem rd_kz {W : Int} {F F2 : Int → Int64} {g : Int → Nat} (h0 : F2 0 = 0) (h1 : ∀ v, v ≠ 0 → F2 v = F v) : rd W 0 F2 g = rd W 0 F (kz g) := by
  unfold rd
  refine sl_congr _ (fun v _ _ => ?_)
  rw [rot_0]
  unfold kz
  by_cases z : v = 0
  · rw [if_pos z, F_0, z, h0, Int64.zero_mul]
  · rw [if_neg z, h1 v z]
