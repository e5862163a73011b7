/-! shares: the class's tables -/
theorem fillL_s (M : Mem) (a : Nat) (v : Int64) (n : Int) (hn : ((ly a).2 : Int) = n) (hn2 : n < 100000) : ∃ M2, m_J7_fill_d0a16 M a v = some M2 ∧ ∀ j, 0 ≤ j → j < n → gL M2 a j = v := by
  have h0 : (0 : Int) ≤ n := by omega
  obtain ⟨M2, e, h⟩ := for_M (f := fun s => m_J7_fill_d0a16_L6 s.2 a v ((ly a).2 : Int) s.1) 0 n (fun i M => ∀ j, 0 ≤ j → j < i → gL M a j = v) (fun i M h1 h2 hI => by
    show ∃ M2, m_J7_fill_d0a16_L6 M a v ((ly a).2 : Int) i = _ ∧ _
    unfold m_J7_fill_d0a16_L6
    rw [hn, wr_id (by omega) (by omega), wr_id (by omega) (by omega), if_neg (by omega), if_pos ⟨h1, h2⟩, lt_q]
    refine ⟨_, rfl, fun j q1 q2 => ?_⟩
    rw [gL_sL]
    by_cases e : j = i
    · rw [if_pos ⟨rfl, e⟩]
    · rw [if_neg (fun z => e z.2)]; exact hI j q1 (by omega)) (fun M hI => by
    show m_J7_fill_d0a16_L6 M a v ((ly a).2 : Int) n = _
    unfold m_J7_fill_d0a16_L6
    rw [hn, wr_id (by omega) (by omega), if_pos (by omega)]) h0 (by omega) (M0 := M) (fun j q1 q2 => by omega)
  refine ⟨M2, ?_, h⟩
  unfold m_J7_fill_d0a16
  rw [e, bd2_q]
def sl : Nat → (Int → Int64) → Int64
  | 0, _ => 0
  | n + 1, h => sl n h + h n
theorem sl_congr {g h : Int → Int64} : ∀ n : Nat, (∀ i : Int, 0 ≤ i → i < n → g i = h i) → sl n g = sl n h := by
  intro n
  induction n with
  | zero => intro _; rfl
  | succ n ih =>
    intro e
    show sl n g + g n = sl n h + h n
    rw [ih (fun i a b => e i a (by omega)), e n (by omega) (by omega)]
theorem sl_0 {h : Int → Int64} : ∀ n : Nat, (∀ i : Int, 0 ≤ i → i < n → h i = 0) → sl n h = 0 := by
  intro n
  induction n with
  | zero => intro _; rfl
  | succ n ih =>
    intro e
    show sl n h + h n = 0
    rw [ih (fun i a b => e i a (by omega)), e n (by omega) (by omega)]
    rfl
theorem sl_add {F G F2 : Int → Int64} {x : Int} {a : Int64} (h1 : ∀ q, q ≠ x → F2 q = F q) (h2 : F2 x = F x + a) : ∀ n : Nat, sl n (fun q => F2 q * G q) = sl n (fun q => F q * G q) + (if 0 ≤ x ∧ x < n then a * G x else 0) := by
  intro n
  induction n with
  | zero => rw [if_neg (by omega)]; rfl
  | succ n ih =>
    show sl n (fun q => F2 q * G q) + F2 n * G n = sl n (fun q => F q * G q) + F n * G n + _
    rw [ih]
    by_cases z : x = n
    · rw [if_neg (by omega), if_pos (by omega), ← z, h2, Int64.add_mul, Int64.add_zero, Int64.add_assoc]
    · rw [h1 n (fun q => z q.symm)]
      by_cases y : 0 ≤ x ∧ x < n
      · rw [if_pos y, if_pos (by omega), Int64.add_assoc, Int64.add_assoc, Int64.add_comm (a * G x)]
      · rw [if_neg y, if_neg (by omega), Int64.add_zero, Int64.add_zero]
/-- a vector of ways, read by a function of masks -/
def rd (W x : Int) (F : Int → Int64) (g : Int → Nat) : Int64 := sl (p2 W).toNat (fun v => F v * lN (g (rot W x v)))
theorem rd_add {W x : Int} {F F2 : Int → Int64} {g : Int → Nat} {y : Int} {a : Int64} (h1 : ∀ q, q ≠ y → F2 q = F q) (h2 : F2 y = F y + a) (y0 : 0 ≤ y) (y1 : y < p2 W) : rd W x F2 g = rd W x F g + a * lN (g (rot W x y)) := by
  unfold rd
  rw [sl_add (G := fun v => lN (g (rot W x v))) h1 h2, if_pos (by omega)]
def rdN (W x : Int) (F : Int → Int64) (g : Int → Nat) (u : Int) : Int64 := sl u.toNat (fun v => F v * lN (g (rot W x v)))
theorem rdN_s {W x : Int} {F : Int → Int64} {g : Int → Nat} {u : Int} (u0 : 0 ≤ u) : rdN W x F g (u + 1) = rdN W x F g u + F u * lN (g (rot W x u)) := by
  unfold rdN
  rw [show (u + 1).toNat = u.toNat + 1 by omega]
  show sl u.toNat _ + F (u.toNat : Int) * lN (g (rot W x (u.toNat : Int))) = _
  rw [Int.toNat_of_nonneg u0]
theorem rdN_e {W x : Int} {F : Int → Int64} {g : Int → Nat} : rdN W x F g (p2 W) = rd W x F g := rfl
def gbf (W : Int) (op f : Int → Bool) (N c b : Int) (m : Int) : Nat := if f b = true then gbr W op f N c b m else 0
theorem gbf_n {W : Int} {op f : Int → Bool} {N c b m : Int} (h : ¬ (op c = true ∧ m % 2 = 0)) : gbf W op f N c b m = 0 := by
  unfold gbf gbr
  rw [if_neg h]
  simp
theorem gbf_f {W : Int} {op f : Int → Bool} {N c b m : Int} (h : f b = false) : gbf W op f N c b m = 0 := by
  unfold gbf
  rw [h]
  simp
theorem gbf_e {W : Int} {op f : Int → Bool} {N c m : Int} (h : op c = true ∧ m % 2 = 0) : gbf W op f N c (2 * c) m = if f (2 * c) = true ∧ m / 2 % 2 = 0 then wyc W op f N (c + 1) (m / 2 + 1) else 0 := by
  unfold gbf gbr
  rw [if_pos h, if_pos (c := 2 * c % 2 = 0) (by omega)]
  by_cases z : f (2 * c) = true
  · rw [if_pos z]
    by_cases y : m / 2 % 2 = 0
    · rw [if_pos y, if_pos ⟨z, y⟩]
    · rw [if_neg y, if_neg (fun q => y q.2)]
  · rw [if_neg z, if_neg (fun q => z q.1)]
theorem gbf_s {W : Int} {op f : Int → Bool} {N c m : Int} (h : op c = true ∧ m % 2 = 0) (hs : f (2 * c + 1) = true) : gbf W op f N c (2 * c + 1) m = wyc W op f N (c + 1) (m / 2 + p2 (W - 1)) := by
  unfold gbf gbr
  rw [if_pos hs, if_pos h, if_neg (by omega)]
theorem F_0 (a : Int64) : a * lN 0 = 0 := by simp [lN]
theorem L_add0 (a : Int64) : a + 0 = a := Int64.add_zero _
theorem shareAt_s {M : Mem} {W H : Int} {op f : Int → Bool} (hy : YC M W H op) (hf : FTc M W H f) (hs : FS W H op f) (hw : WYc M W H op f) {c : Int} (c0 : 0 ≤ c) (c1 : c < W * H) {n1 n2 : Nat} (d1 : dR M 8 3 = n1) (d2 : dR M 8 4 = n2) (hn : (n1 = 12 ∧ n2 = 13) ∨ (n1 = 13 ∧ n2 = 12)) (hz : ∀ v, 0 ≤ v → v < 256 → gL M n2 v = 0) (hb0 : gL M 10 (2 * c) = 0 ∧ gL M 10 (2 * c + 1) = 0) : ∃ M2, m_X7_shareAt M c = some M2 ∧ (∀ g, rd W ((c + 1) % W) (gL M2 n2) g = rd W (c % W) (gL M n1) (tsc W op f c g)) ∧ gL M2 10 (2 * c) = rd W (c % W) (gL M n1) (gbf W op f (W * H) c (2 * c)) ∧ gL M2 10 (2 * c + 1) = rd W (c % W) (gL M n1) (gbf W op f (W * H) c (2 * c + 1)) ∧ (∀ b, b ≠ 2 * c → b ≠ 2 * c + 1 → gL M2 10 b = gL M 10 b) ∧ Fr [n2, 10] M M2 := by
  have hW := hy.2.2.1
  have h8 := WH_le hW
  have hp := p2_256 hW.1 hW.2.1
  have hcx := cx_r hW c0 c1
  have hw1 := hW.1
  have hw2 := hW.2.1
  have hb0' := Bt0 (x := c % W) (by omega) (by omega)
  have hbW := Bt0 (x := W) (by omega) (by omega)
  have ly1 : ly n1 = (2, 256) := by rcases hn with ⟨q, -⟩ | ⟨q, -⟩ <;> rw [q] <;> decide
  have ly2 : ly n2 = (2, 256) := by rcases hn with ⟨-, q⟩ | ⟨-, q⟩ <;> rw [q] <;> decide
  have nn : n1 ≠ n2 := by omega
  have nm1 : n1 ∉ [n2, 10] := by simp; omega
  have nm8 : 8 ∉ [n2, 10] := by simp; omega
  have nm9 : 9 ∉ [n2, 10] := by simp; omega
  have nmi : ∀ k, k = 1 ∨ k = 2 ∨ k = 11 → k ∉ [n2, 10] := fun k hk => by simp; omega
  unfold m_X7_shareAt
  rw [column_s hy c0 (by omega), bd1_q, hb0'.1]
  obtain ⟨M2, e2, h2, h3, h4, h5, f2⟩ := for_M (f := fun s => m_X7_shareAt_L20 s.2 c ((c + 1) * 256) (p2 (c % W)) s.1) 0 (p2 W) (fun u M' => (∀ g, rd W ((c + 1) % W) (gL M' n2) g = rdN W (c % W) (gL M n1) (tsc W op f c g) u) ∧ gL M' 10 (2 * c) = rdN W (c % W) (gL M n1) (gbf W op f (W * H) c (2 * c)) u ∧ gL M' 10 (2 * c + 1) = rdN W (c % W) (gL M n1) (gbf W op f (W * H) c (2 * c + 1)) u ∧ (∀ b, b ≠ 2 * c → b ≠ 2 * c + 1 → gL M' 10 b = gL M 10 b) ∧ Fr [n2, 10] M M') (fun u M' u0 u1 hI => by
    show ∃ M2, m_X7_shareAt_L20 M' c ((c + 1) * 256) (p2 (c % W)) u = _ ∧ _
    obtain ⟨i1, i2, i3, i4, i5⟩ := hI
    unfold m_X7_shareAt_L20
    have hy' := hy.fr i5 (nmi 1 (by omega)) (nmi 2 (by omega))
    have hf' : FTc M' W H f := fun b x y => (fI i5 (nmi 11 (by omega)) b).trans (hf b x y)
    have q1 : dR M' 8 3 = n1 := (fR i5 nm8 3).trans d1
    have q2 : dR M' 8 4 = n2 := (fR i5 nm8 4).trans d2
    have hr0 := Rt0 (x := c % W) hW.1 hW.2.1 (by omega) (by omega) u0 u1
    have hr1 := Rt1 (x := c % W) hW.1 hW.2.1 (by omega) (by omega) u0 u1
    have ha4 := (Bt4 (u := u) (x := c % W) u0 (by omega) (by omega) (by omega)).1
    rw [← nx_x hW.1 hW.2.1 c0] at hr1
    have eF : gL M' n1 u = gL M n1 u := fL i5 nm1 u
    rw [hy'.1, hbW.1, wr_id (x := p2 W) (by omega) (by omega), wr_id (x := u) (by omega) (by omega), if_neg (by omega), q1, q2, if_pos ly1, if_pos (c := 0 ≤ u ∧ u < 256) (by omega), eF]
    simp only [if_pos ly2]
    generalize hm : rot W (c % W) u = m at *
    have tbl : ∀ v, 0 ≤ v → v < p2 W → ∀ M3, Fr [n2, 10] M M3 → gL M3 9 (256 * (c + 1) + v) = lN (wyc W op f (W * H) (c + 1) (rot W ((c + 1) % W) v)) := fun v v0 v1 M3 f3 => (fL f3 nm9 _).trans (hw (c + 1) v (by omega) (by omega) v0 v1)
    by_cases hF : gL M n1 u = 0
    · rw [if_pos hF, bd1_q]
      refine ⟨M', rfl, fun g => ?_, ?_, ?_, i4, i5⟩
      · rw [rdN_s u0, hF, Int64.zero_mul, L_add0]; exact i1 g
      · rw [rdN_s u0, hF, Int64.zero_mul, L_add0]; exact i2
      · rw [rdN_s u0, hF, Int64.zero_mul, L_add0]; exact i3
    rw [if_neg hF, isBare_s hy' c0 c1 u0 u1, bd1_q, hm]
    simp only [wrb]
    by_cases hB : op c = true ∧ m % 2 = 0
    rotate_left
    · rw [decide_eq_false hB, if_ff]
      have hv : ∃ v, iand u (ixor (p2 (c % W)) (-1)) = v ∧ 0 ≤ v ∧ v < p2 W ∧ rot W ((c + 1) % W) v = m / 2 := by
        by_cases z : u / p2 (c % W) % 2 = 0
        · refine ⟨u, by rw [ha4, z]; omega, u0, u1, (hr1.1 z).1⟩
        · have z1 : u / p2 (c % W) % 2 = 1 := by omega
          exact ⟨u - p2 (c % W), by rw [ha4, z1]; omega, (hr1.2 z).2, by omega, (hr1.2 z).1⟩
      obtain ⟨v, ev, v0, v1, er⟩ := hv
      rw [ev, wr_id (x := v) (by omega) (by omega), if_pos (by omega), lt_q, bd1_q]
      refine ⟨_, rfl, fun g => ?_, ?_, ?_, fun b b1 b2 => ?_, i5.sL (by simp) rfl⟩
      · rw [rd_add (F := gL M' n2) (y := v) (a := gL M n1 u) (fun q hq => by rw [gL_sL, if_neg (fun z => hq z.2)]) (by rw [gL_sL, if_pos ⟨rfl, rfl⟩]) v0 v1, i1 g, rdN_s u0, er, hm, tsc_c hB]
      · rw [gL_sL, if_neg (by omega), i2, rdN_s u0, hm, gbf_n hB, F_0, L_add0]
      · rw [gL_sL, if_neg (by omega), i3, rdN_s u0, hm, gbf_n hB, F_0, L_add0]
      · rw [gL_sL, if_neg (by omega)]; exact i4 b b1 b2
    rw [decide_eq_true hB, if_tf, canEast_s hy' hf' hs c0 c1 u0 u1, bd1_q, hm]
    have hze : u / p2 (c % W) % 2 = 0 := by rw [← hr0.2.2.1]; exact hB.2
    obtain ⟨a1, a2, a3, a4⟩ := hr1.1 hze
    -- the brick to the east
    obtain ⟨M3, e3, j1, j2, j3, j4⟩ : ∃ M3, (if decide (f (2 * c) = true ∧ m / 2 % 2 = 0) = false then some M' else if 0 ≤ wr (u + 2 * p2 (c % W)) ∧ wr (u + 2 * p2 (c % W)) < 256 then lt (sL M' n2 (wr (u + 2 * p2 (c % W))) (gL M' n2 (wr (u + 2 * p2 (c % W))) + gL M n1 u)) fun M15 => if 0 ≤ wr (2 * c) ∧ wr (2 * c) < 128 then if 0 ≤ wr ((c + 1) * 256 + u + 2 * p2 (c % W)) ∧ wr ((c + 1) * 256 + u + 2 * p2 (c % W)) < 16640 then lt (sL M15 10 (wr (2 * c)) (gL M15 10 (wr (2 * c)) + gL M n1 u * gL M15 9 (wr ((c + 1) * 256 + u + 2 * p2 (c % W))))) fun M18 => some M18 else none else none else none) = some M3 ∧ (∀ g, rd W ((c + 1) % W) (gL M3 n2) g = rd W ((c + 1) % W) (gL M' n2) g + gL M n1 u * lN (if f (2 * c) = true ∧ m / 2 % 2 = 0 then g (m / 2 + 1) else 0)) ∧ gL M3 10 (2 * c) = gL M' 10 (2 * c) + gL M n1 u * lN (gbf W op f (W * H) c (2 * c) m) ∧ (∀ b, b ≠ 2 * c → gL M3 10 b = gL M' 10 b) ∧ Fr [n2, 10] M M3 := by
      by_cases hE : f (2 * c) = true ∧ m / 2 % 2 = 0
      · rw [decide_eq_true hE, if_tf]
        have hx := stn_east hW (hs _ hE.1)
        have hz2 : u / (2 * p2 (c % W)) % 2 = 0 := by rw [← hr0.2.2.2 hx]; exact hE.2
        obtain ⟨b1, b2⟩ := a4 hx hz2
        rw [show (c + 1) * 256 + u + 2 * p2 (c % W) = 256 * (c + 1) + (u + 2 * p2 (c % W)) by omega, wr_id (x := u + 2 * p2 (c % W)) (by omega) (by omega), wr_id (x := 2 * c) (by omega) (by omega), wr_id (x := 256 * (c + 1) + (u + 2 * p2 (c % W))) (by omega) (by omega), if_pos (by omega), lt_q, if_pos (by omega), if_pos (by omega), lt_q]
        have f3 : Fr [n2, 10] M (sL M' n2 (u + 2 * p2 (c % W)) (gL M' n2 (u + 2 * p2 (c % W)) + gL M n1 u)) := i5.sL (by simp) rfl
        refine ⟨_, rfl, fun g => ?_, ?_, fun b hb => ?_, f3.sL (by simp) rfl⟩
        · rw [if_pos hE, rd_add (F := gL M' n2) (y := u + 2 * p2 (c % W)) (a := gL M n1 u) (fun q hq => by rw [gL_sL, if_neg (by omega), gL_sL, if_neg (fun z => hq z.2)]) (by rw [gL_sL, if_neg (by omega), gL_sL, if_pos ⟨rfl, rfl⟩]) (by omega) b2, b1]
        · rw [gL_sL, if_pos ⟨rfl, rfl⟩, tbl _ (by omega) b2 _ f3, gL_sL, if_neg (by omega), b1, gbf_e hB, if_pos hE]
        · rw [gL_sL, if_neg (fun z => hb z.2), gL_sL, if_neg (by omega)]
      · rw [decide_eq_false hE, if_ff]
        refine ⟨M', rfl, fun g => ?_, ?_, fun _ _ => rfl, i5⟩
        · rw [if_neg hE, F_0, L_add0]
        · rw [gbf_e hB, if_neg hE, F_0, L_add0]
    rw [e3, bd1_q, wr_id (x := 2 * c + 1) (by omega) (by omega), if_pos (by omega)]
    have g11 : gI M3 11 (2 * c + 1) = bI (f (2 * c + 1)) := (fI j4 (nmi 11 (by omega)) _).trans (hf _ (by omega) (by omega))
    have q4 : dR M3 8 4 = n2 := (fR j4 nm8 4).trans d2
    rw [g11]
    simp only [wrb]
    cases hS : f (2 * c + 1)
    · rw [if_ff, bd1_q]
      refine ⟨M3, rfl, fun g => ?_, ?_, ?_, fun b b1 b2 => (j3 b b1).trans (i4 b b1 b2), j4⟩
      · rw [j1 g, i1 g, rdN_s u0, hm]
        have : tsc W op f c g m = (if f (2 * c) = true ∧ m / 2 % 2 = 0 then g (m / 2 + 1) else 0) := by
          unfold tsc
          rw [if_pos hB, if_neg (c := f (2 * c + 1) = true) (by rw [hS]; simp), Nat.add_zero]
        rw [this]
      · rw [j2, i2, rdN_s u0, hm]
      · rw [j3 _ (by omega), i3, rdN_s u0, hm, gbf_f hS, F_0, L_add0]
    · rw [if_tf, q4, if_pos ly2, show (c + 1) * 256 + u + p2 (c % W) = 256 * (c + 1) + (u + p2 (c % W)) by omega, wr_id (x := u + p2 (c % W)) (by omega) (by omega), wr_id (x := 256 * (c + 1) + (u + p2 (c % W))) (by omega) (by omega), if_pos (by omega), lt_q, if_pos (by omega), lt_q, bd1_q]
      have f3 : Fr [n2, 10] M (sL M3 n2 (u + p2 (c % W)) (gL M3 n2 (u + p2 (c % W)) + gL M n1 u)) := j4.sL (by simp) rfl
      refine ⟨_, rfl, fun g => ?_, ?_, ?_, fun b b1 b2 => ?_, f3.sL (by simp) rfl⟩
      · rw [rd_add (F := gL M3 n2) (y := u + p2 (c % W)) (a := gL M n1 u) (fun q hq => by rw [gL_sL, if_neg (by omega), gL_sL, if_neg (fun z => hq z.2)]) (by rw [gL_sL, if_neg (by omega), gL_sL, if_pos ⟨rfl, rfl⟩]) (by omega) a3, a2, j1 g, i1 g, rdN_s u0, hm]
        have : tsc W op f c g m = (if f (2 * c) = true ∧ m / 2 % 2 = 0 then g (m / 2 + 1) else 0) + g (m / 2 + p2 (W - 1)) := by
          unfold tsc
          rw [if_pos hB, if_pos (c := f (2 * c + 1) = true) hS]
        rw [this, ← lN_add, Int64.mul_add, Int64.add_assoc]
      · rw [gL_sL, if_neg (by omega), gL_sL, if_neg (by omega), j2, i2, rdN_s u0, hm]
      · rw [gL_sL, if_pos ⟨rfl, rfl⟩, tbl _ (by omega) a3 _ f3, gL_sL, if_neg (by omega), a2, j3 _ (by omega), i3, rdN_s u0, hm, gbf_s hB hS]
      · rw [gL_sL, if_neg (fun z => b2 z.2), gL_sL, if_neg (by omega), j3 b b1]; exact i4 b b1 b2) (fun M' hI => by
    show m_X7_shareAt_L20 M' c ((c + 1) * 256) (p2 (c % W)) (p2 W) = _
    unfold m_X7_shareAt_L20
    rw [fI hI.2.2.2.2 (nmi 1 (by omega)), hy.1, hbW.1, if_pos (Int.le_refl _)]) (by omega) (by omega) (M0 := M) ⟨fun g => by
      unfold rd rdN
      rw [sl_0 _ (fun v v0 v1 => by rw [hz v v0 (by omega), Int64.zero_mul])]
      rfl, hb0.1, hb0.2, fun _ _ _ => rfl, Fr.rf⟩
  rw [e2, bd2_q]
  exact ⟨M2, rfl, h2, h3, h4, h5, f2⟩
