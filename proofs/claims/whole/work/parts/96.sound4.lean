/-! sound: both sides -/
def pcs (J : Nat) (s : Int) : Int := sm J (fun i => s / p2 i % 2)
def sgv (J : Nat) (s : Int) (v : Int64) : Int64 := if pcs J s % 2 = 0 then v else 0 - v
theorem pcs_up : ∀ J : Nat, J < 8 → ∀ x : Nat, x < J → ∀ s : Nat, s < 2 ^ x → pcs J ((s : Int) + p2 x) = pcs J s + 1 := by decide +kernel
theorem pcs_0 (J : Nat) : pcs J 0 = 0 := by
  unfold pcs
  induction J with
  | zero => rfl
  | succ J ih => rw [sm_s, ih, Int.zero_ediv]; rfl
theorem sl_split (a : Nat) (h : Int → Int64) : ∀ b : Nat, sl (a + b) h = sl a h + sl b (fun s => h (s + a)) := by
  intro b
  induction b with
  | zero => show sl a h = sl a h + 0; rw [Int64.add_zero]
  | succ b ih =>
    show sl (a + b) h + h ((a + b : Nat) : Int) = sl a h + (sl b (fun s => h (s + a)) + h ((b : Int) + a))
    rw [ih, Int64.add_assoc, show ((a + b : Nat) : Int) = (b : Int) + a by omega]
theorem sl_add2 (g h : Int → Int64) : ∀ n : Nat, sl n (fun x => g x + h x) = sl n g + sl n h := by
  intro n
  induction n with
  | zero => rfl
  | succ n ih =>
    show sl n (fun x => g x + h x) + (g n + h n) = sl n g + g n + (sl n h + h n)
    rw [ih, Int64.add_assoc, Int64.add_assoc, ← Int64.add_assoc (sl n h), Int64.add_comm (sl n h) (g n), Int64.add_assoc]
theorem sg_up {J : Nat} {s s2 : Int} {a b c : Int64} (h : pcs J s2 = pcs J s + 1) (hc : c + b = a) : sgv J s c = sgv J s a + sgv J s2 b := by
  unfold sgv
  rw [h, ← hc]
  by_cases z : pcs J s % 2 = 0
  · rw [if_pos z, if_pos z, if_neg (by omega), Int64.sub_eq_add_neg, Int64.zero_add, Int64.add_assoc, Int64.add_right_neg, Int64.add_zero]
  · rw [if_neg z, if_neg z, if_pos (by omega), Int64.sub_eq_add_neg, Int64.sub_eq_add_neg, Int64.zero_add, Int64.zero_add, Int64.neg_add, Int64.sub_eq_add_neg, Int64.add_assoc, Int64.add_left_neg, Int64.add_zero]
theorem incl_s {W H : Int} {op : Int → Bool} (hW : WHr W H) {h : Nat} (hh : (h : Int) = H) {J : Nat} (hJ : (J : Int) = W - 1) : ∀ x : Nat, ((x + 1 : Nat) : Int) ≤ W → ∀ g : Int → Nat, lN (tL (tK H (opT W H op) (fT W H (stn W H op))) ((x + 1) * h) g) = sl (2 ^ x) (fun s => sgv J s (lN (tL (tst H (opT W H op) (fsx W H op s)) ((x + 1) * h) g))) := by
  have hV := WHs hW
  have a1 := hV.1
  have a2 := hV.2.1
  have hw := hW.2.1
  have F0 := fT_FS hW (st_FS W H op)
  intro x
  induction x with
  | zero =>
    intro hx g
    show _ = 0 + sgv J ((0 : Nat) : Int) (lN (tL (tst H (opT W H op) (fsx W H op ((0 : Nat) : Int))) ((0 + 1) * h) g))
    have e0 : ∀ v, sgv J ((0 : Nat) : Int) v = v := fun v => by
      unfold sgv
      rw [show ((0 : Nat) : Int) = 0 from rfl, pcs_0, if_pos (by decide)]
    rw [e0, Int64.zero_add, show (0 + 1) * h = h by omega]
    congr 1
    have hN : H ≤ W * H := by
      have : 1 * H ≤ W * H := Int.mul_le_mul_of_nonneg_right hW.1 (by omega)
      omega
    refine tL_rel (fun i g g' => ∀ m, gd H (opT W H op) i m → g m = g' m) h g g (fun i g g' hi hg m hm => ?_) (fun g g' hg => hg 0 (gd_0 hV 0)) (fun m _ => rfl)
    have eK : tK H (opT W H op) (fT W H (stn W H op)) i g m = tsc H (opT W H op) (fT W H (stn W H op)) i g m := by
      unfold tK kk
      have : (i : Int) % H = i := Int.emod_eq_of_lt (by omega) (by omega)
      rw [this]
      by_cases z : (i : Int) = 0
      · rw [if_pos z, if_neg (by omega)]
      · rw [if_neg z]
    rw [eK, tsc_tst hV hm]
    refine tst_rel hV F0 ?_ ?_ hg hm
    · exact (Gs_e (by omega) (by omega)).symm
    · unfold fsx
      rw [Gs_o hW (by omega) (by omega), show ((0 : Nat) : Int) = 0 from rfl, Int.zero_ediv, decide_eq_true (by omega), Bool.and_true]
  | succ x ih =>
    intro hx g
    obtain ⟨k, hk⟩ : ∃ k : Nat, k = (x + 1) * h := ⟨_, rfl⟩
    have hkI : (k : Int) = ((x + 1 : Nat) : Int) * H := by rw [hk, ← hh]; exact Int.natCast_mul _ _
    obtain ⟨j, hj⟩ : ∃ j : Nat, h = j + 1 := ⟨h - 1, by omega⟩
    have ek : (x + 1 + 1) * h = k + h := by rw [hk, Nat.add_mul (x + 1) 1 h, Nat.one_mul]
    have hkN : (k : Int) + H ≤ W * H := by
      have : ((x + 1 + 1 : Nat) : Int) * H ≤ W * H := Int.mul_le_mul_of_nonneg_right hx (by omega)
      rw [show ((x + 1 + 1 : Nat) : Int) = ((x + 1 : Nat) : Int) + 1 by omega, Int.add_mul] at this
      omega
    rw [ek, tL_ch]
    have eC : ch (tK H (opT W H op) (fT W H (stn W H op))) k h g = kz (ch (tsc H (opT W H op) (fT W H (stn W H op))) k h g) := by
      rw [hj]
      exact ch_tK (x := ((x + 1 : Nat) : Int)) (by omega) a1 hkI j g (by omega)
    rw [eC, hk, ih (by omega), ← hk, Nat.pow_succ, Nat.mul_two, sl_split, ← sl_add2]
    refine sl_congr _ (fun s s0 s1 => ?_)
    obtain ⟨s, rfl⟩ : ∃ n : Nat, s = n := ⟨s.toNat, by omega⟩
    have s1' : s < 2 ^ x := by
      have := p2N x
      omega
    have ep : ((2 ^ x : Nat) : Int) = p2 x := (p2N x).symm
    rw [ep]
    have hag : ∀ s' : Int, s' / p2 ((x + 1 : Nat) : Int) % 2 = 0 → ∀ t : Int, (k : Int) ≤ t → t < ((k + h : Nat) : Int) → fT W H (stn W H op) (2 * t) = fsx W H op s' (2 * t) ∧ fT W H (stn W H op) (2 * t + 1) = fsx W H op s' (2 * t + 1) := fun s' hs' t t0 t1 => by
      have et : t / H = ((x + 1 : Nat) : Int) := by
        have e1 : t = (t - k) + ((x + 1 : Nat) : Int) * H := by omega
        rw [e1, Int.add_mul_ediv_right _ _ (by omega), Int.ediv_eq_zero_of_lt (by omega) (by omega), Int.zero_add]
      refine ⟨(Gs_e (by omega) (by omega)).symm, ?_⟩
      unfold fsx
      rw [Gs_o hW (by omega) (by omega), et, hs', decide_eq_true rfl, Bool.and_true]
    have hb := bit_hi x (by omega) s s1' (x + 1) (by omega)
    rw [if_neg (by omega)] at hb
    refine sg_up (pcs_up J (by omega) x (by omega) s s1') ?_
    -- the three counts
    have c1 : tL (tst H (opT W H op) (fsx W H op (s : Int))) (k + h) g = tL (tst H (opT W H op) (fsx W H op (s : Int))) k (ch (tsc H (opT W H op) (fT W H (stn W H op))) k h g) := by
      rw [tL_ch]
      refine tL_gd hV (fT_FS hW (fs_FS W H op s)) k (fun m hm => ?_)
      exact (ch_gd hV F0 k h g g (hag s (hb.1 (by omega))) (fun m _ => rfl) m hm).symm
    have c2 : tL (tst H (opT W H op) (fsx W H op ((s : Int) + p2 x))) (k + h) g = tL (tst H (opT W H op) (fsx W H op (s : Int))) k (p00 (ch (tsc H (opT W H op) (fT W H (stn W H op))) k h g)) := by
      rw [tL_ch]
      have hl := line_s (op := op) hW (x := x + 1) (s := s) (by omega) (by omega) s1' hkI (ch (tsc H (opT W H op) (fT W H (stn W H op))) k h g) (ch (tst H (opT W H op) (fsx W H op ((s : Int) + p2 x))) k h g) (ch_gd hV F0 k h g g (hag _ (by rw [hb.2]; exact hb.1 (by omega))) (fun m _ => rfl) 0 (gd_0 hV k))
      rw [show ((x + 1 : Nat) : Int) - 1 = x by omega] at hl
      exact hl.symm
    rw [c1, c2, lN_add, ← tL_add]
    congr 2
    funext m
    exact kz_p _ m
theorem sound_e {W H : Int} {op : Int → Bool} (hW : WHr W H) : lN (tL (tK H (opT W H op) (fT W H (stn W H op))) (W * H).toNat e00) = sl (p2 (W - 1)).toNat (fun s => sgv (W - 1).toNat s (lN (wyc W op (fs W H op s) (W * H) 0 0))) := by
  have h8 := WH_le hW
  obtain ⟨a1, a2, a3, a4⟩ := hW
  have hW : WHr W H := ⟨a1, a2, a3, a4⟩
  obtain ⟨h, hh⟩ : ∃ h : Nat, (h : Int) = H := ⟨H.toNat, by omega⟩
  obtain ⟨x, hx⟩ : ∃ x : Nat, ((x + 1 : Nat) : Int) = W := ⟨(W - 1).toNat, by omega⟩
  have eN : (W * H).toNat = (x + 1) * h := by
    rw [← hx, ← hh, ← Int.natCast_mul, Int.toNat_natCast]
  rw [eN, incl_s hW hh (J := (W - 1).toNat) (by omega) x (by omega) e00]
  have ep : (p2 (W - 1)).toNat = 2 ^ x := by
    rw [show W - 1 = (x : Int) by omega, p2N, Int.toNat_natCast]
  rw [ep]
  refine sl_congr _ (fun s s0 s1 => ?_)
  congr 2
  rw [wyc_T hW (fs_FS W H op s), ← wyc_tL (N := W * H) ((x + 1) * h) (by rw [← eN]; omega)]
  congr 1
  funext m
  rw [show (((x + 1) * h : Nat) : Int) = W * H by rw [← eN]; omega, wyc_e]
  rfl
