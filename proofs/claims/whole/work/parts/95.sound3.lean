/-! sound: lines that are not crossed, counted with signs -/
def gd (W : Int) (op : Int → Bool) (t m : Int) : Prop := 0 ≤ m ∧ m < p2 W ∧ ∀ e, cov W t m e → op e = true
theorem gd_0 {W H : Int} {op : Int → Bool} (hW : WHr W H) (t : Int) : gd W op t 0 := ⟨by omega, by have := p2_256 hW.1 hW.2.1; omega, fun e he => absurd he cov_z⟩
theorem gd_h {W H : Int} {op : Int → Bool} (hW : WHr W H) {t m : Int} (h : gd W op t m) : gd W op (t + 1) (m / 2) := by
  have hr := cov_r hW.1 hW.2.1 h.1 h.2.1
  exact ⟨hr.1, hr.2.1, fun e he => h.2.2 e ((cov_h hW.1 hW.2.1 h.1 h.2.1 (by have := he.1; omega)).mp he)⟩
theorem gd_e {W H : Int} {op : Int → Bool} (hW : WHr W H) {t m : Int} (h : gd W op t m) (hs : stn W H op (2 * t) = true) (hm : m / 2 % 2 = 0) : gd W op (t + 1) (m / 2 + 1) := by
  have hr := cov_r hW.1 hW.2.1 h.1 h.2.1
  obtain ⟨e1, e2, e3, e4⟩ := st_e hW hs
  refine ⟨by omega, hr.2.2.2.2 hm e4, fun e he => ?_⟩
  rcases (cov_e hW.1 hW.2.1 h.1 h.2.1 hm (by have := he.1; omega)).mp he with q | q
  · rw [q]; exact e3
  · exact h.2.2 e q
theorem gd_s {W H : Int} {op : Int → Bool} (hW : WHr W H) {t m : Int} (h : gd W op t m) (hs : stn W H op (2 * t + 1) = true) : gd W op (t + 1) (m / 2 + p2 (W - 1)) := by
  have hr := cov_r hW.1 hW.2.1 h.1 h.2.1
  obtain ⟨e2, e3⟩ := st_s hW hs
  refine ⟨hr.2.2.1, hr.2.2.2.1, fun e he => ?_⟩
  rcases (cov_s hW.1 hW.2.1 h.1 h.2.1 (by have := he.1; omega)).mp he with q | q
  · rw [q]; exact e3
  · exact h.2.2 e q
theorem tsc_tst {W H : Int} {op f : Int → Bool} (hW : WHr W H) {t m : Int} (h : gd W op t m) (g : Int → Nat) : tsc W op f t g m = tst W op f t g m := by
  by_cases z : op t = true ∧ m % 2 = 0
  · rw [tst_o z.1 z.2]
    unfold tsc
    rw [if_pos z]
  · rw [tsc_c z, tst_c z (fun q => h.2.2 t ((cov_0 hW.1).mpr q))]
theorem tst_rel {W H : Int} {op f f2 : Int → Bool} (hW : WHr W H) (hs : FS W H op f) {t : Int} (h1 : f (2 * t) = f2 (2 * t)) (h2 : f (2 * t + 1) = f2 (2 * t + 1)) {g g' : Int → Nat} (hg : ∀ m, gd W op (t + 1) m → g m = g' m) {m : Int} (h : gd W op t m) : tst W op f t g m = tst W op f2 t g' m := by
  by_cases z : op t = true ∧ m % 2 = 0
  · rw [tst_o z.1 z.2, tst_o z.1 z.2, ← h1, ← h2]
    congr 1
    · by_cases y : f (2 * t) = true ∧ m / 2 % 2 = 0
      · rw [if_pos y, if_pos y]; exact hg _ (gd_e hW h (hs _ y.1) y.2)
      · rw [if_neg y, if_neg y]
    · by_cases y : f (2 * t + 1) = true
      · rw [if_pos y, if_pos y]; exact hg _ (gd_s hW h (hs _ y))
      · rw [if_neg y, if_neg y]
  · rw [tst_c z (fun q => h.2.2 t ((cov_0 hW.1).mpr q)), tst_c z (fun q => h.2.2 t ((cov_0 hW.1).mpr q))]
    exact hg _ (gd_h hW h)
theorem tL_gd {W H : Int} {op f : Int → Bool} (hW : WHr W H) (hs : FS W H op f) (k : Nat) {g g' : Int → Nat} (hg : ∀ m, gd W op k m → g m = g' m) : tL (tst W op f) k g = tL (tst W op f) k g' :=
  tL_rel (fun i g g' => ∀ m, gd W op i m → g m = g' m) k g g' (fun i g g' _ hh m hm => tst_rel hW hs rfl rfl hh hm) (fun g g' hh => hh 0 (gd_0 hW 0)) hg
def ch (st : Int → (Int → Nat) → Int → Nat) (k : Nat) : Nat → (Int → Nat) → Int → Nat
  | 0, g => g
  | j + 1, g => ch st k j (st ((k + j : Nat) : Int) g)
theorem tL_ch (st : Int → (Int → Nat) → Int → Nat) (k : Nat) : ∀ (j : Nat) (g : Int → Nat), tL st (k + j) g = tL st k (ch st k j g) := by
  intro j
  induction j with
  | zero => intro g; rfl
  | succ j ih =>
    intro g
    show tL st (k + j) (st ((k + j : Nat) : Int) g) = _
    rw [ih]; rfl
theorem ch_gd {W H : Int} {op f f2 : Int → Bool} (hW : WHr W H) (hs : FS W H op f) (k : Nat) : ∀ (j : Nat) (g g' : Int → Nat), (∀ t : Int, (k : Int) ≤ t → t < ((k + j : Nat) : Int) → f (2 * t) = f2 (2 * t) ∧ f (2 * t + 1) = f2 (2 * t + 1)) → (∀ m, gd W op ((k + j : Nat) : Int) m → g m = g' m) → ∀ m, gd W op k m → ch (tsc W op f) k j g m = ch (tst W op f2) k j g' m := by
  intro j
  induction j with
  | zero => intro g g' _ hg m hm; exact hg m hm
  | succ j ih =>
    intro g g' hf hg m hm
    refine ih _ _ (fun t a b => hf t a (by omega)) (fun m' hm' => ?_) m hm
    have h := hf ((k + j : Nat) : Int) (by omega) (by omega)
    rw [tsc_tst hW hm']
    exact tst_rel hW hs h.1 h.2 hg hm'
theorem tL_add {W : Int} {op f : Int → Bool} : ∀ (k : Nat) (g h : Int → Nat), tL (tst W op f) k (fun m => g m + h m) = tL (tst W op f) k g + tL (tst W op f) k h := by
  intro k
  induction k with
  | zero => intro g h; rfl
  | succ k ih =>
    intro g h
    show tL (tst W op f) k (tst W op f k (fun m => g m + h m)) = tL (tst W op f) k (tst W op f k g) + tL (tst W op f) k (tst W op f k h)
    rw [← ih]
    congr 1
    funext m
    unfold tst
    dsimp only
    by_cases z : op k = false
    · rw [if_pos z, if_pos z, if_pos z]
      split <;> omega
    · rw [if_neg z, if_neg z, if_neg z]
      by_cases y : m % 2 = 1
      · rw [if_pos y, if_pos y, if_pos y]
      · rw [if_neg y, if_neg y, if_neg y]
        by_cases u : f (2 * (k : Int)) = true ∧ m / 2 % 2 = 0
        · rw [if_pos u, if_pos u, if_pos u]
          split <;> omega
        · rw [if_neg u, if_neg u, if_neg u]
          split <;> omega
def p00 (g : Int → Nat) (m : Int) : Nat := if m = 0 then g 0 else 0
theorem kz_p (g : Int → Nat) (m : Int) : kz g m + p00 g m = g m := by
  unfold kz p00
  by_cases z : m = 0
  · rw [if_pos z, if_pos z, z, Nat.zero_add]
  · rw [if_neg z, if_neg z, Nat.add_zero]
theorem ch_tK {H : Int} {op f : Int → Bool} {x : Int} (h0 : 0 < x) (hH : 1 ≤ H) {k : Nat} (hk : (k : Int) = x * H) : ∀ (j : Nat) (g : Int → Nat), (j : Int) + 1 ≤ H → ch (tK H op f) k (j + 1) g = kz (ch (tsc H op f) k (j + 1) g) := by
  intro j
  induction j with
  | zero =>
    intro g _
    show tK H op f ((k + 0 : Nat) : Int) g = kz (tsc H op f ((k + 0 : Nat) : Int) g)
    have hpos : 0 < x * H := Int.mul_pos h0 (by omega)
    unfold tK kk
    rw [show ((k + 0 : Nat) : Int) = x * H by omega, Int.mul_emod_left, if_pos rfl, if_pos hpos]
  | succ j ih =>
    intro g hj
    show ch (tK H op f) k (j + 1) (tK H op f ((k + (j + 1) : Nat) : Int) g) = kz (ch (tsc H op f) k (j + 1) (tsc H op f ((k + (j + 1) : Nat) : Int) g))
    rw [ih _ (by omega)]
    congr 2
    unfold tK
    rw [if_neg]
    rw [show ((k + (j + 1) : Nat) : Int) = ((j : Int) + 1) + x * H by omega, Int.add_mul_emod_self_right, Int.emod_eq_of_lt (by omega) (by omega)]
    omega
/-- bricks that cross no line of the set -/
def fs (W H : Int) (op : Int → Bool) (s b : Int) : Bool := stn W H op b && decide (b % 2 = 1 ∨ s / p2 (b / 2 % W) % 2 = 0)
theorem fs_FS (W H : Int) (op : Int → Bool) (s : Int) : FS W H op (fs W H op s) := fun b h => by
  unfold fs at h
  rw [Bool.and_eq_true] at h
  exact h.1
theorem st_FS (W H : Int) (op : Int → Bool) : FS W H op (stn W H op) := fun _ h => h
theorem Gs_e {W H : Int} {op : Int → Bool} {s t : Int} (t0 : 0 ≤ t) (t1 : t < W * H) : fT W H (fs W H op s) (2 * t) = fT W H (stn W H op) (2 * t) := by
  rw [fT_e t0 t1, fT_e t0 t1]
  unfold fs
  rw [decide_eq_true (Or.inl (by omega)), Bool.and_true]
theorem Gs_o {W H : Int} {op : Int → Bool} (hW : WHr W H) {s t : Int} (t0 : 0 ≤ t) (t1 : t < W * H) : fT W H (fs W H op s) (2 * t + 1) = (fT W H (stn W H op) (2 * t + 1) && decide (s / p2 (t / H) % 2 = 0)) := by
  rw [fT_o t0 t1, fT_o t0 t1]
  unfold fs
  have ht := trc_r hW t0 t1
  rw [show 2 * trc W H t / 2 = trc W H t by omega, ht.2.2.2.1]
  congr 1
  apply bx
  rw [decide_eq_true_iff, decide_eq_true_iff]
  omega
theorem bit_hi : ∀ x : Nat, x < 8 → ∀ s : Nat, s < 2 ^ x → ∀ i : Nat, i < 8 → (x ≤ i → (s : Int) / p2 i % 2 = 0) ∧ (((s : Int) + p2 x) / p2 i % 2 = if i = x then 1 else (s : Int) / p2 i % 2) := by decide +kernel
def fsx (W H : Int) (op : Int → Bool) (s : Int) : Int → Bool := fT W H (fs W H op s)
/-- a line forbidden: only the mask of nothing goes on -/
theorem line_s {W H : Int} {op : Int → Bool} (hW : WHr W H) {x s : Nat} (x0 : 0 < x) (x1 : (x : Int) < W) (hs : s < 2 ^ (x - 1)) {k : Nat} (hk : (k : Int) = x * H) (g g' : Int → Nat) (h0 : g 0 = g' 0) : tL (tst H (opT W H op) (fsx W H op s)) k (p00 g) = tL (tst H (opT W H op) (fsx W H op (s + p2 ((x : Int) - 1)))) k g' := by
  have hV := WHs hW
  have a1 := hV.1
  have a2 := hV.2.1
  have hw := hW.2.1
  have FSs := fT_FS hW (fs_FS W H op s)
  have hkN : (k : Int) + H ≤ W * H := by
    have : ((x : Int) + 1) * H ≤ W * H := Int.mul_le_mul_of_nonneg_right (by omega) (by omega)
    rw [Int.add_mul] at this
    omega
  refine tL_rel (fun i g g' => (i ≤ k) → ∀ m, gd H (opT W H op) i m → ((∀ e, cov H i m e → e < k) → g m = g' m) ∧ ((∃ e, cov H i m e ∧ (k : Int) ≤ e) → g m = 0)) k _ _ (fun i g g' hi h _ m hm => ?_) (fun g g' h => ?_) (fun _ m hm => ?_)
  · have h := h (by omega)
    have iN : (i : Int) < W * H := by omega
    have hev : fsx W H op s (2 * (i : Int)) = fsx W H op (s + p2 ((x : Int) - 1)) (2 * (i : Int)) := by
      unfold fsx
      rw [Gs_e (by omega) iN, Gs_e (by omega) iN]
    by_cases z : opT W H op i = true ∧ m % 2 = 0
    rotate_left
    · have hodd : m % 2 = 1 → opT W H op i = true := fun q => hm.2.2 i ((cov_0 a1).mpr q)
      rw [tst_c z hodd, tst_c z hodd]
      have h' := h (m / 2) (gd_h hV hm)
      refine ⟨fun q => h'.1 (fun e he => q e ((cov_h a1 a2 hm.1 hm.2.1 (by have := he.1; omega)).mp he)), fun ⟨e, q1, q2⟩ => h'.2 ⟨e, (cov_h a1 a2 hm.1 hm.2.1 (by omega)).mpr q1, q2⟩⟩
    · rw [tst_o z.1 z.2, tst_o z.1 z.2, ← hev]
      have hE : ((∀ e, cov H i m e → e < k) → (if fsx W H op s (2 * (i : Int)) = true ∧ m / 2 % 2 = 0 then g (m / 2 + 1) else 0) = (if fsx W H op s (2 * (i : Int)) = true ∧ m / 2 % 2 = 0 then g' (m / 2 + 1) else 0)) ∧ ((∃ e, cov H i m e ∧ (k : Int) ≤ e) → (if fsx W H op s (2 * (i : Int)) = true ∧ m / 2 % 2 = 0 then g (m / 2 + 1) else 0) = 0) := by
        by_cases y : fsx W H op s (2 * (i : Int)) = true ∧ m / 2 % 2 = 0
        · obtain ⟨e1, e2, e3, e4⟩ := st_e hV (FSs _ y.1)
          have h' := h (m / 2 + 1) (gd_e hV hm (FSs _ y.1) y.2)
          have hlt : (i : Int) + 1 < k := by
            have e5 : (i : Int) / H < x := Int.ediv_lt_of_lt_mul (by omega) (by omega)
            have e6 : (i : Int) / H * H ≤ ((x : Int) - 1) * H := Int.mul_le_mul_of_nonneg_right (by omega) (by omega)
            have e7 := Int.mul_ediv_add_emod (i : Int) H
            rw [Int.mul_comm] at e7
            rw [Int.sub_mul] at e6
            omega
          rw [if_pos y, if_pos y]
          refine ⟨fun q => h'.1 (fun e he => ?_), fun ⟨e, q1, q2⟩ => h'.2 ⟨e, (cov_e a1 a2 hm.1 hm.2.1 y.2 (by omega)).mpr (Or.inr q1), q2⟩⟩
          rcases (cov_e (i := (i : Int)) (e := e) a1 a2 hm.1 hm.2.1 y.2 (by have := he.1; omega)).mp he with q3 | q3
          · omega
          · exact q e q3
        · rw [if_neg y, if_neg y]; exact ⟨fun _ => rfl, fun _ => rfl⟩
      have hS : ((∀ e, cov H i m e → e < k) → (if fsx W H op s (2 * (i : Int) + 1) = true then g (m / 2 + p2 (H - 1)) else 0) = (if fsx W H op (s + p2 ((x : Int) - 1)) (2 * (i : Int) + 1) = true then g' (m / 2 + p2 (H - 1)) else 0)) ∧ ((∃ e, cov H i m e ∧ (k : Int) ≤ e) → (if fsx W H op s (2 * (i : Int) + 1) = true then g (m / 2 + p2 (H - 1)) else 0) = 0) := by
        have e5 : 0 ≤ (i : Int) / H ∧ (i : Int) / H < x := ⟨Int.ediv_nonneg (by omega) (by omega), Int.ediv_lt_of_lt_mul (by omega) (by omega)⟩
        have hb := bit_hi (x - 1) (by omega) s hs ((i : Int) / H).toNat (by omega)
        rw [Int.toNat_of_nonneg e5.1, show ((x - 1 : Nat) : Int) = (x : Int) - 1 by omega] at hb
        have o1 : fsx W H op s (2 * (i : Int) + 1) = (fT W H (stn W H op) (2 * (i : Int) + 1) && decide ((s : Int) / p2 ((i : Int) / H) % 2 = 0)) := Gs_o hW (by omega) iN
        have o2 : fsx W H op (s + p2 ((x : Int) - 1)) (2 * (i : Int) + 1) = (fT W H (stn W H op) (2 * (i : Int) + 1) && decide (((s : Int) + p2 ((x : Int) - 1)) / p2 ((i : Int) / H) % 2 = 0)) := Gs_o hW (by omega) iN
        by_cases y : fsx W H op s (2 * (i : Int) + 1) = true
        · obtain ⟨e2, e3⟩ := st_s hV (FSs _ y)
          have h' := h (m / 2 + p2 (H - 1)) (gd_s hV hm (FSs _ y))
          rw [if_pos y]
          have hy' := y
          rw [o1, Bool.and_eq_true, decide_eq_true_iff] at hy'
          have e7 := Int.mul_ediv_add_emod (i : Int) H
          rw [Int.mul_comm] at e7
          have e8 := Int.emod_lt_of_pos (i : Int) (show 0 < H by omega)
          have e9 := Int.emod_nonneg (i : Int) (show H ≠ 0 by omega)
          refine ⟨fun q => ?_, fun ⟨e, q1, q2⟩ => h'.2 ⟨e, (cov_s a1 a2 hm.1 hm.2.1 (by omega)).mpr (Or.inr q1), q2⟩⟩
          by_cases u : (i : Int) / H = (x : Int) - 1
          · have : ¬ fsx W H op (s + p2 ((x : Int) - 1)) (2 * (i : Int) + 1) = true := by
              rw [o2, Bool.and_eq_true, decide_eq_true_iff, hb.2, if_pos (by omega)]
              omega
            rw [if_neg this]
            refine h'.2 ⟨(i : Int) + H, (cov_s a1 a2 hm.1 hm.2.1 (by omega)).mpr (Or.inl rfl), ?_⟩
            rw [u, Int.sub_mul] at e7
            omega
          · have : fsx W H op (s + p2 ((x : Int) - 1)) (2 * (i : Int) + 1) = true := by
              rw [o2, Bool.and_eq_true, decide_eq_true_iff, hb.2, if_neg (by omega)]
              exact hy'
            rw [if_pos this]
            refine h'.1 (fun e he => ?_)
            rcases (cov_s (i := (i : Int)) (e := e) a1 a2 hm.1 hm.2.1 (by have := he.1; omega)).mp he with q3 | q3
            · have e6 : (i : Int) / H * H ≤ ((x : Int) - 2) * H := Int.mul_le_mul_of_nonneg_right (by omega) (by omega)
              rw [Int.sub_mul] at e6
              omega
            · exact q e q3
        · have : ¬ fsx W H op (s + p2 ((x : Int) - 1)) (2 * (i : Int) + 1) = true := fun q => by
            rw [o2, Bool.and_eq_true, decide_eq_true_iff, hb.2] at q
            apply y
            rw [o1, Bool.and_eq_true, decide_eq_true_iff]
            refine ⟨q.1, ?_⟩
            have q2 := q.2
            by_cases u : ((i : Int) / H).toNat = x - 1
            · rw [if_pos u] at q2; omega
            · rw [if_neg u] at q2; exact q2
          rw [if_neg y, if_neg this]
          exact ⟨fun _ => rfl, fun _ => rfl⟩
      exact ⟨fun q => by rw [hE.1 q, hS.1 q], fun q => by rw [hE.2 q, hS.2 q]⟩
  · exact (h (by omega) 0 (gd_0 hV 0)).1 (fun e he => absurd he cov_z)
  · unfold p00
    by_cases z : m = 0
    · rw [if_pos z, z]
      exact ⟨fun _ => h0, fun ⟨e, q, _⟩ => absurd q cov_z⟩
    · rw [if_neg z]
      refine ⟨fun q => ?_, fun _ => rfl⟩
      exact absurd (cov_n a1 a2 hm.1 hm.2.1 (fun e he => by have h1 := q e he; have h2 := he.1; omega)) z
