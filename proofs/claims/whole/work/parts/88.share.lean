/-! shares: the ways through a brick, by steps from the first cell -/
theorem cvh : ∀ W : Nat, W < 9 → ∀ m : Nat, m < 2 ^ W → ∀ k : Nat, k < W → ((m : Int) / 2 / p2 k % 2 = 1 ↔ (k + 1 < W ∧ (m : Int) / p2 ((k : Int) + 1) % 2 = 1)) := by decide +kernel
theorem cve : ∀ W : Nat, W < 9 → ∀ m : Nat, m < 2 ^ W → ∀ k : Nat, k < W → ((m : Int) / 2 % 2 = 1 ∨ (((m : Int) / 2 + 1) / p2 k % 2 = 1 ↔ (k = 0 ∨ (k + 1 < W ∧ (m : Int) / p2 ((k : Int) + 1) % 2 = 1)))) := by decide +kernel
theorem cvs : ∀ W : Nat, W < 9 → ∀ m : Nat, m < 2 ^ W → ∀ k : Nat, k < W → (((m : Int) / 2 + p2 ((W : Int) - 1)) / p2 k % 2 = 1 ↔ (k + 1 = W ∨ (k + 1 < W ∧ (m : Int) / p2 ((k : Int) + 1) % 2 = 1))) := by decide +kernel
theorem cvr : ∀ W : Nat, W < 9 → ∀ m : Nat, m < 2 ^ W → (0 < W → (m : Int) / 2 + p2 ((W : Int) - 1) < p2 W) ∧ ((m : Int) / 2 % 2 = 0 → 1 < W → (m : Int) / 2 + 1 < p2 W) ∧ (m : Int) / 2 < p2 W := by decide +kernel
/-- a mask at cell i covers cell e -/
def cov (W i m e : Int) : Prop := i ≤ e ∧ e < i + W ∧ m / p2 (e - i) % 2 = 1
theorem cov_0 {W i m : Int} (h1 : 1 ≤ W) : cov W i m i ↔ m % 2 = 1 := by
  unfold cov
  rw [show i - i = 0 by omega, show p2 0 = 1 by decide, Int.ediv_one]
  omega
theorem cov_1 {W i m : Int} (h1 : 1 < W) : cov W i m (i + 1) ↔ m / 2 % 2 = 1 := by
  unfold cov
  rw [show i + 1 - i = 1 by omega, show p2 1 = 2 by decide]
  omega
theorem cov_z {W i e : Int} : ¬ cov W i 0 e := by
  unfold cov
  rw [Int.zero_ediv]
  omega
theorem cov_h {W i m e : Int} (h1 : 1 ≤ W) (h2 : W ≤ 8) (m0 : 0 ≤ m) (m1 : m < p2 W) (he : i < e) : cov W (i + 1) (m / 2) e ↔ cov W i m e := by
  unfold cov
  by_cases z : e < i + 1 + W
  · have := cvh W.toNat (by omega) m.toNat (p2_i (by omega) m m1) (e - i - 1).toNat (by omega)
    rw [Int.toNat_of_nonneg m0, Int.toNat_of_nonneg (show 0 ≤ e - i - 1 by omega)] at this
    rw [show e - (i + 1) = e - i - 1 by omega, this, show e - i - 1 + 1 = e - i by omega]
    omega
  · omega
theorem cov_e {W i m e : Int} (h1 : 1 ≤ W) (h2 : W ≤ 8) (m0 : 0 ≤ m) (m1 : m < p2 W) (hz : m / 2 % 2 = 0) (he : i < e) : cov W (i + 1) (m / 2 + 1) e ↔ (e = i + 1 ∨ cov W i m e) := by
  unfold cov
  by_cases z : e < i + 1 + W
  · have := cve W.toNat (by omega) m.toNat (p2_i (by omega) m m1) (e - i - 1).toNat (by omega)
    rw [Int.toNat_of_nonneg m0, Int.toNat_of_nonneg (show 0 ≤ e - i - 1 by omega)] at this
    rw [show e - (i + 1) = e - i - 1 by omega, this.resolve_left (by omega), show e - i - 1 + 1 = e - i by omega]
    omega
  · omega
theorem cov_s {W i m e : Int} (h1 : 1 ≤ W) (h2 : W ≤ 8) (m0 : 0 ≤ m) (m1 : m < p2 W) (he : i < e) : cov W (i + 1) (m / 2 + p2 (W - 1)) e ↔ (e = i + W ∨ cov W i m e) := by
  unfold cov
  by_cases z : e < i + 1 + W
  · have := cvs W.toNat (by omega) m.toNat (p2_i (by omega) m m1) (e - i - 1).toNat (by omega)
    rw [Int.toNat_of_nonneg m0, Int.toNat_of_nonneg (show 0 ≤ e - i - 1 by omega), Int.toNat_of_nonneg (show 0 ≤ W by omega)] at this
    rw [show e - (i + 1) = e - i - 1 by omega, this, show e - i - 1 + 1 = e - i by omega]
    omega
  · omega
theorem cov_r {W m : Int} (h1 : 1 ≤ W) (h2 : W ≤ 8) (m0 : 0 ≤ m) (m1 : m < p2 W) : 0 ≤ m / 2 ∧ m / 2 < p2 W ∧ 0 ≤ m / 2 + p2 (W - 1) ∧ m / 2 + p2 (W - 1) < p2 W ∧ (m / 2 % 2 = 0 → 1 < W → m / 2 + 1 < p2 W) := by
  have := cvr W.toNat (by omega) m.toNat (p2_i (by omega) m m1)
  rw [Int.toNat_of_nonneg m0, Int.toNat_of_nonneg (show 0 ≤ W by omega)] at this
  have h3 : 1 ≤ p2 (W - 1) := (Bt0 (by omega) (by omega)).2.2.2.1
  exact ⟨by omega, this.2.2, by omega, this.1 (by omega), fun a b => this.2.1 a (by omega)⟩
/-- one step back: the reference's, the class's -/
def tst (W : Int) (op f : Int → Bool) (c : Int) (g : Int → Nat) (m : Int) : Nat := if op c = false then (if m % 2 = 1 then 0 else g (m / 2)) else if m % 2 = 1 then g (m / 2) else (if f (2 * c) = true ∧ m / 2 % 2 = 0 then g (m / 2 + 1) else 0) + (if f (2 * c + 1) = true then g (m / 2 + p2 (W - 1)) else 0)
def tsc (W : Int) (op f : Int → Bool) (c : Int) (g : Int → Nat) (m : Int) : Nat := if op c = true ∧ m % 2 = 0 then (if f (2 * c) = true ∧ m / 2 % 2 = 0 then g (m / 2 + 1) else 0) + (if f (2 * c + 1) = true then g (m / 2 + p2 (W - 1)) else 0) else g (m / 2)
def tL (st : Int → (Int → Nat) → Int → Nat) : Nat → (Int → Nat) → Nat
  | 0, g => g 0
  | k + 1, g => tL st k (st k g)
theorem tL_rel {st st' : Int → (Int → Nat) → Int → Nat} (P : Nat → (Int → Nat) → (Int → Nat) → Prop) : ∀ (k : Nat) (g g' : Int → Nat), (∀ i g g', i < k → P (i + 1) g g' → P i (st i g) (st' i g')) → (∀ g g', P 0 g g' → g 0 = g' 0) → P k g g' → tL st k g = tL st' k g' := by
  intro k
  induction k with
  | zero => intro g g' _ h0 h; exact h0 g g' h
  | succ k ih =>
    intro g g' hs h0 h
    exact ih _ _ (fun i g g' a b => hs i g g' (by omega) b) h0 (hs k g g' (by omega) h)
theorem wyc_tL {W : Int} {op f : Int → Bool} {N : Int} : ∀ k : Nat, (k : Int) ≤ N → tL (tst W op f) k (wyc W op f N k) = wyc W op f N 0 0 := by
  intro k
  induction k with
  | zero => intro _; rfl
  | succ k ih =>
    intro h
    show tL (tst W op f) k (tst W op f k (wyc W op f N ((k + 1 : Nat) : Int))) = _
    rw [← ih (by omega)]
    congr 1
    funext m
    rw [wyc_s (by omega)]
    rfl
theorem fmu_t {W H : Int} {f : Int → Bool} {b x : Int} : fmu W H f b x = true ↔ f x = true ∧ (x = b ∨ djt W H x b) := by
  unfold fmu
  rw [Bool.and_eq_true, bp_t]
theorem st_e {W H : Int} {op : Int → Bool} (hW : WHr W H) {c : Int} (h : stn W H op (2 * c) = true) : c % W + 1 < W ∧ oth W H (2 * c) = c + 1 ∧ op (c + 1) = true ∧ 1 < W := by
  have h1 := stn_east hW h
  obtain ⟨s1, s2, s3, s4, s5, s6, s7, s8⟩ := stn_t hW h
  have h2 := oth_ev (H := H) h1
  rw [h2] at s7
  have := Int.emod_nonneg c (show W ≠ 0 by have := hW.1; omega)
  exact ⟨h1, h2, s7, by omega⟩
theorem st_s {W H : Int} {op : Int → Bool} (hW : WHr W H) {c : Int} (h : stn W H op (2 * c + 1) = true) : oth W H (2 * c + 1) = c + W ∧ op (c + W) = true := by
  have h2 := oth_so hW h
  obtain ⟨s1, s2, s3, s4, s5, s6, s7, s8⟩ := stn_t hW h
  rw [h2] at s7
  exact ⟨h2, s7⟩
theorem tsc_c {W : Int} {op f : Int → Bool} {i : Int} {g : Int → Nat} {m : Int} (h : ¬ (op i = true ∧ m % 2 = 0)) : tsc W op f i g m = g (m / 2) := by
  unfold tsc
  rw [if_neg h]
theorem tst_c {W : Int} {op f : Int → Bool} {i : Int} {g : Int → Nat} {m : Int} (h : ¬ (op i = true ∧ m % 2 = 0)) (h2 : m % 2 = 1 → op i = true) : tst W op f i g m = g (m / 2) := by
  unfold tst
  cases ho : op i
  · rw [if_pos rfl, if_neg (fun z => by have := h2 z; rw [ho] at this; exact absurd this (by simp))]
  · rw [if_neg (by simp), if_pos (by have : ¬ m % 2 = 0 := fun q => h ⟨ho, q⟩; omega)]
theorem tst_o {W : Int} {op f : Int → Bool} {i : Int} {g : Int → Nat} {m : Int} (h : op i = true) (h2 : m % 2 = 0) : tst W op f i g m = (if f (2 * i) = true ∧ m / 2 % 2 = 0 then g (m / 2 + 1) else 0) + (if f (2 * i + 1) = true then g (m / 2 + p2 (W - 1)) else 0) := by
  unfold tst
  rw [if_neg (by rw [h]; simp), if_neg (by omega)]
def PR (W : Int) (op : Int → Bool) (c d i : Int) (g g' : Int → Nat) : Prop := ∀ m, 0 ≤ m → m < p2 W → (∀ e, cov W i m e → op e = true) → (¬ cov W i m c → ¬ cov W i m d → g m = g' m) ∧ (cov W i m c ∨ cov W i m d → g m = 0)
theorem PR_s {W H : Int} {op f : Int → Bool} (hW : WHr W H) (hs : FS W H op f) {b : Int} (hb : stn W H op b = true) {i : Int} (hi : i < b / 2) {g g' : Int → Nat} (h : PR W op (b / 2) (oth W H b) (i + 1) g g') : PR W op (b / 2) (oth W H b) i (tsc W op f i g) (tst W op (fmu W H f b) i g') := by
  intro m m0 m1 hg
  obtain ⟨b0, b1, b2, b3, b4, b5, b6, -⟩ := stn_t hW hb
  have a1 := hW.1
  have a2 := hW.2.1
  have hr := cov_r a1 a2 m0 m1
  have hdW := oth_le hW b3
  generalize hc : b / 2 = c at *
  generalize hd : oth W H b = d at *
  by_cases z : op i = true ∧ m % 2 = 0
  rotate_left
  · have hodd : m % 2 = 1 → op i = true := fun q => hg i ((cov_0 a1).mpr q)
    rw [tsc_c z, tst_c z hodd]
    obtain ⟨k1, k2⟩ := h (m / 2) hr.1 hr.2.1 (fun e he => hg e ((cov_h a1 a2 m0 m1 (by have := he.1; omega)).mp he))
    rw [cov_h a1 a2 m0 m1 (by omega), cov_h a1 a2 m0 m1 (by omega)] at k1 k2
    exact ⟨k1, k2⟩
  · obtain ⟨zo, ze⟩ := z
    rw [tst_o zo ze]
    unfold tsc
    rw [if_pos ⟨zo, ze⟩]
    -- east
    have hE : (¬ cov W i m c → ¬ cov W i m d → (if f (2 * i) = true ∧ m / 2 % 2 = 0 then g (m / 2 + 1) else 0) = (if fmu W H f b (2 * i) = true ∧ m / 2 % 2 = 0 then g' (m / 2 + 1) else 0)) ∧ (cov W i m c ∨ cov W i m d → (if f (2 * i) = true ∧ m / 2 % 2 = 0 then g (m / 2 + 1) else 0) = 0) := by
      by_cases y : f (2 * i) = true ∧ m / 2 % 2 = 0
      rotate_left
      · rw [if_neg y, if_neg (fun q => y ⟨(fmu_t.mp q.1).1, q.2⟩)]
        exact ⟨fun _ _ => rfl, fun _ => rfl⟩
      · obtain ⟨e1, e2, e3, e4⟩ := st_e hW (hs _ y.1)
        rw [if_pos y]
        obtain ⟨k1, k2⟩ := h (m / 2 + 1) (by omega) (hr.2.2.2.2 y.2 e4) (fun e he => by
          rcases (cov_e a1 a2 m0 m1 y.2 (by have := he.1; omega)).mp he with q | q
          · rw [q]; exact e3
          · exact hg e q)
        rw [cov_e a1 a2 m0 m1 y.2 (by omega), cov_e a1 a2 m0 m1 y.2 (by omega)] at k1 k2
        refine ⟨fun n1 n2 => ?_, fun n => k2 (n.elim (fun q => Or.inl (Or.inr q)) (fun q => Or.inr (Or.inr q)))⟩
        by_cases t : c = i + 1 ∨ d = i + 1
        · rw [k2 (t.elim (fun q => Or.inl (Or.inl q)) (fun q => Or.inr (Or.inl q))), if_neg]
          rintro ⟨q, -⟩
          obtain ⟨-, q⟩ := fmu_t.mp q
          rcases q with q | q
          · omega
          · unfold djt at q
            rw [e2, hc, hd] at q
            omega
        · have hfm : fmu W H f b (2 * i) = true := fmu_t.mpr ⟨y.1, Or.inr (by unfold djt; rw [e2, hc, hd]; omega)⟩
          rw [if_pos ⟨hfm, y.2⟩]
          exact k1 (fun q => q.elim (fun q => t (Or.inl q)) n1) (fun q => q.elim (fun q => t (Or.inr q)) n2)
    have hS : (¬ cov W i m c → ¬ cov W i m d → (if f (2 * i + 1) = true then g (m / 2 + p2 (W - 1)) else 0) = (if fmu W H f b (2 * i + 1) = true then g' (m / 2 + p2 (W - 1)) else 0)) ∧ (cov W i m c ∨ cov W i m d → (if f (2 * i + 1) = true then g (m / 2 + p2 (W - 1)) else 0) = 0) := by
      by_cases y : f (2 * i + 1) = true
      rotate_left
      · rw [if_neg y, if_neg (fun q => y (fmu_t.mp q).1)]
        exact ⟨fun _ _ => rfl, fun _ => rfl⟩
      · obtain ⟨e2, e3⟩ := st_s hW (hs _ y)
        rw [if_pos y]
        obtain ⟨k1, k2⟩ := h (m / 2 + p2 (W - 1)) hr.2.2.1 hr.2.2.2.1 (fun e he => by
          rcases (cov_s a1 a2 m0 m1 (by have := he.1; omega)).mp he with q | q
          · rw [q]; exact e3
          · exact hg e q)
        rw [cov_s a1 a2 m0 m1 (by omega), cov_s a1 a2 m0 m1 (by omega)] at k1 k2
        refine ⟨fun n1 n2 => ?_, fun n => k2 (n.elim (fun q => Or.inl (Or.inr q)) (fun q => Or.inr (Or.inr q)))⟩
        by_cases t : c = i + W ∨ d = i + W
        · rw [k2 (t.elim (fun q => Or.inl (Or.inl q)) (fun q => Or.inr (Or.inl q))), if_neg]
          intro q
          obtain ⟨-, q⟩ := fmu_t.mp q
          rcases q with q | q
          · omega
          · unfold djt at q
            rw [e2, hc, hd] at q
            omega
        · rw [if_pos (fmu_t.mpr ⟨y, Or.inr ?_⟩)]
          · exact k1 (fun q => q.elim (fun q => t (Or.inl q)) n1) (fun q => q.elim (fun q => t (Or.inr q)) n2)
          · unfold djt
            rw [e2, hc, hd]
            omega
    exact ⟨fun n1 n2 => by rw [hE.1 n1 n2, hS.1 n1 n2], fun n => by rw [hE.2 n, hS.2 n]⟩
theorem wyc_af {W H : Int} {op f : Int → Bool} (hW : WHr W H) (hs : FS W H op f) {b : Int} (hb : stn W H op b = true) : ∀ (k : Nat) (i m : Int), W * H - i = k → b / 2 < i → 0 ≤ m → m < p2 W → (i ≤ oth W H b → cov W i m (oth W H b)) → wyc W op (fmu W H f b) (W * H) i m = wyc W op f (W * H) i m := by
  obtain ⟨b0, b1, b2, b3, b4, b5, b6, -⟩ := stn_t hW hb
  have a1 := hW.1
  have a2 := hW.2.1
  have hdW := oth_le hW b3
  intro k
  induction k with
  | zero =>
    intro i m hk hi m0 m1 hc
    rw [show i = W * H by omega, wyc_e, wyc_e]
  | succ k ih =>
    intro i m hk hi m0 m1 hcv
    have hr := cov_r a1 a2 m0 m1
    generalize hc : b / 2 = c at *
    generalize hd : oth W H b = d at *
    rw [wyc_s (c := i) (by omega), wyc_s (c := i) (f := f) (by omega)]
    have half : wyc W op (fmu W H f b) (W * H) (i + 1) (m / 2) = wyc W op f (W * H) (i + 1) (m / 2) := ih (i + 1) (m / 2) (by omega) (by omega) hr.1 hr.2.1 (fun q => (cov_h a1 a2 m0 m1 (by omega)).mpr (hcv (by omega)))
    rw [half]
    by_cases zo : op i = false
    · rw [if_pos zo, if_pos zo]
    · rw [if_neg zo, if_neg zo]
      by_cases ze : m % 2 = 1
      · rw [if_pos ze, if_pos ze]
      · rw [if_neg ze, if_neg ze]
        have nid : i ≠ d := fun q => ze ((cov_0 a1).mp (by have := hcv (by omega); rw [← q] at this; exact this))
        congr 1
        · by_cases y : f (2 * i) = true ∧ m / 2 % 2 = 0
          · obtain ⟨e1, e2, e3, e4⟩ := st_e hW (hs _ y.1)
            have n1 : i + 1 ≠ d := fun q => by
              have := hcv (by omega)
              rw [← q, cov_1 e4] at this
              omega
            have hfm : fmu W H f b (2 * i) = true := fmu_t.mpr ⟨y.1, Or.inr (by unfold djt; rw [e2, hc, hd]; omega)⟩
            rw [if_pos y, if_pos ⟨hfm, y.2⟩]
            exact ih (i + 1) (m / 2 + 1) (by omega) (by omega) (by omega) (hr.2.2.2.2 y.2 e4) (fun q => (cov_e a1 a2 m0 m1 y.2 (by omega)).mpr (Or.inr (hcv (by omega))))
          · rw [if_neg y, if_neg (fun q => y ⟨(fmu_t.mp q.1).1, q.2⟩)]
        · by_cases y : f (2 * i + 1) = true
          · obtain ⟨e2, e3⟩ := st_s hW (hs _ y)
            rw [if_pos y, if_pos (fmu_t.mpr ⟨y, Or.inr ?_⟩)]
            · exact ih (i + 1) (m / 2 + p2 (W - 1)) (by omega) (by omega) hr.2.2.1 hr.2.2.2.1 (fun q => (cov_s a1 a2 m0 m1 (by omega)).mpr (Or.inr (hcv (by omega))))
            · unfold djt
              rw [e2, hc, hd]
              omega
          · rw [if_neg y, if_neg (fun q => y (fmu_t.mp q).1)]
/-- what a brick at cell c adds, by mask -/
def gbr (W : Int) (op f : Int → Bool) (N c b : Int) (m : Int) : Nat := if op c = true ∧ m % 2 = 0 then (if b % 2 = 0 then (if m / 2 % 2 = 0 then wyc W op f N (c + 1) (m / 2 + 1) else 0) else wyc W op f N (c + 1) (m / 2 + p2 (W - 1))) else 0
theorem PR_e {W H : Int} {op f : Int → Bool} (hW : WHr W H) (hs : FS W H op f) {b : Int} (hf : f b = true) : PR W op (b / 2) (oth W H b) (b / 2) (gbr W op f (W * H) (b / 2) b) (wyc W op (fmu W H f b) (W * H) (b / 2)) := by
  have hb := hs b hf
  have hb' := hb
  obtain ⟨b0, b1, b2, b3, b4, b5, b6, -⟩ := stn_t hW hb
  have a1 := hW.1
  have a2 := hW.2.1
  intro m m0 m1 hg
  have hr := cov_r a1 a2 m0 m1
  have hfb : fmu W H f b b = true := fmu_t.mpr ⟨hf, Or.inl rfl⟩
  unfold gbr
  rw [wyc_s (f := fmu W H f b) (by omega), if_neg (c := op (b / 2) = false) (by rw [b2]; simp), cov_0 a1]
  by_cases ze : m % 2 = 0
  rotate_left
  · rw [if_neg (fun q => ze q.2)]
    exact ⟨fun n => by omega, fun _ => rfl⟩
  rw [if_pos ⟨b2, ze⟩, if_neg (c := m % 2 = 1) (by omega)]
  by_cases zb : b % 2 = 0
  · have eb : 2 * (b / 2) = b := by omega
    rw [← eb] at hb
    obtain ⟨e1, e2, e3, e4⟩ := st_e hW hb
    rw [eb] at e2
    have hno : ¬ fmu W H f b (2 * (b / 2) + 1) = true := fun q => by
      obtain ⟨-, q⟩ := fmu_t.mp q
      rcases q with q | q
      · omega
      · unfold djt at q; omega
    rw [if_pos zb, if_neg hno, eb, e2, cov_1 e4]
    by_cases y : m / 2 % 2 = 0
    · rw [if_pos y, if_pos ⟨hfb, y⟩]
      refine ⟨fun _ _ => ?_, fun n => by omega⟩
      rw [Nat.add_zero]
      refine (wyc_af hW hs hb' (W * H - (b / 2 + 1)).toNat (b / 2 + 1) (m / 2 + 1) (by omega) (by omega) (by omega) (hr.2.2.2.2 y e4) (fun _ => ?_)).symm
      rw [e2]
      exact (cov_e a1 a2 m0 m1 y (by omega)).mpr (Or.inl rfl)
    · rw [if_neg y]
      exact ⟨fun _ n => by omega, fun _ => rfl⟩
  · have eb : 2 * (b / 2) + 1 = b := by omega
    rw [← eb] at hb
    obtain ⟨e2, e3⟩ := st_s hW hb
    rw [eb] at e2
    have hno : ¬ fmu W H f b (2 * (b / 2)) = true := fun q => by
      obtain ⟨-, q⟩ := fmu_t.mp q
      rcases q with q | q
      · omega
      · unfold djt at q; omega
    rw [if_neg zb, if_neg (fun q => hno q.1), eb, e2, if_pos hfb]
    refine ⟨fun _ _ => ?_, fun n => ?_⟩
    · rw [Nat.zero_add]
      refine (wyc_af hW hs hb' (W * H - (b / 2 + 1)).toNat (b / 2 + 1) (m / 2 + p2 (W - 1)) (by omega) (by omega) hr.2.2.1 hr.2.2.2.1 (fun _ => ?_)).symm
      rw [e2]
      exact (cov_s a1 a2 m0 m1 (by omega)).mpr (Or.inl rfl)
    · rcases n with n | n
      · omega
      · have := n.2.1; omega
theorem shN_e {W H : Int} {op f : Int → Bool} (hW : WHr W H) (hs : FS W H op f) {b : Int} (hf : f b = true) : shN W H op f b = tL (tsc W op f) (b / 2).toNat (gbr W op f (W * H) (b / 2) b) := by
  obtain ⟨b0, b1, b2, b3, b4, b5, b6, -⟩ := stn_t hW (hs b hf)
  unfold shN
  rw [if_pos hf]
  have h1 : wy W op (fmu W H f b) (W * H) (W * H).toNat 0 = wyc W op (fmu W H f b) (W * H) 0 0 := by
    unfold wyc
    rw [Int.sub_zero]
  rw [h1, ← wyc_tL (b / 2).toNat (by omega), Int.toNat_of_nonneg (by omega)]
  refine (tL_rel (fun i g g' => PR W op (b / 2) (oth W H b) i g g') (b / 2).toNat _ _ (fun i g g' hi h => ?_) (fun g g' h => ?_) ?_).symm
  · exact PR_s hW hs (hs b hf) (by omega) h
  · exact (h 0 (by omega) (by have := p2_256 hW.1 hW.2.1; omega) (fun e he => absurd he cov_z)).1 cov_z cov_z
  · rw [Int.toNat_of_nonneg (by omega)]
    exact PR_e hW hs hf
