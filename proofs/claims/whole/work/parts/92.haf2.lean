/-! the table of ways, by rows and by columns -/
def wb (W : Int) (f : Int → Bool) (a b : Int) : Nat := (if f (2 * a) = true ∧ b = a + 1 then 1 else 0) + (if f (2 * a + 1) = true ∧ b = a + W then 1 else 0)
def ww (W : Int) (f : Int → Bool) (a b : Int) : Nat := wb W f a b + wb W f b a
theorem ww_c (W : Int) (f : Int → Bool) (a b : Int) : ww W f a b = ww W f b a := Nat.add_comm _ _
theorem ww_lt {W : Int} {f : Int → Bool} {a b : Int} (h1 : 1 ≤ W) (h : a < b) : ww W f a b = wb W f a b := by
  unfold ww
  have : wb W f b a = 0 := by
    unfold wb
    rw [if_neg (by omega), if_neg (by omega)]
  rw [this]; rfl
noncomputable def Sm (W : Int) (op : Int → Bool) (N i m : Int) (e : Int) : Bool := bp ((i ≤ e ∧ e < N) ∧ op e = true ∧ ¬ cov W i m e)
theorem Sm_t {W : Int} {op : Int → Bool} {N i m e : Int} : Sm W op N i m e = true ↔ (i ≤ e ∧ e < N) ∧ op e = true ∧ ¬ cov W i m e := bp_t
theorem bt_z : ∀ W : Nat, W < 9 → ∀ m : Nat, m < 2 ^ W → (∀ k : Nat, k < W → (m : Int) / p2 k % 2 = 0) → m = 0 := by decide +kernel
theorem cov_n {W i m : Int} (h1 : 1 ≤ W) (h2 : W ≤ 8) (m0 : 0 ≤ m) (m1 : m < p2 W) (h : ∀ e, ¬ cov W i m e) : m = 0 := by
  have := bt_z W.toNat (by omega) m.toNat (p2_i (by omega) m m1) (fun k hk => by
    have := h (i + k)
    unfold cov at this
    rw [show i + (k : Int) - i = k by omega] at this
    rw [Int.toNat_of_nonneg m0]
    omega)
  omega
theorem wyc_hs {W H : Int} {op f : Int → Bool} (hW : WHr W H) (hs' : FS W H op f) {n : Nat} (hn : (n : Int) = W * H) : ∀ (k : Nat) (i m : Int), i = (n : Int) - k → 0 ≤ i → 0 ≤ m → m < p2 W → (∀ e, cov W i m e → op e = true ∧ e < W * H) → wyc W op f (W * H) i m = hs (ww W f) n k (Sm W op (W * H) i m) := by
  have a1 := hW.1
  have a2 := hW.2.1
  intro k
  induction k with
  | zero =>
    intro i m hi i0 m0 m1 hg
    have z : m = 0 := cov_n a1 a2 m0 m1 (fun e he => by
      have h1 := (hg e he).2
      have h2 := he.1
      omega)
    rw [show i = W * H by omega, wyc_e, if_pos z]; rfl
  | succ k ih =>
    intro i m hi i0 m0 m1 hg
    have hr := cov_r a1 a2 m0 m1
    have hlt : i < W * H := by omega
    have hi' : i = (n : Int) - ((k : Int) + 1) := by omega
    rw [wyc_s hlt]
    by_cases z : op i = true ∧ m % 2 = 0
    rotate_left
    · have hodd : m % 2 = 1 → op i = true := fun q => (hg i ((cov_0 a1).mpr q)).1
      have e1 : (if op i = false then (if m % 2 = 1 then 0 else wyc W op f (W * H) (i + 1) (m / 2)) else if m % 2 = 1 then wyc W op f (W * H) (i + 1) (m / 2) else (if f (2 * i) = true ∧ m / 2 % 2 = 0 then wyc W op f (W * H) (i + 1) (m / 2 + 1) else 0) + (if f (2 * i + 1) = true then wyc W op f (W * H) (i + 1) (m / 2 + p2 (W - 1)) else 0)) = wyc W op f (W * H) (i + 1) (m / 2) := tst_c (g := wyc W op f (W * H) (i + 1)) z hodd
      rw [e1, hs_out hi', ih (i + 1) (m / 2) (by omega) (by omega) hr.1 hr.2.1 (fun e he => hg e ((cov_h a1 a2 m0 m1 (by have := he.1; omega)).mp he))]
      · congr 1
        funext e
        apply bx
        rw [Sm_t, Sm_t]
        by_cases y : e = i
        · constructor
          · rintro ⟨q, -⟩; omega
          · rintro ⟨-, q2, q3⟩
            rw [y] at q2 q3
            rw [cov_0 a1] at q3
            exact absurd ⟨q2, by omega⟩ z
        · by_cases y2 : i < e
          · rw [cov_h a1 a2 m0 m1 y2]
            have : (i + 1 ≤ e ∧ e < W * H) ↔ (i ≤ e ∧ e < W * H) := by omega
            rw [this]
          · constructor
            · rintro ⟨q, -⟩; omega
            · rintro ⟨q, -⟩; omega
      · rw [Sm_t, cov_0 a1]
        rintro ⟨-, q2, q3⟩
        exact z ⟨q2, by omega⟩
    · obtain ⟨zo, ze⟩ := z
      have hSi : Sm W op (W * H) i m i = true := Sm_t.mpr ⟨by omega, zo, by rw [cov_0 a1]; omega⟩
      rw [if_neg (by rw [zo]; simp), if_neg (by omega), hs_in hi' hSi]
      have hE : f (2 * i) = true → m / 2 % 2 = 0 → wyc W op f (W * H) (i + 1) (m / 2 + 1) = hs (ww W f) n k (dl (Sm W op (W * H) i m) i (i + 1)) := fun y1 y2 => by
        obtain ⟨e1, e2, e3, e4⟩ := st_e hW (hs' _ y1)
        obtain ⟨-, -, -, -, -, b5, -⟩ := stn_t hW (hs' _ y1)
        rw [e2] at b5
        rw [ih (i + 1) (m / 2 + 1) (by omega) (by omega) (by omega) (hr.2.2.2.2 y2 e4) (fun e he => by
          rcases (cov_e a1 a2 m0 m1 y2 (by have := he.1; omega)).mp he with q | q
          · rw [q]; exact ⟨e3, b5⟩
          · exact hg e q)]
        congr 1
        funext e
        apply bx
        rw [dl_t, Sm_t, Sm_t]
        by_cases y : i < e
        · rw [cov_e a1 a2 m0 m1 y2 y]
          constructor
          · rintro ⟨q1, q2, q3⟩
            exact ⟨⟨by omega, q2, fun q => q3 (Or.inr q)⟩, by omega, fun q => q3 (Or.inl q)⟩
          · rintro ⟨⟨q1, q2, q3⟩, q4, q5⟩
            exact ⟨by omega, q2, fun q => q.elim q5 q3⟩
        · constructor
          · rintro ⟨q, -⟩; omega
          · rintro ⟨⟨q, -⟩, q2, -⟩; omega
      have hS : f (2 * i + 1) = true → wyc W op f (W * H) (i + 1) (m / 2 + p2 (W - 1)) = hs (ww W f) n k (dl (Sm W op (W * H) i m) i (i + W)) := fun y1 => by
        obtain ⟨e2, e3⟩ := st_s hW (hs' _ y1)
        obtain ⟨-, -, -, -, -, b5, -⟩ := stn_t hW (hs' _ y1)
        rw [e2] at b5
        rw [ih (i + 1) (m / 2 + p2 (W - 1)) (by omega) (by omega) hr.2.2.1 hr.2.2.2.1 (fun e he => by
          rcases (cov_s a1 a2 m0 m1 (by have := he.1; omega)).mp he with q | q
          · rw [q]; exact ⟨e3, b5⟩
          · exact hg e q)]
        congr 1
        funext e
        apply bx
        rw [dl_t, Sm_t, Sm_t]
        by_cases y : i < e
        · rw [cov_s a1 a2 m0 m1 y]
          constructor
          · rintro ⟨q1, q2, q3⟩
            exact ⟨⟨by omega, q2, fun q => q3 (Or.inr q)⟩, by omega, fun q => q3 (Or.inl q)⟩
          · rintro ⟨⟨q1, q2, q3⟩, q4, q5⟩
            exact ⟨by omega, q2, fun q => q.elim q5 q3⟩
        · constructor
          · rintro ⟨q, -⟩; omega
          · rintro ⟨⟨q, -⟩, q2, -⟩; omega
      have key : ∀ d : Int, 0 ≤ d → d < n → (if i < d ∧ Sm W op (W * H) i m d = true then ww W f i d * hs (ww W f) n k (dl (Sm W op (W * H) i m) i d) else 0) = (if d = i + 1 then (if f (2 * i) = true ∧ m / 2 % 2 = 0 then wyc W op f (W * H) (i + 1) (m / 2 + 1) else 0) else 0) + (if d = i + W then (if f (2 * i + 1) = true then wyc W op f (W * H) (i + 1) (m / 2 + p2 (W - 1)) else 0) else 0) := fun d d0 d1 => by
        by_cases c1 : f (2 * i) = true ∧ d = i + 1
        · obtain ⟨e1, e2, e3, e4⟩ := st_e hW (hs' _ c1.1)
          obtain ⟨-, -, -, -, -, b5, -⟩ := stn_t hW (hs' _ c1.1)
          rw [if_pos c1.2, if_neg (c := d = i + W) (by omega), Nat.add_zero, c1.2]
          have hw1 : ww W f i (i + 1) = 1 := by
            rw [ww_lt a1 (by omega)]
            unfold wb
            rw [if_pos ⟨c1.1, rfl⟩, if_neg (by omega)]
          by_cases y : m / 2 % 2 = 0
          · rw [if_pos ⟨by omega, Sm_t.mpr ⟨by omega, e3, by rw [cov_1 e4]; omega⟩⟩, if_pos ⟨c1.1, y⟩, hw1, Nat.one_mul, hE c1.1 y]
          · rw [if_neg (fun q => (Sm_t.mp q.2).2.2 ((cov_1 e4).mpr (by omega))), if_neg (fun q => y q.2)]
        · have hA : (if d = i + 1 then (if f (2 * i) = true ∧ m / 2 % 2 = 0 then wyc W op f (W * H) (i + 1) (m / 2 + 1) else 0) else 0) = 0 := by
            by_cases q : d = i + 1
            · rw [if_pos q, if_neg (fun p => c1 ⟨p.1, q⟩)]
            · rw [if_neg q]
          rw [hA, Nat.zero_add]
          by_cases c2 : f (2 * i + 1) = true ∧ d = i + W
          · obtain ⟨e2, e3⟩ := st_s hW (hs' _ c2.1)
            obtain ⟨-, -, -, -, -, b5, -⟩ := stn_t hW (hs' _ c2.1)
            have hw1 : ww W f i d = 1 := by
              rw [ww_lt a1 (by omega)]
              unfold wb
              rw [if_neg c1, if_pos c2]
            rw [if_pos ⟨by omega, Sm_t.mpr ⟨by omega, by rw [c2.2]; exact e3, fun q => by have := q.2.1; omega⟩⟩, if_pos c2.2, if_pos c2.1, hw1, Nat.one_mul, hS c2.1, c2.2]
          · have hB : (if d = i + W then (if f (2 * i + 1) = true then wyc W op f (W * H) (i + 1) (m / 2 + p2 (W - 1)) else 0) else 0) = 0 := by
              by_cases q : d = i + W
              · rw [if_pos q, if_neg (fun p => c2 ⟨p, q⟩)]
              · rw [if_neg q]
            rw [hB]
            by_cases c3 : i < d ∧ Sm W op (W * H) i m d = true
            · rw [if_pos c3, ww_lt a1 c3.1]
              unfold wb
              rw [if_neg c1, if_neg c2, Nat.zero_mul]
            · rw [if_neg c3]
      rw [sn_congr n key, sn_add, sn_1 (fun _ => _) (i + 1) (by omega), sn_1 (fun _ => _) (i + W) (by omega)]
      congr 1
      · by_cases y : f (2 * i) = true ∧ m / 2 % 2 = 0
        · obtain ⟨e1, e2, e3, e4⟩ := st_e hW (hs' _ y.1)
          obtain ⟨-, -, -, -, -, b5, -⟩ := stn_t hW (hs' _ y.1)
          rw [if_pos (c := i + 1 < (n : Int)) (by omega)]
        · rw [if_neg y]
          simp
      · by_cases y : f (2 * i + 1) = true
        · obtain ⟨e2, e3⟩ := st_s hW (hs' _ y)
          obtain ⟨-, -, -, -, -, b5, -⟩ := stn_t hW (hs' _ y)
          rw [if_pos (c := i + W < (n : Int)) (by omega)]
        · rw [if_neg y]
          simp
theorem hs_w {w w' : Int → Int → Nat} {N : Nat} (h : ∀ a b : Int, 0 ≤ a → a < N → 0 ≤ b → b < N → w a b = w' a b) : ∀ (k : Nat) (S : Int → Bool), k ≤ N → hs w N k S = hs w' N k S := by
  intro k
  induction k with
  | zero => intro S _; rfl
  | succ k ih =>
    intro S hk
    obtain ⟨i, hi⟩ : ∃ i : Int, i = (N : Int) - (k + 1) := ⟨_, rfl⟩
    by_cases z : S i = true
    · rw [hs_in hi z, hs_in hi z]
      refine sn_congr N (fun d d0 d1 => ?_)
      rw [h i d (by omega) (by omega) d0 d1, ih _ (by omega)]
    · rw [hs_out hi z, hs_out hi z]; exact ih S (by omega)
/-- by columns -/
def trc (W H t : Int) : Int := t % H * W + t / H
def opT (W H : Int) (op : Int → Bool) (t : Int) : Bool := op (trc W H t)
def fT (W H : Int) (f : Int → Bool) (b : Int) : Bool := decide (0 ≤ b ∧ b < 2 * (W * H)) && (if b % 2 = 0 then f (2 * trc W H (b / 2) + 1) else f (2 * trc W H (b / 2)))
theorem WHs {W H : Int} (h : WHr W H) : WHr H W := ⟨h.2.2.1, h.2.2.2, h.1, h.2.1⟩
theorem trc_r {W H : Int} (hW : WHr W H) {t : Int} (t0 : 0 ≤ t) (t1 : t < W * H) : 0 ≤ trc W H t ∧ trc W H t < W * H ∧ trc H W (trc W H t) = t ∧ trc W H t % W = t / H ∧ trc W H t / W = t % H ∧ 0 ≤ t % H ∧ t % H < H ∧ 0 ≤ t / H ∧ t / H < W := by
  have hc := cx_r (WHs hW) t0 (by rw [Int.mul_comm]; exact t1)
  have h := xy_c hW (x := t / H) (y := t % H) hc.2.2.1 hc.2.2.2.1 hc.1 hc.2.1
  refine ⟨h.1, h.2.1, ?_, h.2.2.1, h.2.2.2, hc.1, hc.2.1, hc.2.2.1, hc.2.2.2.1⟩
  show trc W H t % W * H + trc W H t / W = t
  have e1 : trc W H t % W = t / H := h.2.2.1
  have e2 : trc W H t / W = t % H := h.2.2.2
  rw [e1, e2]
  exact hc.2.2.2.2
theorem fT_e {W H : Int} {f : Int → Bool} {t : Int} (t0 : 0 ≤ t) (t1 : t < W * H) : fT W H f (2 * t) = f (2 * trc W H t + 1) := by
  unfold fT
  rw [decide_eq_true (show 0 ≤ 2 * t ∧ 2 * t < 2 * (W * H) by omega), if_pos (by omega), show 2 * t / 2 = t by omega]; rfl
theorem fT_o {W H : Int} {f : Int → Bool} {t : Int} (t0 : 0 ≤ t) (t1 : t < W * H) : fT W H f (2 * t + 1) = f (2 * trc W H t) := by
  unfold fT
  rw [decide_eq_true (show 0 ≤ 2 * t + 1 ∧ 2 * t + 1 < 2 * (W * H) by omega), if_neg (by omega), show (2 * t + 1) / 2 = t by omega]; rfl
theorem trc_1 {W H : Int} (hW : WHr W H) {t : Int} (t0 : 0 ≤ t) (t1 : t < W * H) (h : t % H + 1 < H) : trc W H (t + 1) = trc W H t + W := by
  have a := hW.2.2.1
  have e1 : (t + 1) % H = t % H + 1 ∧ (t + 1) / H = t / H := by
    rcases W8 hW.2.2.1 hW.2.2.2 with rfl | rfl | rfl | rfl | rfl | rfl | rfl | rfl <;> omega
  unfold trc
  rw [e1.1, e1.2, Int.add_mul]; omega
theorem trc_H {W H : Int} (hW : WHr W H) {t : Int} : trc W H (t + H) = trc W H t + 1 := by
  have a := hW.2.2.1
  have e1 : (t + H) % H = t % H ∧ (t + H) / H = t / H + 1 := by
    rcases W8 hW.2.2.1 hW.2.2.2 with rfl | rfl | rfl | rfl | rfl | rfl | rfl | rfl <;> omega
  unfold trc
  rw [e1.1, e1.2]; omega
theorem stn_so {W H : Int} {op : Int → Bool} (hW : WHr W H) {c : Int} (h : stn W H op (2 * c + 1) = true) : c / W + 1 < H := by
  obtain ⟨s1, s2, s3, s4, -⟩ := stn_t hW h
  unfold oth at s4
  rw [if_neg (by omega), show (2 * c + 1) / 2 = c by omega] at s4
  by_cases z : c / W + 1 < H
  · exact z
  · rw [if_neg z] at s4; omega
theorem fT_FS {W H : Int} {op f : Int → Bool} (hW : WHr W H) (hs' : FS W H op f) : FS H W (opT W H op) (fT W H f) := by
  intro b hb
  have hb' := hb
  unfold fT at hb
  rw [Bool.and_eq_true, decide_eq_true_iff] at hb
  obtain ⟨⟨b0, b1⟩, hb⟩ := hb
  have ht := trc_r hW (t := b / 2) (by omega) (by omega)
  have hHW : H * W = W * H := Int.mul_comm _ _
  by_cases z : b % 2 = 0
  · rw [if_pos z] at hb
    have h1 := stn_so hW (hs' _ hb)
    rw [ht.2.2.2.2.1] at h1
    obtain ⟨s1, s2, s3, s4, s5, s6, s7, -⟩ := stn_t hW (hs' _ hb)
    have e2 := st_s hW (hs' _ hb)
    have eo : oth H W b = b / 2 + 1 := by
      have := oth_ev (W := H) (H := W) (c := b / 2) (by omega)
      rw [show 2 * (b / 2) = b by omega] at this; exact this
    refine stn_i (WHs hW) b0 (by omega) ?_ (by rw [eo]; omega) ?_
    · show op (trc W H (b / 2)) = true
      rw [show (2 * trc W H (b / 2) + 1) / 2 = trc W H (b / 2) by omega] at s3; exact s3
    · rw [eo]
      show op (trc W H (b / 2 + 1)) = true
      rw [trc_1 hW (by omega) (by omega) h1]
      exact e2.2
  · rw [if_neg z] at hb
    obtain ⟨s1, s2, s3, s4, s5, s6, s7, -⟩ := stn_t hW (hs' _ hb)
    have e2 := st_e hW (hs' _ hb)
    have h1 := e2.1
    rw [ht.2.2.2.1] at h1
    have eo : oth H W b = b / 2 + H := by
      have := oth_od (W := H) (H := W) (c := b / 2) (by omega)
      rw [show 2 * (b / 2) + 1 = b by omega] at this; exact this
    have a := hW.2.2.1
    refine stn_i (WHs hW) b0 (by omega) ?_ (by rw [eo]; omega) ?_
    · show op (trc W H (b / 2)) = true
      rw [show (2 * trc W H (b / 2)) / 2 = trc W H (b / 2) by omega] at s3; exact s3
    · rw [eo]
      show op (trc W H (b / 2 + H)) = true
      rw [trc_H hW]
      exact e2.2.2.1
theorem wb_T {W H : Int} {op f : Int → Bool} (hW : WHr W H) (hs' : FS W H op f) {a b : Int} (a0 : 0 ≤ a) (a1 : a < W * H) (b0 : 0 ≤ b) (b1 : b < W * H) : wb H (fT W H f) a b = wb W f (trc W H a) (trc W H b) := by
  have ha := trc_r hW a0 a1
  have hb := trc_r hW b0 b1
  have inj : ∀ t, 0 ≤ t → t < W * H → (b = t ↔ trc W H b = trc W H t) := fun t t0 t1 => ⟨fun q => by rw [q], fun q => by rw [← hb.2.2.1, q, (trc_r hW t0 t1).2.2.1]⟩
  have h1 := hW.2.2.1
  unfold wb
  rw [fT_e a0 a1, fT_o a0 a1, Nat.add_comm]
  congr 1
  · by_cases y : f (2 * trc W H a) = true
    · have e2 := st_e hW (hs' _ y)
      have h2 := e2.1
      rw [ha.2.2.2.1] at h2
      have hlt : a + H < W * H := by
        have hc := cx_r (WHs hW) a0 (by rw [Int.mul_comm]; exact a1)
        have : (a / H + 1) * H + a % H < H * W := (xy_c (WHs hW) (x := a % H) (y := a / H + 1) hc.1 hc.2.1 (by omega) h2).2.1
        rw [Int.add_mul] at this
        rw [Int.mul_comm W H]; omega
      rw [← trc_H hW]
      by_cases t : b = a + H
      · rw [if_pos ⟨y, t⟩, if_pos ⟨y, (inj _ (by omega) hlt).mp t⟩]
      · rw [if_neg (fun q => t q.2), if_neg (fun q => t ((inj _ (by omega) hlt).mpr q.2))]
    · rw [if_neg (fun q => y q.1), if_neg (fun q => y q.1)]
  · by_cases y : f (2 * trc W H a + 1) = true
    · have h2 := stn_so hW (hs' _ y)
      rw [ha.2.2.2.2.1] at h2
      have hlt : a + 1 < W * H := by
        have hc := cx_r (WHs hW) a0 (by rw [Int.mul_comm]; exact a1)
        have : a / H * H + (a % H + 1) < H * W := (xy_c (WHs hW) (x := a % H + 1) (y := a / H) (by omega) h2 hc.2.2.1 hc.2.2.2.1).2.1
        rw [Int.mul_comm W H]; omega
      rw [← trc_1 hW a0 a1 h2]
      by_cases t : b = a + 1
      · rw [if_pos ⟨y, t⟩, if_pos ⟨y, (inj _ (by omega) hlt).mp t⟩]
      · rw [if_neg (fun q => t q.2), if_neg (fun q => t ((inj _ (by omega) hlt).mpr q.2))]
    · rw [if_neg (fun q => y q.1), if_neg (fun q => y q.1)]
theorem wyc_T {W H : Int} {op f : Int → Bool} (hW : WHr W H) (hs' : FS W H op f) : wyc W op f (W * H) 0 0 = wyc H (opT W H op) (fT W H f) (W * H) 0 0 := by
  have h8 := WH_le hW
  have hHW : H * W = W * H := Int.mul_comm _ _
  obtain ⟨n, hn⟩ : ∃ n : Nat, (n : Int) = W * H := ⟨(W * H).toNat, by omega⟩
  have p1 := p2_256 hW.1 hW.2.1
  have p2' := p2_256 (WHs hW).1 (WHs hW).2.1
  rw [wyc_hs hW hs' hn n 0 0 (by omega) (by omega) (by omega) (by omega) (fun e he => absurd he cov_z)]
  have h2 := wyc_hs (WHs hW) (fT_FS hW hs') (n := n) (by omega) n 0 0 (by omega) (by omega) (by omega) (by omega) (fun e he => absurd he cov_z)
  rw [hHW] at h2
  rw [h2, hs_w (w := ww H (fT W H f)) (w' := fun a b => ww W f (trc W H a) (trc W H b)) (fun a b a0 a1 b0 b1 => by
    unfold ww
    rw [wb_T hW hs' a0 (by omega) b0 (by omega), wb_T hW hs' b0 (by omega) a0 (by omega)]) n _ (Nat.le_refl _)]
  refine (hs_perm (ww_c W f) (tr := trc W H) (iv := trc H W) (fun x x0 x1 => ?_) (fun x x0 x1 => ?_) n _ _ (Nat.le_refl _) (fun x hx => ?_) (fun x hx => ?_) (fun x x0 x1 => ?_)).symm
  · have := trc_r hW x0 (by omega)
    exact ⟨this.1, by omega, this.2.2.1⟩
  · have := trc_r (WHs hW) x0 (by omega)
    exact ⟨this.1, by omega, this.2.2.1⟩
  · have := (Sm_t.mp hx).1; omega
  · have := (Sm_t.mp hx).1; omega
  · apply bx
    have := trc_r hW x0 (by omega)
    rw [Sm_t, Sm_t]
    constructor
    · rintro ⟨q1, q2, q3⟩; exact ⟨by omega, q2, cov_z⟩
    · rintro ⟨q1, q2, q3⟩; exact ⟨by omega, q2, cov_z⟩
