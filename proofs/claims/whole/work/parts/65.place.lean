/-! place -/
theorem wyc_bd {W H : Int} {op f : Int → Bool} (hW : WHr W H) (hs : FS W H op f) : ∀ (k : Nat) (c m : Int), c = W * H - k → 0 ≤ c → wyc W op f (W * H) c m ≤ 2 ^ (W * H - W - c).toNat := by
  intro k
  induction k with
  | zero =>
    intro c m hc c0
    have hc' : c = W * H := by omega
    subst hc'
    rw [wyc_e]
    have := hW.1
    rw [show (W * H - W - W * H).toNat = 0 by omega]
    split <;> decide
  | succ k ih =>
    intro c m hc c0
    have i1 := ih (c + 1) (m / 2) (by omega) (by omega)
    have i2 := ih (c + 1) (m / 2 + 1) (by omega) (by omega)
    have i3 := ih (c + 1) (m / 2 + p2 (W - 1)) (by omega) (by omega)
    rw [wyc_s (by omega)]
    by_cases z : c < W * H - W
    · have e : (W * H - W - c).toNat = (W * H - W - (c + 1)).toNat + 1 := by omega
      rw [e, Nat.pow_succ]
      generalize 2 ^ (W * H - W - (c + 1)).toNat = P at *
      repeat' split
      all_goals omega
    · have e : (W * H - W - c).toNat = 0 := by omega
      have e2 : (W * H - W - (c + 1)).toNat = 0 := by omega
      rw [e2] at i1 i2 i3
      rw [e]
      have hf : ¬ f (2 * c + 1) = true := by
        intro q
        have := oth_so hW (hs _ q)
        have := (stn_t hW (hs _ q)).2.2.2.2.2.1
        omega
      rw [if_neg hf]
      have : (2 : Nat) ^ 0 = 1 := rfl
      repeat' split
      all_goals omega
theorem wyc_63 {W H : Int} {op f : Int → Bool} (hW : WHr W H) (hs : FS W H op f) {c : Int} (c0 : 0 ≤ c) (c1 : c ≤ W * H) (m : Int) : wyc W op f (W * H) c m < 2 ^ 63 := by
  have h := wyc_bd hW hs (W * H - c).toNat c m (by omega) c0
  have h56 : (W * H - W - c).toNat ≤ 56 := by
    obtain ⟨a1, a2, a3, a4⟩ := hW
    rcases W8 a1 a2 with rfl | rfl | rfl | rfl | rfl | rfl | rfl | rfl <;> omega
  have : 2 ^ (W * H - W - c).toNat ≤ 2 ^ 56 := Nat.pow_le_pow_right (by decide) h56
  have : (2 : Nat) ^ 56 < 2 ^ 63 := by decide
  omega
def eW (W : Int) (op f : Int → Bool) (N c m : Int) : Nat := if f (2 * c) = true ∧ m / 2 % 2 = 0 then wyc W op f N (c + 1) (m / 2 + 1) else 0
abbrev TJ : Type := Nat × Int × (Int → Int) × Int
def stp (W H : Int) (op : Int → Bool) (sel : Int → Nat → Int → Bool × Nat) (c : Int) (s : TJ) : TJ := if op c = true ∧ s.2.1 % 2 = 0 then ((sel c s.1 s.2.1).2, (if (sel c s.1 s.2.1).1 = true then s.2.1 / 2 + 1 else s.2.1 / 2 + p2 (W - 1)), puts W H s.2.2.1 (if (sel c s.1 s.2.1).1 = true then 2 * c else 2 * c + 1), s.2.2.2 + 1) else (s.1, s.2.1 / 2, s.2.2.1, s.2.2.2)
def trj (W H : Int) (op : Int → Bool) (sel : Int → Nat → Int → Bool × Nat) (r : Nat) : Nat → TJ
  | 0 => (r, 0, fun _ => 0, 0)
  | c + 1 => stp W H op sel c (trj W H op sel r c)
theorem trj_s {W H : Int} {op : Int → Bool} {sel : Int → Nat → Int → Bool × Nat} {r : Nat} {c : Int} (h : 0 ≤ c) : trj W H op sel r (c + 1).toNat = stp W H op sel c (trj W H op sel r c.toNat) := by
  rw [show (c + 1).toNat = c.toNat + 1 by omega]
  show stp W H op sel ((c.toNat : Nat) : Int) _ = _
  rw [Int.toNat_of_nonneg h]
/-- a rule J that every step keeps, and that lets only standing bricks lie -/
def Keeps (W H : Int) (op : Int → Bool) (sel : Int → Nat → Int → Bool × Nat) (J : Int → Nat → Int → Prop) : Prop := ∀ c l m, 0 ≤ c → c < W * H → 0 ≤ m → m < p2 W → J c l m → (op c = true ∧ m % 2 = 0 → stn W H op (if (sel c l m).1 = true then 2 * c else 2 * c + 1) = true ∧ ((sel c l m).1 = true → m / 2 % 2 = 0) ∧ J (c + 1) (sel c l m).2 (if (sel c l m).1 = true then m / 2 + 1 else m / 2 + p2 (W - 1))) ∧ (¬ (op c = true ∧ m % 2 = 0) → J (c + 1) l (m / 2))
theorem trj_PV {W H : Int} {op : Int → Bool} {sel : Int → Nat → Int → Bool × Nat} {J : Int → Nat → Int → Prop} (hW : WHr W H) (hK : Keeps W H op sel J) {r : Nat} (hr : J 0 r 0) : ∀ c : Nat, (c : Int) ≤ W * H → PV W H op c (trj W H op sel r c).2.1 (trj W H op sel r c).2.2.1 (trj W H op sel r c).2.2.2 ∧ J c (trj W H op sel r c).1 (trj W H op sel r c).2.1 := by
  intro c
  induction c with
  | zero => intro _; exact ⟨PV_0 W H op _ hW.1 hW.2.1, hr⟩
  | succ c ih =>
    intro hc
    obtain ⟨i1, i2⟩ := ih (by omega)
    have hk := hK c _ _ (by omega) (by omega) i1.1 i1.2.1 i2
    show PV W H op ((c : Int) + 1) (stp W H op sel c (trj W H op sel r c)).2.1 (stp W H op sel c (trj W H op sel r c)).2.2.1 (stp W H op sel c (trj W H op sel r c)).2.2.2 ∧ J ((c : Int) + 1) (stp W H op sel c (trj W H op sel r c)).1 (stp W H op sel c (trj W H op sel r c)).2.1
    unfold stp
    by_cases z : op c = true ∧ (trj W H op sel r c).2.1 % 2 = 0
    · rw [if_pos z]
      obtain ⟨q1, q2, q3⟩ := hk.1 z
      exact ⟨(PV_put hW (by omega) (by omega) i1 z.1 z.2 q1 q2).1, q3⟩
    · rw [if_neg z]
      refine ⟨(PV_skip hW (by omega) (by omega) i1 ?_).1, hk.2 z⟩
      cases ho : op c
      · exact Or.inl rfl
      · right
        have : ¬ (trj W H op sel r c).2.1 % 2 = 0 := fun y => z ⟨ho, y⟩
        omega
def selR (W : Int) (op f : Int → Bool) (N : Int) (c : Int) (l : Nat) (m : Int) : Bool × Nat := (decide (l < eW W op f N c m), if l < eW W op f N c m then l else l - eW W op f N c m)
theorem keepsR {W H : Int} {op f : Int → Bool} (hW : WHr W H) (hs : FS W H op f) : Keeps W H op (selR W op f (W * H)) (fun c l m => l < wyc W op f (W * H) c m) := by
  intro c l m c0 c1 m0 m1 hJ
  rw [wyc_s c1] at hJ
  refine ⟨fun z => ?_, fun z => ?_⟩
  · rw [if_neg (by rw [z.1]; decide), if_neg (by omega)] at hJ
    change l < eW W op f (W * H) c m + _ at hJ
    unfold selR
    dsimp only
    by_cases q : l < eW W op f (W * H) c m
    · rw [decide_eq_true q, if_pos rfl, if_pos q, if_pos rfl]
      unfold eW at q
      by_cases y : f (2 * c) = true ∧ m / 2 % 2 = 0
      · rw [if_pos y] at q
        exact ⟨hs _ y.1, fun _ => y.2, q⟩
      · rw [if_neg y] at q; omega
    · rw [decide_eq_false q, if_neg (by decide), if_neg q, if_neg (by decide)]
      by_cases y : f (2 * c + 1) = true
      · rw [if_pos y] at hJ
        exact ⟨hs _ y, fun z => absurd z (by decide), by omega⟩
      · rw [if_neg y] at hJ; omega
  · cases ho : op c
    · rw [ho, if_pos rfl] at hJ
      by_cases y : m % 2 = 1
      · rw [if_pos y] at hJ; omega
      · rw [if_neg y] at hJ; exact hJ
    · rw [ho, if_neg (by decide)] at hJ
      have : m % 2 = 1 := by
        have : ¬ m % 2 = 0 := fun y => z ⟨ho, y⟩
        omega
      rw [if_pos this] at hJ; exact hJ
/-- small methods of the sweep -/
theorem wr_iand (a b : Int) : wr (iand a b) = iand a b := by
  unfold iand
  exact wr_id (Int32.le_toInt _) (by have := Int32.toInt_lt (Int32.ofInt a &&& Int32.ofInt b); omega)
theorem isBare_s {M : Mem} {W H : Int} {op : Int → Bool} (hy : YC M W H op) {c u : Int} (c0 : 0 ≤ c) (c1 : c < W * H) (u0 : 0 ≤ u) (u1 : u < p2 W) : m_X7_isBare M c u = some (decide (op c = true ∧ rot W (c % W) u % 2 = 0)) := by
  have hW := hy.2.2.1
  have h8 := WH_le hW
  have hp := p2_256 hW.1 hW.2.1
  have hcx := cx_r hW c0 c1
  have hw2 := hW.2.1
  have hb0 := Bt0 (x := c % W) (by omega) (by omega)
  have hr0 := Rt0 (x := c % W) hW.1 hW.2.1 (by omega) (by omega) u0 u1
  have i1 := Bt1 (u := u) (x := c % W) u0 (by omega) (by omega) (by omega)
  unfold m_X7_isBare
  rw [wr_id (x := c) (by omega) (by omega), if_pos (by omega), hy.2.2.2 c c0 (by omega), column_s hy c0 (by omega), bd1_q, hb0.1, wr_iand]
  simp only [wrb]
  cases op c
  · simp [bd1_q]
  · rw [if_tf, hr0.2.2.1]
    by_cases z : u / p2 (c % W) % 2 = 0
    · rw [if_pos (i1.mpr z), bd1_q, decide_eq_true (p := true = true ∧ u / p2 (c % W) % 2 = 0) ⟨rfl, z⟩]; rfl
    · rw [if_neg (fun q => z (i1.mp q)), bd1_q, decide_eq_false (p := true = true ∧ u / p2 (c % W) % 2 = 0) (fun q => z q.2)]; rfl
theorem canEast_s {M : Mem} {W H : Int} {op f : Int → Bool} (hy : YC M W H op) (hf : FTc M W H f) (hs : FS W H op f) {c u : Int} (c0 : 0 ≤ c) (c1 : c < W * H) (u0 : 0 ≤ u) (u1 : u < p2 W) : m_X7_canEast M c u = some (decide (f (2 * c) = true ∧ rot W (c % W) u / 2 % 2 = 0)) := by
  have hW := hy.2.2.1
  have h8 := WH_le hW
  have hp := p2_256 hW.1 hW.2.1
  have hcx := cx_r hW c0 c1
  have hw2 := hW.2.1
  have hb0 := Bt0 (x := c % W) (by omega) (by omega)
  have hr0 := Rt0 (x := c % W) hW.1 hW.2.1 (by omega) (by omega) u0 u1
  have i1 := Bt1 (u := u) (x := c % W + 1) u0 (by omega) (by omega) (by omega)
  rw [hb0.2.2.1] at i1
  unfold m_X7_canEast
  rw [wr_id (x := 2 * c) (by omega) (by omega), if_pos (by omega), hf (2 * c) (by omega) (by omega), column_s hy c0 (by omega), bd1_q, hb0.2.1, wr_iand]
  simp only [wrb]
  cases hfe : f (2 * c)
  · simp [bd1_q]
  · rw [if_tf, hr0.2.2.2 (stn_east hW (hs _ hfe))]
    by_cases z : u / (2 * p2 (c % W)) % 2 = 0
    · rw [if_pos (i1.mpr z), bd1_q, decide_eq_true (p := true = true ∧ u / (2 * p2 (c % W)) % 2 = 0) ⟨rfl, z⟩]; rfl
    · rw [if_neg (fun q => z (i1.mp q)), bd1_q, decide_eq_false (p := true = true ∧ u / (2 * p2 (c % W)) % 2 = 0) (fun q => z q.2)]; rfl
theorem waysEast_s {M : Mem} {W H : Int} {op f : Int → Bool} (hy : YC M W H op) (hf : FTc M W H f) (hs : FS W H op f) (hT : WYc M W H op f) {c u : Int} (c0 : 0 ≤ c) (c1 : c < W * H) (u0 : 0 ≤ u) (u1 : u < p2 W) (hu : rot W (c % W) u % 2 = 0) : m_X7_waysEast M c u = some (lN (eW W op f (W * H) c (rot W (c % W) u))) := by
  have hW := hy.2.2.1
  have h8 := WH_le hW
  have hp := p2_256 hW.1 hW.2.1
  have hcx := cx_r hW c0 c1
  have hw2 := hW.2.1
  have hb0 := Bt0 (x := c % W) (by omega) (by omega)
  have hr0 := Rt0 (x := c % W) hW.1 hW.2.1 (by omega) (by omega) u0 u1
  have hr1 := Rt1 (x := c % W) hW.1 hW.2.1 (by omega) (by omega) u0 u1
  unfold m_X7_waysEast eW
  rw [canEast_s hy hf hs c0 c1 u0 u1, bd1_q]
  simp only [wrb]
  by_cases z : f (2 * c) = true ∧ rot W (c % W) u / 2 % 2 = 0
  · have hx := stn_east hW (hs _ z.1)
    obtain ⟨b1, b2⟩ := (hr1.1 (by rw [← hr0.2.2.1]; exact hu)).2.2.2 hx (by rw [← hr0.2.2.2 hx]; exact z.2)
    rw [decide_eq_true z, if_tf, if_pos z, column_s hy c0 (by omega), bd1_q, hb0.2.1, show (c + 1) * 256 + u + 2 * p2 (c % W) = 256 * (c + 1) + (u + 2 * p2 (c % W)) by omega, wr_id (x := 256 * (c + 1) + (u + 2 * p2 (c % W))) (by omega) (by omega), if_pos (by omega), hT.at (by omega) (by omega) (by omega) b2, nx_x hW.1 hW.2.1 c0, b1]
  · rw [decide_eq_false z, if_ff, if_neg z, lN0]
theorem maskBehind_s {M : Mem} {W H : Int} {op : Int → Bool} (hy : YC M W H op) {c u : Int} (c0 : 0 ≤ c) (c1 : c < W * H) (u0 : 0 ≤ u) (u1 : u < p2 W) (hu : rot W (c % W) u % 2 = 0) {e : Bool} {v : Int} (hv : wr v = bI e) (he : e = true → c % W + 1 < W ∧ rot W (c % W) u / 2 % 2 = 0) : ∃ u2, m_X7_maskBehind M c u v = some u2 ∧ 0 ≤ u2 ∧ u2 < p2 W ∧ rot W ((c + 1) % W) u2 = (if e = true then rot W (c % W) u / 2 + 1 else rot W (c % W) u / 2 + p2 (W - 1)) := by
  have hW := hy.2.2.1
  have h8 := WH_le hW
  have hp := p2_256 hW.1 hW.2.1
  have hcx := cx_r hW c0 c1
  have hw2 := hW.2.1
  have hb0 := Bt0 (x := c % W) (by omega) (by omega)
  have hr0 := Rt0 (x := c % W) hW.1 hW.2.1 (by omega) (by omega) u0 u1
  have hr1 := Rt1 (x := c % W) hW.1 hW.2.1 (by omega) (by omega) u0 u1
  have hu' : u / p2 (c % W) % 2 = 0 := by rw [← hr0.2.2.1]; exact hu
  obtain ⟨a1, a2, a3, a4⟩ := hr1.1 hu'
  unfold m_X7_maskBehind
  rw [hv, lt_q, column_s hy c0 (by omega), bd1_q, nx_x hW.1 hW.2.1 c0]
  cases e
  · have := (Bt4 (u := u) (x := c % W) u0 (by omega) (by omega) (by omega)).2 hu'
    rw [if_pos (by rfl), hb0.1, this]
    exact ⟨_, rfl, by omega, a3, by rw [if_neg (by decide)]; exact a2⟩
  · obtain ⟨z1, z2⟩ := he rfl
    rw [hr0.2.2.2 z1] at z2
    have h4 := (Bt4 (u := u) (x := c % W + 1) u0 (by omega) (by omega) (by omega)).2
    rw [hb0.2.2.1] at h4
    obtain ⟨b1, b2⟩ := a4 z1 z2
    rw [if_neg (by decide), hb0.2.1, h4 z2]
    exact ⟨_, rfl, by omega, b2, by rw [if_pos rfl]; exact b1⟩
theorem maskSkip_s {W H c u : Int} (hW : WHr W H) (c0 : 0 ≤ c) (c1 : c < W * H) (u0 : 0 ≤ u) (u1 : u < p2 W) : 0 ≤ iand u (ixor (shl 1 (c % W)) (-1)) ∧ iand u (ixor (shl 1 (c % W)) (-1)) < p2 W ∧ rot W ((c + 1) % W) (iand u (ixor (shl 1 (c % W)) (-1))) = rot W (c % W) u / 2 := by
  have hp := p2_256 hW.1 hW.2.1
  have hcx := cx_r hW c0 c1
  have hw2 := hW.2.1
  have hb0 := Bt0 (x := c % W) (by omega) (by omega)
  have hr1 := Rt1 (x := c % W) hW.1 hW.2.1 (by omega) (by omega) u0 u1
  rw [hb0.1, (Bt4 (u := u) (x := c % W) u0 (by omega) (by omega) (by omega)).1, nx_x hW.1 hW.2.1 c0]
  by_cases z : u / p2 (c % W) % 2 = 0
  · rw [z, Int.zero_mul, Int.sub_zero]
    exact ⟨u0, u1, (hr1.1 z).1⟩
  · have : u / p2 (c % W) % 2 = 1 := by omega
    rw [this, Int.one_mul]
    exact ⟨(hr1.2 z).2, by omega, (hr1.2 z).1⟩
theorem put_s {M : Mem} {W H : Int} {op : Int → Bool} (hy : YC M W H op) {a : Nat} (ha : 2 < a) {b : Int} (hb : stn W H op b = true) : ∃ M2, m_X3_put M a b = some M2 ∧ ∀ q, gI M2 (a + 1) q = puts W H (fun q => gI M (a + 1) q) b q := by
  have hW := hy.2.2.1
  have h8 := WH_le hW
  obtain ⟨s1, s2, s3, s4, s5, s6, s7, s8⟩ := stn_t hW hb
  unfold m_X3_put
  have f : Fr [a + 1] M (sI M (a + 1) (b / 2) b) := Fr.sI Fr.rf (by simp) rfl
  have hy2 := hy.fr f (by simp; omega) (by simp; omega)
  rw [idv_p s1 (by omega) (by omega) (by omega), wr_id (x := b / 2) (by omega) (by omega), if_pos (by omega), lt_q, secondCell_s hy2 s1 (by omega), bd1_q, s8, wr_id (x := oth W H b) (by omega) (by omega), if_neg (by omega), if_pos (by omega), lt_q, bd1_q]
  refine ⟨_, rfl, fun q => ?_⟩
  rw [gI_sI, gI_sI]
  unfold puts
  by_cases z1 : q = oth W H b
  · rw [if_pos ⟨rfl, z1⟩, if_pos (Or.inr z1)]
  · rw [if_neg (fun y => z1 y.2)]
    by_cases z2 : q = b / 2
    · rw [if_pos ⟨rfl, z2⟩, if_pos (Or.inl z2)]
    · rw [if_neg (fun y => z2 y.2), if_neg (fun y => y.elim z2 z1)]
theorem lays_s {M : Mem} {W H : Int} {op : Int → Bool} (hy : YR M W H op) {s : Int} (s0 : 0 ≤ s) (s1' : s < 4) {b : Int} (hb : stn W H op b = true) : ∃ M2, m_X12_lays M s b = some M2 ∧ (∀ q, 0 ≤ q → q < 64 → gI M2 60 (64 * s + q) = puts W H (fun q => gI M 60 (64 * s + q)) b q) ∧ (∀ j, ¬ (64 * s ≤ j ∧ j < 64 * s + 64) → gI M2 60 j = gI M 60 j) := by
  have hW := hy.2.2.1
  have h8 := WH_le hW
  obtain ⟨s1, s2, s3, s4, s5, s6, s7, s8⟩ := stn_t hW hb
  unfold m_X12_lays
  have f : Fr [60] M (sI M 60 (64 * s + b / 2) b) := Fr.sI Fr.rf (by simp) rfl
  have hy2 := hy.fr f (by decide) (by decide)
  rw [idv_p s1 (by omega) (by omega) (by omega), wr_id (x := 64 * s + b / 2) (by omega) (by omega), if_pos (by omega), lt_q, otherOf_s hy2 s1 (by omega), bd1_q, wr_id (x := 64 * s + oth W H b) (by omega) (by omega), if_pos (by omega), lt_q]
  refine ⟨_, rfl, fun q q0 q1 => ?_, fun j hj => ?_⟩
  · rw [gI_sI, gI_sI]
    unfold puts
    by_cases z1 : q = oth W H b
    · rw [if_pos ⟨rfl, by rw [z1]⟩, if_pos (Or.inr z1)]
    · rw [if_neg (fun y => z1 (by omega))]
      by_cases z2 : q = b / 2
      · rw [if_pos ⟨rfl, by rw [z2]⟩, if_pos (Or.inl z2)]
      · rw [if_neg (fun y => z2 (by omega)), if_neg (fun y => y.elim z2 z1)]
  · rw [gI_sI, if_neg (by omega), gI_sI, if_neg (by omega)]
