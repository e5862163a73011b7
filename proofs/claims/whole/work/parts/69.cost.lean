/-! the table of costs -/
def lcc (W : Int) (op f : Int → Bool) (pr : Int → Int) (N c m : Int) : Int := lc W op f pr N (N - c).toNat m
def cE' (W : Int) (op f : Int → Bool) (pr : Int → Int) (N c m : Int) : Int := if m / 2 % 2 = 0 then sby f pr (2 * c) (lcc W op f pr N (c + 1) (m / 2 + 1)) else 1000000
def cS' (W : Int) (op f : Int → Bool) (pr : Int → Int) (N c m : Int) : Int := sby f pr (2 * c + 1) (lcc W op f pr N (c + 1) (m / 2 + p2 (W - 1)))
theorem lcc_e {W : Int} {op f : Int → Bool} {pr : Int → Int} {N m : Int} : lcc W op f pr N N m = if m = 0 then 0 else 1000000 := by
  unfold lcc
  rw [show (N - N).toNat = 0 by omega]
  rfl
theorem lcc_s {W : Int} {op f : Int → Bool} {pr : Int → Int} {N c m : Int} (h : c < N) : lcc W op f pr N c m = if op c = false ∨ m % 2 = 1 then (if op c = false ∧ m % 2 = 1 then 1000000 else lcc W op f pr N (c + 1) (m / 2)) else if cE' W op f pr N c m ≤ cS' W op f pr N c m then cE' W op f pr N c m else cS' W op f pr N c m := by
  unfold cE' cS' lcc
  rw [show (N - c).toNat = (N - (c + 1)).toNat + 1 by omega]
  show (if op (N - (((N - (c + 1)).toNat : Int) + 1)) = false ∨ _ then _ else _) = _
  rw [show N - (((N - (c + 1)).toNat : Int) + 1) = c by omega]
theorem lcc_r {W H : Int} {op f : Int → Bool} {wa pr : Int → Int} (hw : WFy W H op wa pr) : ∀ (k : Nat) (c m : Int), c = W * H - k → 0 ≤ c → lcc W op f pr (W * H) c m = 1000000 ∨ (0 ≤ lcc W op f pr (W * H) c m ∧ lcc W op f pr (W * H) c m ≤ 999 * k) := by
  have h8 := WH_le hw.1
  intro k
  induction k with
  | zero =>
    intro c m hc c0
    have hc' : c = W * H := by omega
    subst hc'
    rw [lcc_e]
    split <;> omega
  | succ k ih =>
    intro c m hc c0
    have i1 := ih (c + 1) (m / 2) (by omega) (by omega)
    have i2 := ih (c + 1) (m / 2 + 1) (by omega) (by omega)
    have i3 := ih (c + 1) (m / 2 + p2 (W - 1)) (by omega) (by omega)
    have w1 := hw.2 (2 * c) (by omega) (by omega)
    have w2 := hw.2 (2 * c + 1) (by omega) (by omega)
    have hE : cE' W op f pr (W * H) c m = 1000000 ∨ (0 ≤ cE' W op f pr (W * H) c m ∧ cE' W op f pr (W * H) c m ≤ 999 * (k + 1)) := by
      unfold cE' sby
      repeat' split
      all_goals omega
    have hS : cS' W op f pr (W * H) c m = 1000000 ∨ (0 ≤ cS' W op f pr (W * H) c m ∧ cS' W op f pr (W * H) c m ≤ 999 * (k + 1)) := by
      unfold cS' sby
      repeat' split
      all_goals omega
    rw [lcc_s (by omega)]
    repeat' split
    all_goals omega
theorem lcc_R {W H : Int} {op f : Int → Bool} {wa pr : Int → Int} (hw : WFy W H op wa pr) {c : Int} (c0 : 0 ≤ c) (c1 : c ≤ W * H) (m : Int) : lcc W op f pr (W * H) c m = 1000000 ∨ (0 ≤ lcc W op f pr (W * H) c m ∧ lcc W op f pr (W * H) c m ≤ 63936) := by
  have h8 := WH_le hw.1
  have := lcc_r (f := f) hw (W * H - c).toNat c m (by omega) c0
  omega
theorem cE_R {W H : Int} {op f : Int → Bool} {wa pr : Int → Int} (hw : WFy W H op wa pr) {c : Int} (c0 : 0 ≤ c) (c1 : c < W * H) (m : Int) : cE' W op f pr (W * H) c m = 1000000 ∨ (0 ≤ cE' W op f pr (W * H) c m ∧ cE' W op f pr (W * H) c m ≤ 64935) := by
  have h8 := WH_le hw.1
  have w1 := hw.2 (2 * c) (by omega) (by omega)
  have := lcc_R (f := f) hw (c := c + 1) (by omega) (by omega) (m / 2 + 1)
  unfold cE' sby
  repeat' split
  all_goals omega
theorem cS_R {W H : Int} {op f : Int → Bool} {wa pr : Int → Int} (hw : WFy W H op wa pr) {c : Int} (c0 : 0 ≤ c) (c1 : c < W * H) (m : Int) : cS' W op f pr (W * H) c m = 1000000 ∨ (0 ≤ cS' W op f pr (W * H) c m ∧ cS' W op f pr (W * H) c m ≤ 64935) := by
  have h8 := WH_le hw.1
  have w1 := hw.2 (2 * c + 1) (by omega) (by omega)
  have := lcc_R (f := f) hw (c := c + 1) (by omega) (by omega) (m / 2 + p2 (W - 1))
  unfold cS' sby
  repeat' split
  all_goals omega
def nv (v : Int) : Int := if 1000000 ≤ v then 1099511627776 else v
theorem oL {v : Int} (h0 : -9223372036854775808 ≤ v) (h1 : v ≤ 9223372036854775807) : (Int64.ofInt v).toInt = v := by
  rw [Int64.toInt_ofInt, show Int64.size = 18446744073709551616 from rfl, Int.bmod_def]
  have : v % (18446744073709551616 : Nat) = if 0 ≤ v then v else v + 18446744073709551616 := by
    split <;> omega
  omega
theorem nvr_t {v : Int} (h0 : 0 ≤ v) : (nvr v).toInt = nv v := by
  unfold nvr nv
  by_cases z : 1000000 ≤ v
  · rw [if_pos z, if_pos z]; decide
  · rw [if_neg z, if_neg z, oL (by omega) (by omega)]
theorem nvr_lt {a b : Int} (a0 : 0 ≤ a) (a1 : a ≤ 1000000) (b0 : 0 ≤ b) (b1 : b ≤ 1000000) : nvr a < nvr b ↔ a < b := by
  rw [Int64.lt_iff_toInt_lt, nvr_t a0, nvr_t b0]
  unfold nv
  repeat' split
  all_goals omega
theorem NEV : (1099511627776 : Int64) = nvr 1000000 := by decide
theorem nvr_add {p r : Int} (p0 : 0 ≤ p) (p1 : p ≤ 999) (hr : r = 1000000 ∨ (0 ≤ r ∧ r ≤ 63936)) : lmn 1099511627776 (i2l p + nvr r) = nvr (if 1000000 ≤ r then 1000000 else p + r) := by
  have ti : (i2l p).toInt = p := by
    unfold i2l
    rw [Int32.toInt_toInt64, wr_toInt, wr_id (by omega) (by omega)]
  have tn : (1099511627776 : Int64).toInt = 1099511627776 := by decide
  have ts : (i2l p + nvr r).toInt = p + nv r := by
    rw [Int64.toInt_add, ti, nvr_t (by omega), Int.bmod_def]
    unfold nv
    split
    · have : (p + 1099511627776) % (2 ^ 64 : Nat) = p + 1099511627776 := by omega
      omega
    · have : (p + r) % (2 ^ 64 : Nat) = p + r := by omega
      omega
  unfold lmn
  by_cases z : 1000000 ≤ r
  · rw [if_pos z, if_neg, NEV]
    rw [Int64.lt_iff_toInt_lt, ts, tn]
    unfold nv
    rw [if_pos z]
    omega
  · rw [if_neg z, if_pos]
    · apply Int64.toInt_inj.mp
      rw [ts, nvr_t (by omega)]
      unfold nv
      rw [if_neg z, if_neg (by omega)]
    · rw [Int64.lt_iff_toInt_lt, ts, tn]
      unfold nv
      rw [if_neg z]
      omega
/-- what the class's costs answer -/
theorem costEast_s {M : Mem} {W H : Int} {op f : Int → Bool} {wa pr : Int → Int} (hy : YSc M W H op wa pr) (hw : WFy W H op wa pr) (hf : FTc M W H f) (hs : FS W H op f) {c u : Int} (c0 : 0 ≤ c) (c1 : c < W * H) (u0 : 0 ≤ u) (u1 : u < p2 W) (hu : rot W (c % W) u % 2 = 0) (hT : ∀ v, 0 ≤ v → v < p2 W → gL M 9 (256 * (c + 1) + v) = nvr (lcc W op f pr (W * H) (c + 1) (rot W ((c + 1) % W) v))) : m_X7_costEast M c u = some (nvr (cE' W op f pr (W * H) c (rot W (c % W) u))) := by
  have hW := hw.1
  have h8 := WH_le hW
  have hp := p2_256 hW.1 hW.2.1
  have hcx := cx_r hW c0 c1
  have hw2 := hW.2.1
  have hb0 := Bt0 (x := c % W) (by omega) (by omega)
  have hr0 := Rt0 (x := c % W) hW.1 hW.2.1 (by omega) (by omega) u0 u1
  have hr1 := Rt1 (x := c % W) hW.1 hW.2.1 (by omega) (by omega) u0 u1
  have hpr := hw.2 (2 * c) (by omega) (by omega)
  unfold m_X7_costEast cE' sby
  rw [canEast_s hy.1 hf hs c0 c1 u0 u1, bd1_q]
  simp only [wrb]
  by_cases z : f (2 * c) = true ∧ rot W (c % W) u / 2 % 2 = 0
  · have hx := stn_east hW (hs _ z.1)
    obtain ⟨b1, b2⟩ := (hr1.1 (by rw [← hr0.2.2.1]; exact hu)).2.2.2 hx (by rw [← hr0.2.2.2 hx]; exact z.2)
    have hl := lcc_R (f := f) hw (c := c + 1) (by omega) (by omega) (rot W (c % W) u / 2 + 1)
    rw [decide_eq_true z, if_tf, if_pos z.2, wr_id (x := 2 * c) (by omega) (by omega), if_pos (by omega), column_s hy.1 c0 (by omega), bd1_q, hb0.2.1, show (c + 1) * 256 + u + 2 * p2 (c % W) = 256 * (c + 1) + (u + 2 * p2 (c % W)) by omega, wr_id (x := 256 * (c + 1) + (u + 2 * p2 (c % W))) (by omega) (by omega), if_pos (by omega), hT _ (by omega) b2, nx_x hW.1 hW.2.1 c0, b1, (hy.2 (2 * c) (by omega) (by omega)).2, nvr_add hpr.2.2.1 hpr.2.2.2.1 hl, z.1]
    congr 2
    by_cases y : 1000000 ≤ lcc W op f pr (W * H) (c + 1) (rot W (c % W) u / 2 + 1)
    · rw [if_pos y, if_pos (Or.inr y)]
    · rw [if_neg y, if_neg (fun q => q.elim (by decide) y)]
  · rw [decide_eq_false z, if_ff, NEV]
    by_cases y : rot W (c % W) u / 2 % 2 = 0
    · rw [if_pos y, if_pos]
      left
      cases hfe : f (2 * c)
      · rfl
      · exact absurd ⟨hfe, y⟩ z
    · rw [if_neg y]
theorem costSouth_s {M : Mem} {W H : Int} {op f : Int → Bool} {wa pr : Int → Int} (hy : YSc M W H op wa pr) (hw : WFy W H op wa pr) (hf : FTc M W H f) {c u : Int} (c0 : 0 ≤ c) (c1 : c < W * H) (u0 : 0 ≤ u) (u1 : u < p2 W) (hu : rot W (c % W) u % 2 = 0) (hT : ∀ v, 0 ≤ v → v < p2 W → gL M 9 (256 * (c + 1) + v) = nvr (lcc W op f pr (W * H) (c + 1) (rot W ((c + 1) % W) v))) : m_X7_costSouth M c u = some (nvr (cS' W op f pr (W * H) c (rot W (c % W) u))) := by
  have hW := hw.1
  have h8 := WH_le hW
  have hp := p2_256 hW.1 hW.2.1
  have hcx := cx_r hW c0 c1
  have hw2 := hW.2.1
  have hb0 := Bt0 (x := c % W) (by omega) (by omega)
  have hr0 := Rt0 (x := c % W) hW.1 hW.2.1 (by omega) (by omega) u0 u1
  have hr1 := Rt1 (x := c % W) hW.1 hW.2.1 (by omega) (by omega) u0 u1
  have hpr := hw.2 (2 * c + 1) (by omega) (by omega)
  obtain ⟨a1, a2, a3, a4⟩ := hr1.1 (by rw [← hr0.2.2.1]; exact hu)
  have hl := lcc_R (f := f) hw (c := c + 1) (by omega) (by omega) (rot W (c % W) u / 2 + p2 (W - 1))
  unfold m_X7_costSouth cS' sby
  rw [wr_id (x := 2 * c + 1) (by omega) (by omega), if_pos (by omega), hf (2 * c + 1) (by omega) (by omega)]
  simp only [wrb]
  cases hfs : f (2 * c + 1)
  · rw [if_ff, if_pos (Or.inl rfl), NEV]
  · rw [if_tf, column_s hy.1 c0 (by omega), bd1_q, hb0.1, show (c + 1) * 256 + u + p2 (c % W) = 256 * (c + 1) + (u + p2 (c % W)) by omega, wr_id (x := 256 * (c + 1) + (u + p2 (c % W))) (by omega) (by omega), if_pos (by omega), hT _ (by omega) a3, nx_x hW.1 hW.2.1 c0, a2, (hy.2 (2 * c + 1) (by omega) (by omega)).2, nvr_add hpr.2.2.1 hpr.2.2.2.1 hl]
    congr 2
    by_cases y : 1000000 ≤ lcc W op f pr (W * H) (c + 1) (rot W (c % W) u / 2 + p2 (W - 1))
    · rw [if_pos y, if_pos (Or.inr y)]
    · rw [if_neg y, if_neg (fun q => q.elim (by decide) y)]
theorem fillCostsAt_s {M : Mem} {W H : Int} {op f : Int → Bool} {wa pr : Int → Int} (hy : YSc M W H op wa pr) (hw : WFy W H op wa pr) (hf : FTc M W H f) (hs : FS W H op f) {c : Int} (c0 : 0 ≤ c) (c1 : c < W * H) (hT : ∀ u, 0 ≤ u → u < p2 W → gL M 9 (256 * (c + 1) + u) = nvr (lcc W op f pr (W * H) (c + 1) (rot W ((c + 1) % W) u))) : ∃ M2, m_X7_fillCostsAt M c = some M2 ∧ (∀ u, 0 ≤ u → u < p2 W → gL M2 9 (256 * c + u) = nvr (lcc W op f pr (W * H) c (rot W (c % W) u))) ∧ (∀ j, 256 * (c + 1) ≤ j → gL M2 9 j = gL M 9 j) := by
  have hW := hw.1
  have h8 := WH_le hW
  have hp := p2_256 hW.1 hW.2.1
  have hcx := cx_r hW c0 c1
  have hw2 := hW.2.1
  have hb0 := Bt0 (x := c % W) (by omega) (by omega)
  have hbW := Bt0 (x := W) (by have := hW.1; omega) (by omega)
  unfold m_X7_fillCostsAt
  rw [column_s hy.1 c0 (by omega), bd1_q, hb0.1]
  obtain ⟨M2, e2, h2, h3, f2⟩ := for_M (f := fun s => m_X7_fillCostsAt_L25 s.2 c (c * 256) (c * 256 + 256) (p2 (c % W)) s.1) 0 (p2 W) (fun i M' => (∀ u, 0 ≤ u → u < i → gL M' 9 (256 * c + u) = nvr (lcc W op f pr (W * H) c (rot W (c % W) u))) ∧ (∀ j, 256 * (c + 1) ≤ j → gL M' 9 j = gL M 9 j) ∧ Fr [9] M M') (fun u M' u0 u1 hI => by
    show ∃ M2, m_X7_fillCostsAt_L25 M' c (c * 256) (c * 256 + 256) (p2 (c % W)) u = _ ∧ _
    unfold m_X7_fillCostsAt_L25
    have hy' := hy.fr hI.2.2 (by decide) (by decide) (by decide) (by decide)
    have hf' : FTc M' W H f := fun b b0 b1 => (fI hI.2.2 (by decide) b).trans (hf b b0 b1)
    have hr0 := Rt0 (x := c % W) hW.1 hW.2.1 (by omega) (by omega) u0 u1
    have hr1 := Rt1 (x := c % W) hW.1 hW.2.1 (by omega) (by omega) u0 u1
    have hA : ∀ v, 0 ≤ v → v < p2 W → gL M' 9 (256 * (c + 1) + v) = nvr (lcc W op f pr (W * H) (c + 1) (rot W ((c + 1) % W) v)) := fun v v0 v1 => (hI.2.1 _ (by omega)).trans (hT v v0 v1)
    have i1 := Bt1 (u := u) (x := c % W) u0 (by omega) (by omega) (by omega)
    rw [hy'.1.1, hbW.1, wr_id (x := p2 W) (by omega) (by omega), wr_id (x := u) (by omega) (by omega), if_neg (by omega), wr_id (x := c) (by omega) (by omega), if_pos (c := 0 ≤ c ∧ c < 64) (by omega), hy'.1.2.2.2 c c0 (by omega), wr_iand]
    obtain ⟨v, ev, hv⟩ : ∃ v, (if wr (bI (op c)) = 0 then if iand u (p2 (c % W)) = 0 then if 0 ≤ wr (c * 256 + 256 + u) ∧ wr (c * 256 + 256 + u) < 16640 then some (gL M' 9 (wr (c * 256 + 256 + u))) else none else some (1099511627776 : Int64) else if iand u (p2 (c % W)) = 0 then bd1 (m_X7_costEast M' c u) fun r8 => bd1 (m_X7_costSouth M' c u) fun r10 => some (lmn r8 r10) else if 0 ≤ wr (c * 256 + 256 + u - p2 (c % W)) ∧ wr (c * 256 + 256 + u - p2 (c % W)) < 16640 then some (gL M' 9 (wr (c * 256 + 256 + u - p2 (c % W)))) else none) = some v ∧ v = nvr (lcc W op f pr (W * H) c (rot W (c % W) u)) := by
      simp only [wrb]
      rw [lcc_s c1]
      by_cases hz : u / p2 (c % W) % 2 = 0
      · obtain ⟨a1, a2, a3, a4⟩ := hr1.1 hz
        have hz' : rot W (c % W) u % 2 = 0 := by rw [hr0.2.2.1]; exact hz
        rw [if_pos (i1.mpr hz), if_pos (i1.mpr hz)]
        cases ho : op c
        · rw [if_ff, if_pos (Or.inl rfl), if_neg (c := false = false ∧ rot W (c % W) u % 2 = 1) (by omega), show c * 256 + 256 + u = 256 * (c + 1) + u by omega, wr_id (x := 256 * (c + 1) + u) (by omega) (by omega), if_pos (by omega), hA u u0 u1, nx_x hW.1 hW.2.1 c0, a1]
          exact ⟨_, rfl, rfl⟩
        · have hE := cE_R (f := f) hw c0 c1 (rot W (c % W) u)
          have hS := cS_R (f := f) hw c0 c1 (rot W (c % W) u)
          rw [if_tf, if_neg (fun q => q.elim (by decide) (by omega)), costEast_s hy' hw hf' hs c0 c1 u0 u1 hz' hA, bd1_q, costSouth_s hy' hw hf' c0 c1 u0 u1 hz' hA, bd1_q]
          refine ⟨_, rfl, ?_⟩
          unfold lmn
          by_cases y : cE' W op f pr (W * H) c (rot W (c % W) u) ≤ cS' W op f pr (W * H) c (rot W (c % W) u)
          · rw [if_neg (fun q => by have := (nvr_lt (by omega) (by omega) (by omega) (by omega)).mp q; omega), if_pos y]
          · rw [if_pos ((nvr_lt (by omega) (by omega) (by omega) (by omega)).mpr (by omega)), if_neg y]
      · obtain ⟨a1, a2⟩ := hr1.2 hz
        have hz' : rot W (c % W) u % 2 = 1 := by rw [hr0.2.2.1]; omega
        rw [if_neg (fun q => hz (i1.mp q)), if_neg (fun q => hz (i1.mp q)), if_pos (c := op c = false ∨ rot W (c % W) u % 2 = 1) (Or.inr hz')]
        cases ho : op c
        · rw [if_ff, if_pos ⟨rfl, hz'⟩]
          exact ⟨_, rfl, NEV⟩
        · rw [if_tf, if_neg (c := true = false ∧ rot W (c % W) u % 2 = 1) (fun q => absurd q.1 (by decide)), show c * 256 + 256 + u - p2 (c % W) = 256 * (c + 1) + (u - p2 (c % W)) by omega, wr_id (x := 256 * (c + 1) + (u - p2 (c % W))) (by omega) (by omega), if_pos (by omega), hA _ a2 (by omega), nx_x hW.1 hW.2.1 c0, a1]
          exact ⟨_, rfl, rfl⟩
    rw [ev, bd1_q, show c * 256 + u = 256 * c + u by omega, wr_id (x := 256 * c + u) (by omega) (by omega), if_pos (by omega), lt_q, hv]
    refine ⟨_, rfl, fun w w0 w1 => ?_, fun j hj => ?_, hI.2.2.sL (by decide) rfl⟩
    · rw [gL_sL]
      by_cases e : w = u
      · rw [if_pos ⟨rfl, by rw [e]⟩, e]
      · rw [if_neg (by omega)]; exact hI.1 w w0 (by omega)
    · rw [gL_sL, if_neg (by omega)]; exact hI.2.1 j hj) (fun M' hI => by
    show m_X7_fillCostsAt_L25 M' c (c * 256) (c * 256 + 256) (p2 (c % W)) (p2 W) = _
    unfold m_X7_fillCostsAt_L25
    rw [fI hI.2.2 (by decide), hy.1.1, hbW.1, if_pos (Int.le_refl _)]) (by omega) (by omega) (M0 := M) ⟨fun u u0 u1 => by omega, fun _ _ => rfl, Fr.rf⟩
  rw [e2, bd2_q]
  exact ⟨M2, rfl, h2, h3⟩
theorem fillCosts_s {M : Mem} {W H : Int} {op : Int → Bool} {wa pr : Int → Int} (hy : YSc M W H op wa pr) (hw : WFy W H op wa pr) (hS : SwC M W H op wa pr) : ∃ M2, m_X7_fillCosts M = some M2 ∧ FTc M2 W H (fit W H op wa) ∧ LCc M2 W H op (fit W H op wa) pr ∧ SwC M2 W H op wa pr ∧ gI M2 8 5 = 2 ∧ (∀ k j, k = 8 ∨ k = 14 → dR M2 k j = dR M k j) ∧ Fr [8, 9, 11] M M2 := by
  have hW := hw.1
  have h8 := WH_le hW
  have hS' := hS
  obtain ⟨s1, s2, s3, s4, s5, s6⟩ := hS'
  by_cases c : gI M 8 5 = 2
  · refine ⟨M, ?_, s3 (by omega), s5 c, hS, c, fun _ _ _ => rfl, Fr.rf⟩
    unfold m_X7_fillCosts
    rw [c, if_pos rfl]
  · have e0 : ∃ M2, m_X7_fillCosts M = some M2 ∧ FTc M2 W H (fit W H op wa) ∧ LCc M2 W H op (fit W H op wa) pr ∧ gI M2 8 5 = 2 ∧ gI M2 8 6 = gI M 8 6 ∧ ∀ k j, k = 8 ∨ k = 14 → dR M2 k j = dR M k j := by
      unfold m_X7_fillCosts
      rw [wr_id (x := gI M 8 5) (by omega) (by omega), if_neg (c := gI M 8 5 = wr 2) (by rw [show wr 2 = 2 by decide]; exact c)]
      obtain ⟨M1, e1, h1⟩ := findFits_s hy hw
      have f1 := fr_X7_findFits e1
      have hy1 := hy.fr f1 (by decide) (by decide) (by decide) (by decide)
      obtain ⟨M2, e2, h2⟩ := startTable_s hy1.1 0 1099511627776
      have f2 := fr_X7_startTable e2
      have hy2 := hy1.fr f2 (by decide) (by decide) (by decide) (by decide)
      have ec : m_X10_cells M2 = W * H := by unfold m_X10_cells; rw [hy2.1.1, hy2.1.2.1]
      have h12 : FTc M2 W H (fit W H op wa) := fun b b0 b1 => (fI f2 (by decide) b).trans (h1 b b0 b1)
      obtain ⟨M3, e3, h3, f3⟩ := for_D (f := fun s => m_X7_fillCosts_L30 s.2 s.1) (W * H) (fun c M' => (∀ d u, c ≤ d → d ≤ W * H → 0 ≤ u → u < p2 W → gL M' 9 (256 * d + u) = nvr (lcc W op (fit W H op wa) pr (W * H) d (rot W (d % W) u))) ∧ Fr [9] M2 M') (fun c M' c0 c1 hI => by
        show ∃ M2, m_X7_fillCosts_L30 M' c = _ ∧ _
        unfold m_X7_fillCosts_L30
        have hy' := hy2.fr hI.2 (by decide) (by decide) (by decide) (by decide)
        obtain ⟨M3, e3, h3, h3'⟩ := fillCostsAt_s hy' hw (fun b b0 b1 => (fI hI.2 (by decide) b).trans (h12 b b0 b1)) (fit_FS W H op wa) c0 c1 (fun u u0 u1 => hI.1 (c + 1) u (by omega) (by omega) u0 u1)
        rw [wr_id (x := c) (by omega) (by omega), if_neg (by omega), e3, bd1_q]
        refine ⟨M3, rfl, fun d u d0 d1 u0 u1 => ?_, hI.2.trans (fr_X7_fillCostsAt e3) (by decide)⟩
        by_cases z : d = c
        · rw [z]; exact h3 u u0 u1
        · rw [h3' _ (by omega)]; exact hI.1 d u (by omega) d1 u0 u1) (fun M' hI => by
        show m_X7_fillCosts_L30 M' (-1) = _
        unfold m_X7_fillCosts_L30
        rw [if_pos (by decide)]) (by omega) (by omega) (M0 := M2) ⟨fun d u d0 d1 u0 u1 => by
          have : d = W * H := by omega
          subst this
          rw [h2 u u0 u1, NW0 hW.1 hW.2.1, rot_0, lcc_e]
          by_cases z : u = 0
          · rw [if_pos z, if_pos z]; decide
          · rw [if_neg z, if_neg z, NEV], Fr.rf⟩
      rw [e1, bd1_q, e2, bd1_q, ec, e3, bd2_q, lt_q]
      have f13 : Fr [9, 11] M M3 := ((f1.mono (by decide)).trans f2 (by decide)).trans f3 (by decide)
      refine ⟨_, rfl, fun b b0 b1 => ?_, fun d u d0 d1 u0 u1 => ?_, ?_, ?_, fun k j hk => ?_⟩
      · rw [gI_sI, if_neg (by simp), fI f3 (by decide)]; exact h12 b b0 b1
      · exact h3 d u d0 d1 u0 u1
      · exact gI_sI_eq
      · rw [gI_sI, if_neg (by simp), fI f13 (by decide)]
      · show dR M3 k j = dR M k j
        exact fR f13 (by rcases hk with rfl | rfl <;> decide) j
    obtain ⟨M2, e2, h1, h2, h3, h4, h5⟩ := e0
    have f := fr_X7_fillCosts e2
    refine ⟨M2, e2, h1, h2, ⟨Or.inr (Or.inr h3), by rw [h4]; exact s2, fun _ => h1, fun z => by omega, fun _ => h2, fun z b hb => ?_⟩, h3, h5, f⟩
    rw [fL f (by decide)]; exact s6 (by rw [← h4]; exact z) b hb
