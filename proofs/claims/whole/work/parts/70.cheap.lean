/-! cheapest -/
def LSt (M : Mem) (W H : Int) (op f : Int → Bool) (pr : Int → Int) : Prop := ∀ c m, 0 ≤ c → c ≤ W * H → 0 ≤ m → m < p2 W → gI M 65 (256 * c + m) = lcc W op f pr (W * H) c m
theorem sumBy_s {M : Mem} {W H : Int} {op f : Int → Bool} {wa pr : Int → Int} (hy : YSr M W H op wa pr) (hw : WFy W H op wa pr) (hm : MY M W H f) {b c m' : Int} (b0 : 0 ≤ b) (b1 : b < 2 * (W * H)) (c0 : 0 ≤ c) (c1 : c < W * H) (m0 : 0 ≤ sar m' 1) (m1 : sar m' 1 < p2 W) (hT : gI M 65 (256 * (c + 1) + sar m' 1) = lcc W op f pr (W * H) (c + 1) (sar m' 1)) : m_X12_sumBy M b c m' = some (sby f pr b (lcc W op f pr (W * H) (c + 1) (sar m' 1))) := by
  have hW := hw.1
  have h8 := WH_le hW
  have hp := p2_256 hW.1 hW.2.1
  have hl := lcc_R (f := f) hw (c := c + 1) (by omega) (by omega) (sar m' 1)
  have hpr := hw.2 b b0 (by omega)
  unfold m_X12_sumBy sby
  rw [wr_id (x := 256 * (c + 1) + sar m' 1) (by omega) (by omega), if_pos (by omega), wr_id (x := b) (by omega) (by omega), if_pos (by omega), hm b b0 b1, hT, (hy.2 b b0 (by omega)).2, wr_id (x := lcc W op f pr (W * H) (c + 1) (sar m' 1)) (by omega) (by omega), show wr 1000000 = 1000000 by decide, lt_q]
  simp only [wrb]
  cases f b
  · rw [if_ff, if_pos (Or.inl rfl)]
  · rw [if_tf]
    by_cases z : 1000000 ≤ lcc W op f pr (W * H) (c + 1) (sar m' 1)
    · rw [if_neg (by omega), if_pos (Or.inr z)]
    · rw [if_pos (by omega), if_neg (fun q => q.elim (by decide) z)]
theorem eastSum_s {M : Mem} {W H : Int} {op f : Int → Bool} {wa pr : Int → Int} (hy : YSr M W H op wa pr) (hw : WFy W H op wa pr) (hm : MY M W H f) {c m : Int} (c0 : 0 ≤ c) (c1 : c < W * H) (m0 : 0 ≤ m) (m1 : m < p2 W) (hT : ∀ v, 0 ≤ v → v < p2 W → gI M 65 (256 * (c + 1) + v) = lcc W op f pr (W * H) (c + 1) v) : m_X12_eastSum M c m = some (cE' W op f pr (W * H) c m) := by
  have hW := hw.1
  have h8 := WH_le hW
  have hp := p2_256 hW.1 hW.2.1
  have b2 := Bt2 (u := m) m0 (by omega)
  have hpW : p2 W = 2 * p2 (W - 1) := by
    have := Bt0 (x := W - 1) (by have := hW.1; omega) (by have := hW.2.1; omega)
    rw [← this.2.2.1, show W - 1 + 1 = W by omega]
  unfold m_X12_eastSum cE'
  rw [wr_iand]
  by_cases z : m / 2 % 2 = 0
  · have e := b2.2.2 z
    have := sumBy_s hy hw hm (b := 2 * c) (c := c) (m' := ior m 2) (by omega) (by omega) c0 c1 (by omega) (by omega) (hT _ (by omega) (by omega))
    rw [if_pos (b2.2.1.mpr z), if_pos z, this, bd1_q, bd1_q, e]
  · rw [if_neg (fun q => z (b2.2.1.mp q)), if_neg z, bd1_q]
theorem southSum_s {M : Mem} {W H : Int} {op f : Int → Bool} {wa pr : Int → Int} (hy : YSr M W H op wa pr) (hw : WFy W H op wa pr) (hm : MY M W H f) {c m : Int} (c0 : 0 ≤ c) (c1 : c < W * H) (m0 : 0 ≤ m) (m1 : m < p2 W) (hT : ∀ v, 0 ≤ v → v < p2 W → gI M 65 (256 * (c + 1) + v) = lcc W op f pr (W * H) (c + 1) v) : m_X12_sumBy M (2 * c + 1) c (ior m (p2 W)) = some (cS' W op f pr (W * H) c m) := by
  have hW := hw.1
  have h8 := WH_le hW
  have hp := p2_256 hW.1 hW.2.1
  have hpW : p2 W = 2 * p2 (W - 1) := by
    have := Bt0 (x := W - 1) (by have := hW.1; omega) (by have := hW.2.1; omega)
    rw [← this.2.2.1, show W - 1 + 1 = W by omega]
  have e := Bt3 hW.1 hW.2.1 m0 m1
  have := sumBy_s hy hw hm (b := 2 * c + 1) (c := c) (m' := ior m (p2 W)) (by omega) (by omega) c0 c1 (by omega) (by omega) (hT _ (by omega) (by omega))
  rw [this, e]
  rfl
theorem sums_s {M : Mem} {W H : Int} {op f : Int → Bool} {wa pr : Int → Int} (hy : YSr M W H op wa pr) (hw : WFy W H op wa pr) (hm : MY M W H f) : ∃ M2, m_X12_sums M = some M2 ∧ LSt M2 W H op f pr := by
  have hW := hw.1
  have h8 := WH_le hW
  have hw1 := hW.1
  have hw2 := hW.2.1
  have hp := p2_256 hW.1 hW.2.1
  have hbW := Bt0 (x := W) (by omega) (by omega)
  unfold m_X12_sums
  rw [hy.1.1, hy.1.2.1]
  obtain ⟨M1, e1, h1, f1⟩ := for_M (f := fun s => m_X12_sums_L12 s.2 (W * H) s.1) 0 (p2 W) (fun i M' => (∀ m, 0 ≤ m → m < i → gI M' 65 (256 * (W * H) + m) = lcc W op f pr (W * H) (W * H) m) ∧ Fr [65] M M') (fun m M' m0 m1 hI => by
    show ∃ M2, m_X12_sums_L12 M' (W * H) m = _ ∧ _
    unfold m_X12_sums_L12
    rw [fI hI.2 (by decide), hy.1.1, hbW.1, wr_id (x := p2 W) (by omega) (by omega), wr_id (x := m) (by omega) (by omega), if_neg (by omega), wr_id (x := 256 * (W * H) + m) (by omega) (by omega), lt_q, if_pos (by omega), lt_q]
    refine ⟨_, rfl, fun w w0 w1 => ?_, hI.2.sI (by decide) rfl⟩
    rw [gI_sI]
    by_cases z : w = m
    · rw [if_pos ⟨rfl, by rw [z]⟩, z, lcc_e]
    · rw [if_neg (by omega)]; exact hI.1 w w0 (by omega)) (fun M' hI => by
    show m_X12_sums_L12 M' (W * H) (p2 W) = _
    unfold m_X12_sums_L12
    rw [fI hI.2 (by decide), hy.1.1, hbW.1, if_pos (Int.le_refl _)]) (by omega) (by omega) (M0 := M) ⟨fun u u0 u1 => by omega, Fr.rf⟩
  obtain ⟨M3, e3, h3, f3⟩ := for_D (f := fun s => m_X12_sums_L54 s.2 s.1) (W * H) (fun c M' => (∀ d m, c ≤ d → d ≤ W * H → 0 ≤ m → m < p2 W → gI M' 65 (256 * d + m) = lcc W op f pr (W * H) d m) ∧ Fr [65] M M') (fun c M' c0 c1 hI => by
    show ∃ M2, m_X12_sums_L54 M' c = _ ∧ _
    unfold m_X12_sums_L54
    rw [wr_id (x := c) (by omega) (by omega), if_neg (by omega)]
    obtain ⟨M2, e2, h2, h2', f2⟩ := for_M (f := fun s => m_X12_sums_L60 s.2 c s.1) 0 (p2 W) (fun i M'' => (∀ m, 0 ≤ m → m < i → gI M'' 65 (256 * c + m) = lcc W op f pr (W * H) c m) ∧ (∀ d m, c + 1 ≤ d → d ≤ W * H → 0 ≤ m → m < p2 W → gI M'' 65 (256 * d + m) = lcc W op f pr (W * H) d m) ∧ Fr [65] M M'') (fun m M'' m0 m1 hI => by
      show ∃ M2, m_X12_sums_L60 M'' c m = _ ∧ _
      unfold m_X12_sums_L60
      have hy' := hy.fr hI.2.2 (by decide) (by decide) (by decide) (by decide)
      have hm' : MY M'' W H f := fun b b0 b1 => (fI hI.2.2 (by decide) b).trans (hm b b0 b1)
      have b2 := Bt2 (u := m) m0 (by omega)
      have hT := fun v v0 v1 => hI.2.1 (c + 1) v (by omega) (by omega) v0 v1
      have hE := cE_R (f := f) hw c0 c1 m
      have hS := cS_R (f := f) hw c0 c1 m
      rw [hy'.1.1, hbW.1, wr_id (x := p2 W) (by omega) (by omega), wr_id (x := m) (by omega) (by omega), if_neg (by omega), wr_id (x := c) (by omega) (by omega), if_pos (c := 0 ≤ c ∧ c < 64) (by omega), hy'.1.2.2.2 c c0 (by omega), iand1 m0 (by omega), wr_id (x := m % 2) (by omega) (by omega), show wr 1 = 1 by decide, b2.1, wr_id (x := 256 * (c + 1) + m / 2) (by omega) (by omega), if_pos (c := 0 ≤ 256 * (c + 1) + m / 2 ∧ 256 * (c + 1) + m / 2 < 16640) (by omega), hT (m / 2) (by omega) (by omega), eastSum_s hy' hw hm' c0 c1 m0 m1 hT, bd1_q, southSum_s hy' hw hm' c0 c1 m0 m1 hT, bd1_q, lt_q, wr_id (x := cE' W op f pr (W * H) c m) (by omega) (by omega), wr_id (x := cS' W op f pr (W * H) c m) (by omega) (by omega)]
      simp only [wrb]
      obtain ⟨v, ev, hv⟩ : ∃ v, (if op c = false then bd1 (if op c = false then if m % 2 = 1 then some 1000000 else some (lcc W op f pr (W * H) (c + 1) (m / 2)) else some (lcc W op f pr (W * H) (c + 1) (m / 2))) fun v16 => some v16 else if m % 2 = 1 then bd1 (if op c = false then if m % 2 = 1 then some 1000000 else some (lcc W op f pr (W * H) (c + 1) (m / 2)) else some (lcc W op f pr (W * H) (c + 1) (m / 2))) fun v28 => some v28 else some (if cS' W op f pr (W * H) c m < cE' W op f pr (W * H) c m then cS' W op f pr (W * H) c m else cE' W op f pr (W * H) c m)) = some v ∧ v = lcc W op f pr (W * H) c m := by
        refine ⟨_, ?_, rfl⟩
        rw [lcc_s c1]
        cases op c
        · by_cases z : m % 2 = 1 <;> simp [z, bd1_q]
        · by_cases z : m % 2 = 1
          · simp [z, bd1_q]
          · have z2 : m % 2 = 0 := by omega
            by_cases y : cE' W op f pr (W * H) c m ≤ cS' W op f pr (W * H) c m
            · have y3 : ¬ cS' W op f pr (W * H) c m < cE' W op f pr (W * H) c m := by omega
              simp [z2, y, y3]
            · have y2 : cS' W op f pr (W * H) c m < cE' W op f pr (W * H) c m := by omega
              simp [z2, y, y2]
      rw [ev, bd1_q, wr_id (x := 256 * c + m) (by omega) (by omega), if_pos (by omega), lt_q, hv]
      refine ⟨_, rfl, fun w w0 w1 => ?_, fun d w d0 d1 w0 w1 => ?_, hI.2.2.sI (by decide) rfl⟩
      · rw [gI_sI]
        by_cases e : w = m
        · rw [if_pos ⟨rfl, by rw [e]⟩, e]
        · rw [if_neg (by omega)]; exact hI.1 w w0 (by omega)
      · rw [gI_sI, if_neg (by omega)]; exact hI.2.1 d w d0 d1 w0 w1) (fun M'' hI => by
      show m_X12_sums_L60 M'' c (p2 W) = _
      unfold m_X12_sums_L60
      rw [fI hI.2.2 (by decide), hy.1.1, hbW.1, if_pos (Int.le_refl _)]) (by omega) (by omega) (M0 := M') ⟨fun u u0 u1 => by omega, hI.1, hI.2⟩
    rw [e2, bd2_q]
    refine ⟨M2, rfl, fun d m d0 d1 m0 m1 => ?_, f2⟩
    by_cases z : d = c
    · rw [z]; exact h2 m m0 m1
    · exact h2' d m (by omega) d1 m0 m1) (fun M' hI => by
    show m_X12_sums_L54 M' (-1) = _
    unfold m_X12_sums_L54
    rw [if_pos (by decide)]) (by omega) (by omega) (M0 := M1) ⟨fun d m d0 d1 m0 m1 => by
      rw [show d = W * H by omega]; exact h1 m m0 m1, f1⟩
  rw [e1, bd2_q, e3, bd2_q]
  exact ⟨M3, rfl, fun c m c0 c1 m0 m1 => h3 c m c0 c1 m0 m1⟩
def selC (W : Int) (op f : Int → Bool) (pr : Int → Int) (N : Int) (c : Int) (l : Nat) (m : Int) : Bool × Nat := (decide (cE' W op f pr N c m ≤ cS' W op f pr N c m), l)
theorem keepsC {W H : Int} {op f : Int → Bool} {wa pr : Int → Int} (hw : WFy W H op wa pr) (hs : FS W H op f) : Keeps W H op (selC W op f pr (W * H)) (fun c _ m => lcc W op f pr (W * H) c m < 1000000) := by
  have h8 := WH_le hw.1
  intro c l m c0 c1 m0 m1 hJ
  have hl1 := lcc_R (f := f) hw (c := c + 1) (by omega) (by omega) (m / 2 + 1)
  have hl2 := lcc_R (f := f) hw (c := c + 1) (by omega) (by omega) (m / 2 + p2 (W - 1))
  rw [lcc_s c1] at hJ
  refine ⟨fun z => ?_, fun z => ?_⟩
  · rw [if_neg (fun q => q.elim (by rw [z.1]; decide) (by omega))] at hJ
    unfold selC
    dsimp only
    by_cases q : cE' W op f pr (W * H) c m ≤ cS' W op f pr (W * H) c m
    · rw [if_pos q] at hJ
      rw [decide_eq_true q, if_pos rfl, if_pos rfl]
      unfold cE' sby at hJ
      by_cases y : m / 2 % 2 = 0
      · rw [if_pos y] at hJ
        by_cases x : f (2 * c) = false ∨ 1000000 ≤ lcc W op f pr (W * H) (c + 1) (m / 2 + 1)
        · rw [if_pos x] at hJ; omega
        · refine ⟨hs _ ?_, fun _ => y, by omega⟩
          cases hf : f (2 * c)
          · exact absurd (Or.inl hf) x
          · rfl
      · rw [if_neg y] at hJ; omega
    · rw [if_neg q] at hJ
      rw [decide_eq_false q, if_neg (by decide), if_neg (by decide)]
      unfold cS' sby at hJ
      by_cases x : f (2 * c + 1) = false ∨ 1000000 ≤ lcc W op f pr (W * H) (c + 1) (m / 2 + p2 (W - 1))
      · rw [if_pos x] at hJ; omega
      · refine ⟨hs _ ?_, fun y => absurd y (by decide), by omega⟩
        cases hf : f (2 * c + 1)
        · exact absurd (Or.inl hf) x
        · rfl
  · have hb : op c = false ∨ m % 2 = 1 := by
      cases ho : op c
      · exact Or.inl rfl
      · right
        have : ¬ m % 2 = 0 := fun y => z ⟨ho, y⟩
        omega
    rw [if_pos hb] at hJ
    by_cases y : op c = false ∧ m % 2 = 1
    · rw [if_pos y] at hJ; omega
    · rw [if_neg y] at hJ; exact hJ
noncomputable def TQ (W H : Int) (op : Int → Bool) (wa pr : Int → Int) : Nat → TJ := trj W H op (selC W op (fit W H op wa) pr (W * H)) 0
theorem layCheapest_s {M : Mem} {W H : Int} {op : Int → Bool} {wa pr : Int → Int} (hy : YSc M W H op wa pr) (hw : WFy W H op wa pr) (hS : SwC M W H op wa pr) {a : Nat} (ha : 38 < a) (hr : lcc W op (fit W H op wa) pr (W * H) 0 0 < 1000000) : ∃ M2, m_X7_layCheapest M a = some M2 ∧ gI M2 a 0 = 1 ∧ (∀ q, iso W H op q = true → gI M2 (a + 1) q = (TQ W H op wa pr (W * H).toNat).2.2.1 q) ∧ ∃ M1, SwC M1 W H op wa pr ∧ (∀ k j, k = 8 ∨ k = 14 → dR M1 k j = dR M k j) ∧ Fr [8, 9, 11] M M1 ∧ Fr [a + 1, a] M1 M2 := by
  have hW := hw.1
  have h8 := WH_le hW
  have hp := p2_256 hW.1 hW.2.1
  have hs := fit_FS W H op wa
  obtain ⟨M1, e1, h1, h2, h3, h4, h6, f1⟩ := fillCosts_s hy hw hS
  have hy1 := hy.fr f1 (by decide) (by decide) (by decide) (by decide)
  have hK := keepsC hw hs
  have hPV : ∀ c : Nat, (c : Int) ≤ W * H → PV W H op c (TQ W H op wa pr c).2.1 (TQ W H op wa pr c).2.2.1 (TQ W H op wa pr c).2.2.2 ∧ lcc W op (fit W H op wa) pr (W * H) c (TQ W H op wa pr c).2.1 < 1000000 := trj_PV hW hK (r := 0) hr
  have hTs : ∀ c : Int, 0 ≤ c → TQ W H op wa pr (c + 1).toNat = stp W H op (selC W op (fit W H op wa) pr (W * H)) c (TQ W H op wa pr c.toNat) := fun c c0 => trj_s c0
  have hT0 : TQ W H op wa pr 0 = (0, 0, fun _ => 0, 0) := rfl
  generalize TQ W H op wa pr = T at hPV hTs hT0 ⊢
  unfold m_X7_layCheapest
  rw [e1, bd1_q]
  have ec : ∀ M', Fr [a + 1] M1 M' → m_X10_cells M' = W * H := fun M' f => by
    unfold m_X10_cells
    rw [fI f (by simp; omega), fI f (by simp; omega), hy1.1.1, hy1.1.2.1]
  obtain ⟨⟨u, c, M3⟩, e3, g⟩ := for_g (f := fun s => m_X7_layCheapest_L10 s.2.2 a s.1 s.2.1) 0 (W * H) (fun c s => s.2.1 = c ∧ 0 ≤ s.1 ∧ s.1 < p2 W ∧ rot W (c % W) s.1 = (T c.toNat).2.1 ∧ (∀ q, iso W H op q = true → Cov W c (T c.toNat).2.1 q → gI s.2.2 (a + 1) q = (T c.toNat).2.2.1 q) ∧ Fr [a + 1] M1 s.2.2) (fun r => (∀ q, iso W H op q = true → gI r.2.2 (a + 1) q = (T (W * H).toNat).2.2.1 q) ∧ Fr [a + 1] M1 r.2.2) (by
    rintro c ⟨u, c', M'⟩ c0 c1 ⟨g0, g2, g3, g4, g5, g6⟩
    dsimp only at g0 g2 g3 g4 g5 g6
    subst g0
    left
    have hy' := hy1.fr g6 (by simp; omega) (by simp; omega) (by simp; omega) (by simp; omega)
    have hf' : FTc M' W H (fit W H op wa) := fun b b0 b1 => (fI g6 (by simp; omega) b).trans (h1 b b0 b1)
    have hT' : ∀ v, 0 ≤ v → v < p2 W → gL M' 9 (256 * (c' + 1) + v) = nvr (lcc W op (fit W H op wa) pr (W * H) (c' + 1) (rot W ((c' + 1) % W) v)) := fun v v0 v1 => (fL g6 (by simp; omega) _).trans (h2 (c' + 1) v (by omega) (by omega) v0 v1)
    obtain ⟨p1, p2'⟩ := hPV c'.toNat (by omega)
    rw [Int.toNat_of_nonneg c0] at p1 p2'
    have hk := hK c' (T c'.toNat).1 _ c0 c1 p1.1 p1.2.1 p2'
    show ∃ s2, m_X7_layCheapest_L10 M' a u c' = _ ∧ _
    unfold m_X7_layCheapest_L10
    rw [ec M' g6, wr_id (x := W * H) (by omega) (by omega), wr_id (x := c') (by omega) (by omega), if_neg (by omega), isBare_s hy'.1 c0 c1 g2 g3, bd1_q, g4]
    simp only [wrb]
    rw [hTs c' c0]
    unfold stp
    by_cases z : op c' = true ∧ (T c'.toNat).2.1 % 2 = 0
    · rw [decide_eq_true z, if_tf, if_pos z]
      have z' : rot W (c' % W) u % 2 = 0 := by rw [g4]; exact z.2
      obtain ⟨k1, k2, k3⟩ := hk.1 z
      have hE := cE_R (f := fit W H op wa) hw c0 c1 (T c'.toNat).2.1
      have hS' := cS_R (f := fit W H op wa) hw c0 c1 (T c'.toNat).2.1
      rw [costEast_s hy' hw hf' hs c0 c1 g2 g3 z' hT', bd1_q, costSouth_s hy' hw hf' c0 c1 g2 g3 z' hT', bd1_q, g4]
      obtain ⟨e, ee⟩ : ∃ e : Bool, e = (selC W op (fit W H op wa) pr (W * H) c' (T c'.toNat).1 (T c'.toNat).2.1).1 := ⟨_, rfl⟩
      have ee2 : e = decide (cE' W op (fit W H op wa) pr (W * H) c' (T c'.toNat).2.1 ≤ cS' W op (fit W H op wa) pr (W * H) c' (T c'.toNat).2.1) := ee
      have hv12 : (if nvr (cS' W op (fit W H op wa) pr (W * H) c' (T c'.toNat).2.1) < nvr (cE' W op (fit W H op wa) pr (W * H) c' (T c'.toNat).2.1) then (0 : Int) else 1) = bI e := by
        rw [ee2]
        by_cases y : cE' W op (fit W H op wa) pr (W * H) c' (T c'.toNat).2.1 ≤ cS' W op (fit W H op wa) pr (W * H) c' (T c'.toNat).2.1
        · rw [decide_eq_true y, if_neg (fun q => by have := (nvr_lt (by omega) (by omega) (by omega) (by omega)).mp q; omega)]; rfl
        · rw [decide_eq_false y, if_pos ((nvr_lt (by omega) (by omega) (by omega) (by omega)).mpr (by omega))]; rfl
      rw [hv12, lt_q, lt_q]
      rw [← ee] at k1 k2 k3 ⊢
      have hb : (if wr (bI e) = 0 then 2 * c' + 1 else 2 * c') = (if e = true then 2 * c' else 2 * c' + 1) := by cases e <;> rfl
      rw [hb]
      obtain ⟨M4, e4, q4⟩ := put_s hy'.1 (a := a) (by omega) k1
      have f4 := fr_X3_put e4
      obtain ⟨u2, e5, u20, u21, u22⟩ := maskBehind_s (hy'.1.fr f4 (by simp; omega) (by simp; omega)) c0 c1 g2 g3 z' (e := e) (v := bI e) (wr_bI e) (fun y => ⟨stn_east hW (by rw [y, if_pos rfl] at k1; exact k1), by rw [g4]; exact k2 y⟩)
      rw [e4, bd1_q, e5, bd1_q, bd2_q]
      obtain ⟨w1, w2⟩ := PV_put hW c0 c1 p1 z.1 z.2 k1 k2
      refine ⟨_, rfl, rfl, u20, u21, by rw [u22, g4], fun q hq hc => ?_, g6.trans f4 (by simp)⟩
      dsimp only
      rw [q4 q]
      unfold puts
      by_cases y : q = (if e = true then 2 * c' else 2 * c' + 1) / 2 ∨ q = oth W H (if e = true then 2 * c' else 2 * c' + 1)
      · rw [if_pos y, if_pos y]
      · rw [if_neg y, if_neg y]
        refine g5 q hq ?_
        rcases (w2 q).mp hc with x1 | x1 | x1
        · exact x1
        · exact absurd (Or.inl (by rw [x1]; split <;> omega)) y
        · exact absurd (Or.inr x1) y
    · rw [decide_eq_false z, if_ff, if_neg z, column_s hy'.1 c0 (by omega), bd1_q, bd2_q]
      obtain ⟨w1, w2, w3⟩ := maskSkip_s hW c0 c1 g2 g3
      have hb : op c' = false ∨ (T c'.toNat).2.1 % 2 = 1 := by
        cases ho : op c'
        · exact Or.inl rfl
        · right
          have : ¬ (T c'.toNat).2.1 % 2 = 0 := fun y => z ⟨ho, y⟩
          omega
      obtain ⟨v1, v2⟩ := PV_skip hW c0 c1 p1 hb
      exact ⟨_, rfl, rfl, w1, w2, by rw [w3, g4], fun q hq hc => g5 q hq ((v2 q hq).mp hc), g6⟩) (by
    rintro ⟨u, c', M'⟩ ⟨g0, g2, g3, g4, g5, g6⟩
    dsimp only at g0 g2 g3 g4 g5 g6
    subst g0
    show ∃ s2, m_X7_layCheapest_L10 M' a u (W * H) = _ ∧ _
    unfold m_X7_layCheapest_L10
    rw [ec M' g6, if_pos (by omega)]
    exact ⟨_, rfl, fun q hq => g5 q hq (Or.inl (iso_t.mp hq).1.2), g6⟩) (by omega) (by omega) (s0 := (0, 0, M1)) ⟨rfl, by dsimp only; omega, by dsimp only; omega, by rw [Int.zero_emod, rot_0]; exact (by rw [show (0 : Int).toNat = 0 from rfl, hT0]), fun q hq hc => by
      exfalso
      have := (iso_t.mp hq).1
      rw [show (0 : Int).toNat = 0 from rfl, hT0] at hc
      rcases hc with hc | ⟨_, _, hc⟩
      · omega
      · unfold bit at hc
        change (0 : Int) / _ % 2 = 1 at hc
        rw [Int.zero_ediv] at hc
        omega, Fr.rf⟩
  dsimp only at g
  rw [e3, bd3_q, lt_q]
  refine ⟨_, rfl, gI_sI_eq, fun q hq => ?_, M1, h3, h6, f1, (g.2.mono (by simp)).sI (by simp) rfl⟩
  rw [gI_sI, if_neg (by omega)]; exact g.1 q hq
