/-! cell: one cell opened or closed -/
def bro (W c k : Int) : Int := if k = 0 then (if 0 < c / W then 2 * (c - W) + 1 else -1) else if k = 1 then (if 0 < c % W then 2 * (c - 1) else -1) else if k = 2 then 2 * c else 2 * c + 1
theorem brickOn_s {M : Mem} {W H : Int} {op : Int → Bool} (hy : YC M W H op) {c k : Int} (h0 : 0 ≤ c) (hc : c < 64) (hk : 0 ≤ k) (hk2 : k < 4) : m_X10_brickOn M c k = some (bro W c k) := by
  have hW := hy.2.2.1
  have hd := dv_r (c := c) hW.1 hW.2.1 (by omega) (by omega)
  have hw2 := hW.2.1
  unfold m_X10_brickOn bro
  rw [column_s hy (by omega) (by omega), row_s hy (by omega) (by omega), bd1_q, bd1_q, wr_id (x := k) (by omega) (by omega), wr_id (x := c / W) (by omega) (by omega), wr_id (x := c % W) (by omega) (by omega), hy.1]
  by_cases k0 : k = 0
  · rw [if_pos k0, if_pos k0, lt_q]
    by_cases e : 0 < c / W
    · rw [if_pos e, if_neg (by omega)]
    · rw [if_neg e, if_pos (by omega)]
  rw [if_neg k0, if_neg k0]
  by_cases k1 : k = 1
  · rw [if_pos k1, if_pos k1, lt_q]
    by_cases e : 0 < c % W
    · rw [if_pos e, if_neg (by omega)]
    · rw [if_neg e, if_pos (by omega)]
  rw [if_neg k1, if_neg k1]
  by_cases k2 : k = 2
  · rw [if_pos k2, if_pos k2]
  rw [if_neg k2, if_neg k2]
theorem bro_r {W H c k : Int} (h : WHr W H) (h0 : 0 ≤ c) (hc : c < W * H) : bro W c k = -1 ∨ (0 ≤ bro W c k ∧ bro W c k < 2 * (W * H)) := by
  obtain ⟨a1, a2, a3, a4⟩ := h
  unfold bro
  rcases W8 a1 a2 with rfl | rfl | rfl | rfl | rfl | rfl | rfl | rfl <;> (repeat' split) <;> omega
def frs (W c : Int) (f : Int → Int) (b : Int) : Int := if b = 2 * c ∨ b = 2 * c + 1 ∨ (0 < c % W ∧ b = 2 * c - 2) ∨ (W ≤ c ∧ b = 2 * (c - W) + 1) then 0 else f b
theorem bro_hit {W H c b : Int} (h : WHr W H) (h0 : 0 ≤ c) (hc : c < W * H) (hb : 0 ≤ b) : (∃ k, 0 ≤ k ∧ k < 4 ∧ bro W c k = b) ↔ (b = 2 * c ∨ b = 2 * c + 1 ∨ (0 < c % W ∧ b = 2 * c - 2) ∨ (W ≤ c ∧ b = 2 * (c - W) + 1)) := by
  have hw : 0 < c / W ↔ W ≤ c := by
    obtain ⟨a1, a2, a3, a4⟩ := h
    rcases W8 a1 a2 with rfl | rfl | rfl | rfl | rfl | rfl | rfl | rfl <;> omega
  constructor
  · rintro ⟨k, k1, k2, e⟩
    unfold bro at e
    by_cases q0 : k = 0
    · rw [if_pos q0] at e
      by_cases q : 0 < c / W
      · rw [if_pos q] at e; exact Or.inr (Or.inr (Or.inr ⟨hw.mp q, e.symm⟩))
      · rw [if_neg q] at e; omega
    rw [if_neg q0] at e
    by_cases q1 : k = 1
    · rw [if_pos q1] at e
      by_cases q : 0 < c % W
      · rw [if_pos q] at e; exact Or.inr (Or.inr (Or.inl ⟨q, by omega⟩))
      · rw [if_neg q] at e; omega
    rw [if_neg q1] at e
    by_cases q2 : k = 2
    · rw [if_pos q2] at e; exact Or.inl e.symm
    · rw [if_neg q2] at e; exact Or.inr (Or.inl e.symm)
  · rintro (e | e | ⟨q, e⟩ | ⟨q, e⟩)
    · exact ⟨2, by omega, by omega, by simp [bro, e]⟩
    · exact ⟨3, by omega, by omega, by simp [bro, e]⟩
    · exact ⟨1, by omega, by omega, by simp [bro, q]; omega⟩
    · exact ⟨0, by omega, by omega, by simp [bro, hw.mpr q]; omega⟩
theorem frs_hit {W H c b : Int} (h : WHr W H) (h0 : 0 ≤ c) (hc : c < W * H) (hb : 0 ≤ b) (f : Int → Int) : ((∃ k, 0 ≤ k ∧ k < 4 ∧ bro W c k = b) → frs W c f b = 0) ∧ (¬ (∃ k, 0 ≤ k ∧ k < 4 ∧ bro W c k = b) → frs W c f b = f b) := by
  rw [bro_hit h h0 hc hb]
  exact ⟨fun q => if_pos q, fun q => if_neg q⟩
def updB (f : Int → Bool) (c : Int) (v : Bool) : Int → Bool := fun j => if j = c then v else f j
theorem change_s {M : Mem} {W H : Int} {op : Int → Bool} {wa pr : Int → Int} (hy : YSc M W H op wa pr) {c : Int} (h0 : 0 ≤ c) (hc : c < W * H) (v : Bool) : ∃ M2, m_X10_change M c (bI v) = some M2 ∧ YSc M2 W H (updB op c v) (frs W c wa) (frs W c pr) := by
  have hW := hy.1.2.2.1
  have h8 := WH_le hW
  unfold m_X10_change
  rw [wr_id (by omega) (by omega), if_pos ⟨h0, by omega⟩, if_pos (bI_01 v), lt_q]
  have hy2 : YSc (sI M 2 c (bI v)) W H (updB op c v) wa pr := by
    refine ⟨⟨?_, ?_, hW, fun j a b => ?_⟩, fun b x y => ⟨?_, ?_⟩⟩
    · rw [gI_sI, if_neg (by simp)]; exact hy.1.1
    · rw [gI_sI, if_neg (by simp)]; exact hy.1.2.1
    · rw [gI_sI]
      unfold updB
      by_cases e : j = c
      · rw [if_pos ⟨rfl, e⟩, if_pos e]
      · rw [if_neg (fun z => e z.2), if_neg e]; exact hy.1.2.2.2 j a b
    · rw [gI_sI, if_neg (by simp)]; exact (hy.2 b x y).1
    · rw [gI_sI, if_neg (by simp)]; exact (hy.2 b x y).2
  obtain ⟨M2, e2, h2⟩ := for_M (f := fun s => m_X10_change_L9 s.2 c s.1) 0 4 (fun i M' => YC M' W H (updB op c v) ∧ ∀ b, 0 ≤ b → b < 128 → ((∃ k, 0 ≤ k ∧ k < i ∧ bro W c k = b) → gI M' 3 b = 0 ∧ gI M' 4 b = 0) ∧ (¬ (∃ k, 0 ≤ k ∧ k < i ∧ bro W c k = b) → gI M' 3 b = wa b ∧ gI M' 4 b = pr b)) (fun i M' h1 h2 hI => by
    show ∃ M2, m_X10_change_L9 M' c i = _ ∧ _
    unfold m_X10_change_L9
    rw [wr_id (x := 4) (by omega) (by omega), wr_id (x := i) (by omega) (by omega), if_neg (by omega), brickOn_s hI.1 h0 (by omega) h1 h2, bd1_q]
    rcases bro_r (k := i) hW h0 hc with q | ⟨q, q2⟩
    · rw [q, show wr (-1) = -1 by decide, if_neg (by decide), bd1_q]
      refine ⟨M', rfl, hI.1, fun b x y => ⟨fun ⟨k, k1, k2, k3⟩ => ?_, fun hn => ?_⟩⟩
      · refine (hI.2 b x y).1 ⟨k, k1, ?_, k3⟩
        have : k ≠ i := fun e => by rw [e, q] at k3; omega
        omega
      · exact (hI.2 b x y).2 (fun ⟨k, k1, k2, k3⟩ => hn ⟨k, k1, by omega, k3⟩)
    · rw [wr_id (x := bro W c i) (by omega) (by omega), if_pos q, if_pos ⟨q, by omega⟩, lt_q, lt_q, bd1_q]
      refine ⟨_, rfl, ⟨?_, ?_, hW, fun j a b => ?_⟩, fun b x y => ⟨fun ⟨k, k1, k2, k3⟩ => ?_, fun hn => ?_⟩⟩
      · rw [gI_sI, if_neg (by simp), gI_sI, if_neg (by simp)]; exact hI.1.1
      · rw [gI_sI, if_neg (by simp), gI_sI, if_neg (by simp)]; exact hI.1.2.1
      · rw [gI_sI, if_neg (by simp), gI_sI, if_neg (by simp)]; exact hI.1.2.2.2 j a b
      · rw [gI_sI, if_neg (by simp), gI_sI, gI_sI]
        by_cases e : b = bro W c i
        · simp [e]
        · rw [if_neg (fun z => e z.2), if_neg (fun z => e z.2), gI_sI, if_neg (fun z => e z.2)]
          refine (hI.2 b x y).1 ⟨k, k1, ?_, k3⟩
          have : k ≠ i := fun e2 => by rw [e2] at k3; exact e k3.symm
          omega
      · have e : b ≠ bro W c i := fun e => hn ⟨i, h1, by omega, e.symm⟩
        rw [gI_sI, if_neg (fun z => e z.2), gI_sI, if_neg (fun z => e z.2), gI_sI, if_neg (fun z => e z.2), gI_sI, if_neg (fun z => e z.2)]
        exact (hI.2 b x y).2 (fun ⟨k, k1, k2, k3⟩ => hn ⟨k, k1, by omega, k3⟩)) (fun M' hI => by
    show m_X10_change_L9 M' c 4 = _
    unfold m_X10_change_L9
    rw [if_pos (by decide)]) (by omega) (by omega) (M0 := sI M 2 c (bI v)) ⟨hy2.1, fun b x y => ⟨fun ⟨k, k1, k2, k3⟩ => by omega, fun _ => hy2.2 b x y⟩⟩
  rw [e2, bd2_q]
  refine ⟨M2, rfl, h2.1, fun b x y => ?_⟩
  have k1 := frs_hit hW h0 hc x wa
  have k2 := frs_hit hW h0 hc x pr
  by_cases e : ∃ k, 0 ≤ k ∧ k < 4 ∧ bro W c k = b
  · rw [k1.1 e, k2.1 e]; exact (h2.2 b x y).1 e
  · rw [k1.2 e, k2.2 e]; exact (h2.2 b x y).2 e
/-- what a change of a cell makes of the yard's state -/
abbrev TS : Type := (Int → Bool) × (Int → Int) × (Int → Int) × (Int → Bool)
def chg (W c : Int) (v : Bool) (t : TS) : TS := if t.1 c = v then t else (updB t.1 c v, frs W c t.2.1, frs W c t.2.2.1, fun _ => false)
noncomputable def TC (M : Mem) (W H : Int) (t : TS) (on : Int → Int → Int) : Prop := YSc M W H t.1 t.2.1 t.2.2.1 ∧ SLc M W H t.1 t.2.2.2 on ∧ SwC M W H t.1 t.2.1 t.2.2.1
def TR (M : Mem) (W H : Int) (t : TS) (on : Int → Int → Int) : Prop := YSr M W H t.1 t.2.1 t.2.2.1 ∧ SLr M W H t.1 t.2.2.2 on
theorem bI_inj {a b : Bool} : bI a = bI b ↔ a = b := by cases a <;> cases b <;> simp [bI]
theorem changeCell_s {M : Mem} {W H : Int} {t : TS} {on : Int → Int → Int} (hT : TC M W H t on) {c : Int} (h0 : 0 ≤ c) (hc : c < W * H) (v : Bool) : ∃ M2, m_X11_changeCell M c (bI v) = some (t.1 c, M2) ∧ TC M2 W H (chg W c v t) on ∧ (∀ k j, k = 8 ∨ k = 14 → dR M2 k j = dR M k j) := by
  obtain ⟨op, wa, pr, hd⟩ := t
  obtain ⟨hy, hs, hw⟩ := hT
  dsimp only at hy hs hw
  have hW := hy.1.2.2.1
  have h8 := WH_le hW
  unfold m_X11_changeCell chg
  dsimp only
  rw [wr_id (x := c) (by omega) (by omega), if_pos ⟨h0, by omega⟩, hy.1.2.2.2 c h0 (by omega), wr_bI, wr_bI]
  have hfin : ∀ M2 : Mem, (if bI (op c) = 0 ∨ bI (op c) = 1 then some ((decide (bI (op c) = 1)), M2) else none) = some (op c, M2) := by
    intro M2
    cases op c <;> rfl
  by_cases e : op c = v
  · rw [if_pos (by rw [e]), bd1_q, hfin, if_pos e]
    exact ⟨M, rfl, ⟨hy, hs, hw⟩, fun _ _ _ => rfl⟩
  · rw [if_neg (fun q => e (bI_inj.mp q)), if_neg e]
    obtain ⟨M2, e2, h2⟩ := change_s hy h0 hc v
    obtain ⟨M3, e3, q1, q2, q3, q4⟩ := yardChanged_s M2
    rw [e2, bd1_q, e3, bd1_q, bd1_q, hfin]
    refine ⟨M3, rfl, ⟨h2.fr (fr_X11_yardChanged e3) (by decide) (by decide) (by decide) (by decide), SLc.none q3, SwC.zero _ _ _ _ _ q1 q2⟩, fun k j hk => ?_⟩
    rw [q4, fR (fr_X10_change e2) (by rcases hk with rfl | rfl <;> decide)]
theorem frees_s {M : Mem} {W H : Int} {op : Int → Bool} {wa pr : Int → Int} (hy : YSr M W H op wa pr) {b : Int} (h0 : 0 ≤ b) (hb : b < 128) : ∃ M2, m_X12_frees M b = some M2 ∧ YSr M2 W H op (fun d => if d = b then 0 else wa d) (fun d => if d = b then 0 else pr d) := by
  unfold m_X12_frees
  rw [wr_id (by omega) (by omega), if_pos ⟨h0, hb⟩, lt_q, lt_q]
  refine ⟨_, rfl, ⟨?_, ?_, hy.1.2.2.1, fun j a b => ?_⟩, fun d x y => ⟨?_, ?_⟩⟩
  · rw [gI_sI, if_neg (by simp), gI_sI, if_neg (by simp)]; exact hy.1.1
  · rw [gI_sI, if_neg (by simp), gI_sI, if_neg (by simp)]; exact hy.1.2.1
  · rw [gI_sI, if_neg (by simp), gI_sI, if_neg (by simp)]; exact hy.1.2.2.2 j a b
  · rw [gI_sI, if_neg (by simp), gI_sI]
    dsimp only
    by_cases e : d = b
    · rw [if_pos ⟨rfl, e⟩, if_pos e]
    · rw [if_neg (fun z => e z.2), if_neg e]; exact (hy.2 d x y).1
  · rw [gI_sI, gI_sI]
    dsimp only
    by_cases e : d = b
    · rw [if_pos ⟨rfl, e⟩, if_pos e]
    · rw [if_neg (fun z => e z.2), if_neg e, if_neg (fun z => e z.2)]; exact (hy.2 d x y).2
theorem sets_s {M : Mem} {W H : Int} {t : TS} {on : Int → Int → Int} (hT : TR M W H t on) {c : Int} (h0 : 0 ≤ c) (hc : c < W * H) (v : Bool) : ∃ M2, m_X12_sets M c (bI v) = some M2 ∧ TR M2 W H (chg W c v t) on := by
  obtain ⟨op, wa, pr, hd⟩ := t
  obtain ⟨hy, hs⟩ := hT
  dsimp only at hy hs
  have hW := hy.1.2.2.1
  have h8 := WH_le hW
  have hw1 := hW.1
  have hw2 := hW.2.1
  have hd0 := dv_r (c := c) hW.1 hW.2.1 (by omega) (by omega)
  unfold m_X12_sets chg
  dsimp only
  rw [wr_id (x := c) (by omega) (by omega), if_pos ⟨h0, by omega⟩, hy.1.2.2.2 c h0 (by omega), wr_bI, wr_bI]
  by_cases e : op c = v
  · rw [if_pos (by rw [e]), if_pos e]
    exact ⟨M, rfl, hy, hs⟩
  rw [if_neg (fun q => e (bI_inj.mp q)), if_neg e, if_pos (bI_01 v), lt_q]
  have hy2 : YSr (sI M 56 c (bI v)) W H (updB op c v) wa pr := by
    refine ⟨⟨?_, ?_, hW, fun j a b => ?_⟩, fun b x y => ⟨?_, ?_⟩⟩
    · rw [gI_sI, if_neg (by simp)]; exact hy.1.1
    · rw [gI_sI, if_neg (by simp)]; exact hy.1.2.1
    · rw [gI_sI]
      unfold updB
      by_cases e : j = c
      · rw [if_pos ⟨rfl, e⟩, if_pos e]
      · rw [if_neg (fun z => e z.2), if_neg e]; exact hy.1.2.2.2 j a b
    · rw [gI_sI, if_neg (by simp)]; exact (hy.2 b x y).1
    · rw [gI_sI, if_neg (by simp)]; exact (hy.2 b x y).2
  obtain ⟨M3, e3, h3⟩ := frees_s hy2 (b := 2 * c) (by omega) (by omega)
  obtain ⟨M4, e4, h4⟩ := frees_s h3 (b := 2 * c + 1) (by omega) (by omega)
  rw [e3, bd1_q, e4, bd1_q, h4.1.1, wr_id (x := W) (by omega) (by omega), if_pos (by omega), irm_p h0 (by omega) (by omega) (by omega), wr_id (x := c % W) (by omega) (by omega)]
  obtain ⟨M5, e5, h5⟩ : ∃ M5, (if c % W ≤ 0 then some M4 else bd1 (m_X12_frees M4 (2 * c - 2)) fun M12 => some M12) = some M5 ∧ YSr M5 W H (updB op c v) (fun b => if b = 2 * c ∨ b = 2 * c + 1 ∨ (0 < c % W ∧ b = 2 * c - 2) then 0 else wa b) (fun b => if b = 2 * c ∨ b = 2 * c + 1 ∨ (0 < c % W ∧ b = 2 * c - 2) then 0 else pr b) := by
    by_cases q : c % W ≤ 0
    · rw [if_pos q]
      refine ⟨M4, rfl, h4.1, fun b x y => ?_⟩
      rw [(h4.2 b x y).1, (h4.2 b x y).2]
      dsimp only
      constructor <;> (by_cases z1 : b = 2 * c + 1 <;> by_cases z2 : b = 2 * c <;> simp [z1, z2] <;> omega)
    · rw [if_neg q]
      have hx : 2 ≤ 2 * c := by
        have : c ≠ 0 := fun z => by rw [z] at q; simp at q
        omega
      obtain ⟨M5, e5, h5⟩ := frees_s h4 (b := 2 * c - 2) (by omega) (by omega)
      rw [e5, bd1_q]
      refine ⟨M5, rfl, h5.1, fun b x y => ?_⟩
      rw [(h5.2 b x y).1, (h5.2 b x y).2]
      dsimp only
      have q' : 0 < c % W := by omega
      constructor <;> (by_cases z1 : b = 2 * c + 1 <;> by_cases z2 : b = 2 * c <;> by_cases z3 : b = 2 * c - 2 <;> simp [z1, z2, z3, q'])
  rw [e5, bd1_q, h5.1.1, wr_id (x := W) (by omega) (by omega)]
  obtain ⟨M6, e6, h6⟩ : ∃ M6, (if c < W then some M5 else bd1 (m_X12_frees M5 (2 * (c - W) + 1)) fun M12 => some M12) = some M6 ∧ YSr M6 W H (updB op c v) (frs W c wa) (frs W c pr) := by
    unfold frs
    by_cases q : c < W
    · rw [if_pos q]
      refine ⟨M5, rfl, h5.1, fun b x y => ?_⟩
      rw [(h5.2 b x y).1, (h5.2 b x y).2]
      dsimp only
      have q' : ¬ (W ≤ c) := by omega
      constructor <;> simp [q']
    · rw [if_neg q]
      obtain ⟨M6, e6, h6⟩ := frees_s h5 (b := 2 * (c - W) + 1) (by omega) (by omega)
      rw [e6, bd1_q]
      refine ⟨M6, rfl, h6.1, fun b x y => ?_⟩
      rw [(h6.2 b x y).1, (h6.2 b x y).2]
      dsimp only
      have q' : W ≤ c := by omega
      constructor <;> (by_cases z3 : b = 2 * (c - W) + 1 <;> simp [z3, q'])
  rw [e6, bd1_q]
  obtain ⟨M7, e7, h7⟩ := emptySlots_s M6
  rw [e7, bd1_q]
  exact ⟨M7, rfl, h6.fr (fr_X12_emptySlots e7) (by decide) (by decide) (by decide) (by decide), SLr.none h7⟩
