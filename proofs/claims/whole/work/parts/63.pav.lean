/-! pavings -/
theorem ALL.sweep {M M1 M2 : Mem} {W H : Int} {op : Int → Bool} {wa pr : Int → Int} {hd : Int → Bool} {on : Int → Int → Int} {ts : Int} {tp : Int → Int} {ln sz : Int → Int} {it : Int → Int → Int} (h : ALL M W H op wa pr hd on ts tp ln sz it) {ks ks2 : List Nat} (hF : Fr ks M M1) (hk : ks.all (fun k => (8 :: 14 :: ctmp).contains k) = true) (hD : DRs M1) (hS : SwC M1 W H op wa pr) (hF2 : Fr ks2 M1 M2) (hk2 : ks2.all (fun k => rtmp.contains k) = true) : ALL M2 W H op wa pr hd on ts tp ln sz it := by
  obtain ⟨h1, h2, h3, -, -⟩ := h
  have b1 : ks.all (fun k => (rtmp ++ List.range 55).contains k) = true := by
    rw [List.all_eq_true] at hk ⊢
    intro k hk'
    have key : ∀ k ∈ (8 :: 14 :: ctmp), k ∈ (rtmp ++ List.range 55) := by decide
    exact List.contains_iff_mem.mpr (key k (List.contains_iff_mem.mp (hk k hk')))
  have b2 : ks.all (fun k => (8 :: 14 :: ctmp ++ (List.range 25).map (· + 55)).contains k) = true := by
    rw [List.all_eq_true] at hk ⊢
    intro k hk'
    have key : ∀ k ∈ (8 :: 14 :: ctmp), k ∈ (8 :: 14 :: ctmp ++ (List.range 25).map (· + 55)) := by decide
    exact List.contains_iff_mem.mpr (key k (List.contains_iff_mem.mp (hk k hk')))
  have b3 : ks2.all (fun k => (rtmp ++ List.range 55).contains k) = true := by
    rw [List.all_eq_true] at hk2 ⊢
    intro k hk'
    exact List.contains_iff_mem.mpr (List.mem_append_left _ (List.contains_iff_mem.mp (hk2 k hk')))
  have b4 : ks2.all (fun k => (8 :: 14 :: ctmp ++ (List.range 25).map (· + 55)).contains k) = true := by
    rw [List.all_eq_true] at hk2 ⊢
    intro k hk'
    have key : ∀ k ∈ rtmp, k ∈ (8 :: 14 :: ctmp ++ (List.range 25).map (· + 55)) := by decide
    exact List.contains_iff_mem.mpr (key k (List.contains_iff_mem.mp (hk2 k hk')))
  exact ⟨(h1.fr hF b2).fr hF2 b4, (h2.fr hF b1).fr hF2 b3, h3, hD.fr hF2 (notin hk2 (by decide)) (notin hk2 (by decide)), hS.fr hF2 (notin hk2 (by decide)) (notin hk2 (by decide)) (notin hk2 (by decide)) (notin hk2 (by decide))⟩
noncomputable def nPav (W H : Int) (op : Int → Bool) (wa : Int → Int) : Nat := wyc W op (fit W H op wa) (W * H) 0 0
theorem WYc.at {M : Mem} {W H : Int} {op f : Int → Bool} (h : WYc M W H op f) {c u : Int} (c0 : 0 ≤ c) (c1 : c ≤ W * H) (u0 : 0 ≤ u) (u1 : u < p2 W) : gL M 9 (256 * c + u) = lN (wyc W op f (W * H) c (rot W (c % W) u)) := h c u c0 c1 u0 u1
theorem total_s {M : Mem} {W H : Int} {op : Int → Bool} {wa pr : Int → Int} (hy : YSc M W H op wa pr) (hw : WFy W H op wa pr) (hS : SwC M W H op wa pr) : ∃ M2, m_X7_total M = some (lN (nPav W H op wa), M2) ∧ FTc M2 W H (fit W H op wa) ∧ WYc M2 W H op (fit W H op wa) ∧ SwC M2 W H op wa pr ∧ gI M2 8 5 = 1 ∧ gI M2 8 6 = gI M 8 6 ∧ (∀ k j, k = 8 ∨ k = 14 → dR M2 k j = dR M k j) ∧ Fr [8, 9, 11] M M2 := by
  have hW := hw.1
  have h8 := WH_le hW
  have hp := p2_256 hW.1 hW.2.1
  obtain ⟨M2, e2, h1, h2, h3, h4, h5, h6, h7⟩ := fillWays_s hy hw hS
  unfold m_X7_total
  rw [e2, bd1_q, show wr 0 = 0 by decide]
  have := h2.at (c := 0) (u := 0) (by omega) (by omega) (by omega) (by omega)
  rw [show 256 * (0 : Int) + 0 = 0 by decide, Int.zero_emod, rot_0] at this
  rw [this]
  exact ⟨M2, rfl, h1, h2, h3, h4, h5, h6, h7⟩
def GOn (M : Mem) (W H : Int) (op f : Int → Bool) : Prop := ∀ c m, 0 ≤ c → c ≤ W * H → 0 ≤ m → m < p2 W → gL M 64 (256 * c + m) = lN (wyc W op f (W * H) c m)
theorem countAll_s {M : Mem} {W H : Int} {op f : Int → Bool} (hy : YR M W H op) (hm : MY M W H f) : ∃ M2, m_X12_countAll M = some (lN (wyc W op f (W * H) 0 0), M2) ∧ GOn M2 W H op f ∧ Fr [64] M M2 := by
  have hW := hy.2.2.1
  have h8 := WH_le hW
  have hp := p2_256 hW.1 hW.2.1
  obtain ⟨M2, e2, h2⟩ := countOn_s hy hm
  unfold m_X12_countAll
  have := h2 0 0 (by omega) (by omega) (by omega) (by omega)
  rw [show 256 * (0 : Int) + 0 = 0 by decide] at this
  rw [e2, bd1_q, show wr 0 = 0 by decide, this]
  exact ⟨M2, rfl, h2, fr_X12_countOn e2⟩
theorem pavingsR_s {M : Mem} {W H : Int} {op : Int → Bool} {wa pr : Int → Int} (hy : YSr M W H op wa pr) (hw : WFy W H op wa pr) : ∃ M2, m_X12_pavings M = some (lN (nPav W H op wa), M2) ∧ MY M2 W H (fit W H op wa) ∧ GOn M2 W H op (fit W H op wa) ∧ Fr [63, 64] M M2 := by
  obtain ⟨M1, e1, h1⟩ := allows_s hy hw
  have f1 := fr_X12_allows e1
  obtain ⟨M2, e2, h2, f2⟩ := countAll_s (hy.1.fr f1 (by decide) (by decide)) h1
  have e : m_X12_pavings M = some (lN (nPav W H op wa), M2) := by
    unfold m_X12_pavings
    rw [e1, bd1_q, e2, bd2_q]
    rfl
  exact ⟨M2, e, fun b b0 b1 => (fI f2 (by decide) b).trans (h1 b b0 b1), h2, fr_X12_pavings e⟩
theorem op_pavings {M : Mem} (hI : Inv M) : OpL (fun M => m_X11_pavings M) (fun M => m_X12_pavings M) M := by
  obtain ⟨W, H, op, wa, pr, hd, on, ts, tp, ln, sz, it, hA⟩ := hI
  have hA' := hA
  obtain ⟨hC, hR, hwf, hD, hS⟩ := hA'
  obtain ⟨M1, e1, h1, h2, h3, h4, h5, h6, f1⟩ := total_s hC.1 hwf.1 hS
  have hR1 := hR.fr f1 (by decide)
  obtain ⟨M2, e2, -, -, f2⟩ := pavingsR_s hR1.1 hwf.1
  refine ⟨lN (nPav W H op wa), M1, M2, ?_, e2, W, H, op, wa, pr, hd, on, ts, tp, ln, sz, it, hA.sweep f1 (by decide) (hD.of (fun j => h6 8 j (Or.inl rfl)) (fun j => h6 14 j (Or.inr rfl))) h3 f2 (by decide)⟩
  show m_X11_pavings M = _
  unfold m_X11_pavings
  rw [e1, bd2_q]
