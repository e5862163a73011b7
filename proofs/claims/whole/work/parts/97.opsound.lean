/-! sound: the reference; the call -/
theorem itr_x {σ ρ : Type} {f : σ → Option (σ ⊕ ρ)} {s : σ} {r : ρ} (h : f s = some (.inr r)) : itr f FU s = some r := by
  show itr f (99999 + 1) s = some r
  unfold itr
  rw [h]
theorem allows0_s {M : Mem} {W H : Int} {op : Int → Bool} (hy : YR M W H op) : ∃ M2, m_X12_allows M 0 = some M2 ∧ MY M2 W H (stn W H op) := by
  have hW := hy.2.2.1
  have h8 := WH_le hW
  unfold m_X12_allows
  obtain ⟨M1, e1, h1, f1⟩ := for_M (f := fun s => m_X12_allows_L2 s.2 0 s.1) 0 128 (fun i M' => (∀ b, 0 ≤ b → b < i → gI M' 63 b = bI (stn W H op b)) ∧ Fr [63] M M') (fun i M' i0 i1 hI => by
    show ∃ M2, m_X12_allows_L2 M' 0 i = _ ∧ _
    unfold m_X12_allows_L2
    rw [show wr 128 = 128 by decide, wr_id (x := i) (by omega) (by omega), if_neg (by omega), isBrick_s (hy.fr hI.2 (by decide) (by decide)) (by omega) (by omega), bd1_q, if_pos (c := wr 0 = 0) (by decide)]
    have ev : (if wr (bI (stn W H op i)) = 0 then some 0 else some 1) = some (bI (stn W H op i)) := by
      simp only [wrb]
      cases stn W H op i <;> rfl
    rw [ev, bd1_q, if_pos (c := 0 ≤ i ∧ i < 128) (by omega), if_pos (bI_01 _), lt_q]
    refine ⟨_, rfl, fun b b0 b1 => ?_, hI.2.sI (by decide) rfl⟩
    rw [gI_sI]
    by_cases e : b = i
    · rw [if_pos ⟨rfl, e⟩, e]
    · rw [if_neg (fun z => e z.2)]; exact hI.1 b b0 (by omega)) (fun M' hI => by
    show m_X12_allows_L2 M' 0 128 = _
    unfold m_X12_allows_L2
    rw [if_pos (by decide)]) (by omega) (by omega) (M0 := M) ⟨fun b b0 b1 => by omega, Fr.rf⟩
  have e2 : itr (fun s => m_X12_allows_L50 s.2 0 s.1) FU (0, M1) = some (0, M1) := itr_x (by
    show m_X12_allows_L50 M1 0 0 = some (.inr (0, M1))
    unfold m_X12_allows_L50
    rw [if_neg (by decide), if_pos (by decide)])
  rw [e1, bd2_q, e2, bd2_q]
  exact ⟨M1, rfl, fun b b0 b1 => h1 b b0 (by omega)⟩
theorem bit_s : ∀ s : Nat, s < 128 → ∀ i : Nat, i < 7 → iand (sar (s : Int) (i : Int)) 1 = (s : Int) / p2 i % 2 := by decide +kernel
/-- lines below j are cut -/
def fsp (W H : Int) (op : Int → Bool) (s j b : Int) : Bool := stn W H op b && decide (b % 2 = 1 ∨ j ≤ b / 2 % W ∨ s / p2 (b / 2 % W) % 2 = 0)
theorem cut_s {M : Mem} {W H : Int} {op : Int → Bool} (hy : YR M W H op) {s : Nat} (hs : (s : Int) < p2 (W - 1)) (hm : MY M W H (stn W H op)) {p1 : Int64} : ∃ z M2, itr (fun t => m_X12_sound_L27 t.2.2 p1 s t.1 t.2.1) FU (0, 1, M) = some (pcs (W - 1).toNat s, z, M2) ∧ MY M2 W H (fs W H op s) ∧ Fr [63] M M2 := by
  have hW := hy.2.2.1
  obtain ⟨a1, a2, a3, a4⟩ := hW
  have hW := hy.2.2.1
  have h8 := WH_le hW
  have hp7 : p2 (W - 1) ≤ 128 := by
    rcases W8 a1 a2 with rfl | rfl | rfl | rfl | rfl | rfl | rfl | rfl <;> decide
  obtain ⟨⟨u, z, M2⟩, e, h1, h2, f2⟩ := for_g (f := fun t => m_X12_sound_L27 t.2.2 p1 s t.1 t.2.1) 1 W (fun x t => t.2.1 = x ∧ t.1 = pcs (x - 1).toNat s ∧ MY t.2.2 W H (fsp W H op s (x - 1)) ∧ Fr [63] M t.2.2) (fun r => r.1 = pcs (W - 1).toNat s ∧ MY r.2.2 W H (fs W H op s) ∧ Fr [63] M r.2.2) (by
    rintro x ⟨u, x', M'⟩ x0 x1 ⟨g0, g1, g2, g3⟩
    dsimp only at g0 g1 g2 g3
    subst g0
    left
    show ∃ s2, m_X12_sound_L27 M' p1 s u x' = _ ∧ _
    have hyM := hy.fr g3 (by decide) (by decide)
    have hb := bit_s s (by omega) (x' - 1).toNat (by omega)
    rw [Int.toNat_of_nonneg (show 0 ≤ x' - 1 by omega)] at hb
    unfold m_X12_sound_L27
    rw [hyM.1, wr_id (x := W) (by omega) (by omega), wr_id (x := x') (by omega) (by omega), if_neg (by omega), hb, wr_id (x := (s : Int) / p2 (x' - 1) % 2) (by omega) (by omega), show wr 1 = 1 by decide, lt_q]
    have es : pcs (x' + 1 - 1).toNat s = pcs (x' - 1).toNat s + (s : Int) / p2 (x' - 1) % 2 := by
      unfold pcs
      rw [show (x' + 1 - 1).toNat = (x' - 1).toNat + 1 by omega, sm_s, Int.toNat_of_nonneg (show 0 ≤ x' - 1 by omega)]
    by_cases zb : (s : Int) / p2 (x' - 1) % 2 = 1
    · rw [if_pos zb, if_neg (c := wr 1 = 0) (by decide), lt_q]
      obtain ⟨M3, e3, h3, f3⟩ := for_M (f := fun t => m_X12_sound_L73 t.2 p1 s (u + 1) x' 1 t.1) 0 H (fun y M3 => (∀ b, 0 ≤ b → b < 2 * (W * H) → gI M3 63 b = if b % 2 = 0 ∧ b / 2 % W = x' - 1 ∧ b / 2 / W < y then 0 else gI M' 63 b) ∧ Fr [63] M' M3) (fun y M3 y0 y1 hJ => by
        show ∃ M2, m_X12_sound_L73 M3 p1 s (u + 1) x' 1 y = _ ∧ _
        have hy3 := hyM.fr hJ.2 (by decide) (by decide)
        have hc := xy_c hW (x := x' - 1) (y := y) (by omega) (by omega) y0 y1
        unfold m_X12_sound_L73
        have e0 : 2 * (W * y + x' - 1) = 2 * (y * W + (x' - 1)) := by rw [Int.mul_comm W y]; omega
        rw [hy3.1, hy3.2.1, wr_id (x := H) (by omega) (by omega), wr_id (x := y) (by omega) (by omega), if_neg (by omega), if_neg (c := wr 1 = 0) (by decide), e0, wr_id (x := 2 * (y * W + (x' - 1))) (by omega) (by omega), if_pos (by omega), lt_q]
        refine ⟨_, rfl, fun b b0 b1 => ?_, hJ.2.sI (by decide) rfl⟩
        rw [gI_sI]
        by_cases q : b = 2 * (y * W + (x' - 1))
        · rw [if_pos ⟨rfl, q⟩, if_pos]
          rw [show b / 2 = y * W + (x' - 1) by omega, hc.2.2.1, hc.2.2.2]
          exact ⟨by omega, rfl, by omega⟩
        · rw [if_neg (fun t => q t.2), hJ.1 b b0 b1]
          have hne : ¬ (b % 2 = 0 ∧ b / 2 % W = x' - 1 ∧ b / 2 / W = y) := by
            rintro ⟨t1, t2, t3⟩
            have hcx := cx_r hW (c := b / 2) (by omega) (by omega)
            rw [t2, t3] at hcx
            omega
          by_cases v : b % 2 = 0 ∧ b / 2 % W = x' - 1 ∧ b / 2 / W < y
          · rw [if_pos v, if_pos ⟨v.1, v.2.1, by omega⟩]
          · rw [if_neg v, if_neg (fun t => v ⟨t.1, t.2.1, by have : b / 2 / W ≠ y := fun r => hne ⟨t.1, t.2.1, r⟩; omega⟩)]) (fun M3 hJ => by
        show m_X12_sound_L73 M3 p1 s (u + 1) x' 1 H = _
        have hy3 := hyM.fr hJ.2 (by decide) (by decide)
        unfold m_X12_sound_L73
        rw [hy3.2.1, if_pos (Int.le_refl _)]) (by omega) (by omega) (M0 := M') ⟨fun b b0 b1 => by
          have hcx := cx_r hW (c := b / 2) (by omega) (by omega)
          rw [if_neg (by omega)], Fr.rf⟩
      rw [e3, bd2_q]
      refine ⟨_, rfl, rfl, ?_, fun b b0 b1 => ?_, g3.trans f3 (by decide)⟩
      · dsimp only
        rw [es, zb, g1]
      · dsimp only
        have hcx := cx_r hW (c := b / 2) (by omega) (by omega)
        rw [h3 b b0 b1, g2 b b0 b1]
        unfold fsp
        by_cases v : b % 2 = 0 ∧ b / 2 % W = x' - 1 ∧ b / 2 / W < H
        · rw [if_pos v, decide_eq_false]
          · rw [Bool.and_false]; rfl
          · rw [v.2.1, zb]; omega
        · rw [if_neg v]
          congr 2
          apply bx
          rw [decide_eq_true_iff, decide_eq_true_iff]
          omega
    · rw [if_neg zb, if_pos (c := wr 0 = 0) (by decide), lt_q]
      have e3 : itr (fun t => m_X12_sound_L73 t.2 p1 s (u + 0) x' 0 t.1) FU (0, M') = some (0, M') := itr_x (by
        show m_X12_sound_L73 M' p1 s (u + 0) x' 0 0 = some (.inr (0, M'))
        unfold m_X12_sound_L73
        rw [hyM.2.1, wr_id (x := H) (by omega) (by omega), show wr 0 = 0 by decide, if_neg (by omega), if_pos rfl])
      rw [e3, bd2_q]
      refine ⟨_, rfl, rfl, ?_, fun b b0 b1 => ?_, g3⟩
      · dsimp only
        rw [es, g1]; omega
      · dsimp only
        rw [g2 b b0 b1]
        unfold fsp
        congr 2
        apply bx
        rw [decide_eq_true_iff, decide_eq_true_iff]
        by_cases v : b / 2 % W = x' - 1
        · rw [v]; omega
        · omega) (by
    rintro ⟨u, x', M'⟩ ⟨g0, g1, g2, g3⟩
    dsimp only at g0 g1 g2 g3
    have hyM := hy.fr g3 (by decide) (by decide)
    refine ⟨(u, x', M'), ?_, g1, fun b b0 b1 => ?_, g3⟩
    · show m_X12_sound_L27 M' p1 s u x' = _
      unfold m_X12_sound_L27
      rw [hyM.1, g0, if_pos (Int.le_refl _)]
    · dsimp only
      rw [g2 b b0 b1]
      congr 1
      apply bx
      unfold fsp fs
      rw [Bool.and_eq_true, Bool.and_eq_true, decide_eq_true_iff, decide_eq_true_iff]
      constructor
      · rintro ⟨q1, q2⟩
        refine ⟨q1, ?_⟩
        by_cases v : b % 2 = 1
        · exact Or.inl v
        · have e0 : 2 * (b / 2) = b := by omega
          rw [← e0] at q1
          have := (st_e hW q1).1
          omega
      · rintro ⟨q1, q2⟩
        exact ⟨q1, by omega⟩) (by omega) (by omega) (s0 := (0, 1, M)) ⟨rfl, rfl, fun b b0 b1 => by
      rw [hm b b0 b1]
      unfold fsp
      have hcx := cx_r hW (c := b / 2) (by omega) (by omega)
      rw [decide_eq_true (by omega), Bool.and_true], Fr.rf⟩
  dsimp only at h1
  exact ⟨z, M2, by rw [e, h1], h2, f2⟩
theorem soundR_s {M : Mem} {W H : Int} {op : Int → Bool} (hy : YR M W H op) : ∃ M2, m_X12_sound M = some (sl (p2 (W - 1)).toNat (fun s => sgv (W - 1).toNat s (lN (wyc W op (fs W H op s) (W * H) 0 0))), M2) := by
  have hW := hy.2.2.1
  obtain ⟨a1, a2, a3, a4⟩ := hW
  have hW := hy.2.2.1
  have hb1 := Bt0 (x := W - 1) (by omega) (by omega)
  unfold m_X12_sound
  obtain ⟨⟨u, z, M2⟩, e, h1⟩ := for_g (f := fun t => m_X12_sound_L4 t.2.2 t.1 t.2.1) 0 (p2 (W - 1)) (fun s t => t.2.1 = s ∧ t.1 = sl s.toNat (fun s => sgv (W - 1).toNat s (lN (wyc W op (fs W H op s) (W * H) 0 0))) ∧ Fr [63, 64] M t.2.2) (fun r => r.1 = sl (p2 (W - 1)).toNat (fun s => sgv (W - 1).toNat s (lN (wyc W op (fs W H op s) (W * H) 0 0)))) (by
    rintro s ⟨u, s', M'⟩ s0 s1 ⟨g0, g1, g3⟩
    dsimp only at g0 g1 g3
    subst g0
    left
    obtain ⟨s, rfl⟩ : ∃ n : Nat, s' = n := ⟨s'.toNat, by omega⟩
    show ∃ s2, m_X12_sound_L4 M' u s = _ ∧ _
    have hyM := hy.fr g3 (by decide) (by decide)
    obtain ⟨M3, e3, h3⟩ := allows0_s hyM
    have f3 := fr_X12_allows e3
    have hy3 := hyM.fr f3 (by decide) (by decide)
    obtain ⟨z, M4, e4, h4, f4⟩ := cut_s hy3 s1 h3 (p1 := u)
    have hy4 := hy3.fr f4 (by decide) (by decide)
    obtain ⟨M5, e5, -, f5⟩ := countAll_s hy4 h4
    unfold m_X12_sound_L4
    have hpc : 0 ≤ pcs (W - 1).toNat s ∧ pcs (W - 1).toNat s ≤ 8 := by
      have key : ∀ J : Nat, 0 ≤ pcs J s ∧ pcs J s ≤ J := by
        intro J
        unfold pcs
        induction J with
        | zero => rw [sm_z]; omega
        | succ J ih => rw [sm_s]; omega
      have := key (W - 1).toNat
      omega
    rw [hyM.1, hb1.1, wr_id (x := p2 (W - 1)) (by omega) (by omega), wr_id (x := (s : Int)) (by omega) (by omega), if_neg (by omega), e3, bd1_q, e4, bd3_q, irm_p hpc.1 (by omega) (by omega) (by omega), wr_id (x := pcs (W - 1).toNat s % 2) (by omega) (by omega), e5, bd2_q, bd2_q]
    have es : sl ((s : Int) + 1).toNat (fun s => sgv (W - 1).toNat s (lN (wyc W op (fs W H op s) (W * H) 0 0))) = sl (s : Int).toNat (fun s => sgv (W - 1).toNat s (lN (wyc W op (fs W H op s) (W * H) 0 0))) + sgv (W - 1).toNat s (lN (wyc W op (fs W H op s) (W * H) 0 0)) := by
      rw [show ((s : Int) + 1).toNat = s + 1 by omega, Int.toNat_natCast]
      rfl
    have fA : Fr [63, 64] M M5 := ((g3.trans f3 (by decide)).trans f4 (by decide)).trans f5 (by decide)
    by_cases zz : pcs (W - 1).toNat s % 2 = 0
    · rw [if_pos zz, bd2_q]
      refine ⟨_, rfl, rfl, ?_, fA⟩
      dsimp only
      rw [es, g1]
      unfold sgv
      rw [if_pos zz]
    · rw [if_neg zz, bd2_q]
      refine ⟨_, rfl, rfl, ?_, fA⟩
      dsimp only
      rw [es, g1]
      unfold sgv
      rw [if_neg zz]) (by
    rintro ⟨u, s', M'⟩ ⟨g0, g1, g3⟩
    dsimp only at g0 g1 g3
    refine ⟨(u, s', M'), ?_, g1⟩
    show m_X12_sound_L4 M' u s' = _
    unfold m_X12_sound_L4
    rw [(hy.fr g3 (by decide) (by decide)).1, hb1.1, g0, if_pos (Int.le_refl _)]) (by omega) (by omega) (s0 := ((0 : Int64), 0, M)) ⟨rfl, rfl, Fr.rf⟩
  dsimp only at h1
  rw [e, bd3_q, h1]
  exact ⟨M2, rfl⟩
theorem op_sound {M : Mem} (hI : Inv M) : OpL (fun M => m_X11_sound M) (fun M => m_X12_sound M) M := by
  obtain ⟨W, H, op, wa, pr, hd, on, ts, tp, ln, sz, it, hA⟩ := hI
  have hA' := hA
  obtain ⟨hC, hR, hwf, hD, hS⟩ := hA'
  have hW := hwf.1.1
  obtain ⟨M1, e1, hD1⟩ := countSound_s hC.1.1 hD
  have f1 := fr_X0_countSound e1
  have hR1 := hR.fr f1 (by decide)
  obtain ⟨M2, e2⟩ := soundR_s hR1.1.1
  have f2 := fr_X12_sound e2
  have hS1 := hS.fr f1 (by decide) (by decide) (by decide) (by decide)
  refine ⟨lN (tL (tK H (opT W H op) (fT W H (stn W H op))) (W * H).toNat e00), M1, M2, ?_, ?_, W, H, op, wa, pr, hd, on, ts, tp, ln, sz, it, hA.sweep f1 (by decide) hD1 hS1 f2 (by decide)⟩
  · show m_X11_sound M = _
    unfold m_X11_sound
    rw [e1, bd2_q]
  · show m_X12_sound M1 = _
    rw [e2, sound_e hW]
