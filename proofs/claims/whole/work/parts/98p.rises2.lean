/-! heights: the reference's sweeps -/
theorem ris76_s {M0 : Mem} {W H : Int} {op : Int → Bool} {p : Int → Int} {ph : Int → Int → Int} {f0 s : Int} (hR : RC W H op p ph f0 s M0) {T0 T : Int → Prop} {flag : Int} {B : Prop} {y : Int} (y0 : 0 ≤ y) (y1 : y ≤ H) {M : Mem} (hV : HV ph f0 T M) (hS : SWP W H op T0 T flag B) (hF : Fr [73] M0 M) : ∃ flag' z M2 T', itr (fun t => m_X12_rises_L76 t.2.2 s y t.1 t.2.1) FU (flag, 0, M) = some (flag', z, M2) ∧ HV ph f0 T' M2 ∧ SWP W H op T0 T' flag' (B ∧ ∀ x, 0 ≤ x → x ≤ W → ∀ k, 0 ≤ k → k < 2 → Bal W H op p T0 x y k) ∧ Fr [73] M0 M2 := by
  have hy := hR.1
  have hW := hy.2.2.1
  obtain ⟨a1, a2, a3, a4⟩ := hW
  have hW := hy.2.2.1
  obtain ⟨⟨fl, z, M2⟩, e, T', g1, g2, g3⟩ := for_g (f := fun t => m_X12_rises_L76 t.2.2 s y t.1 t.2.1) 0 (W + 1) (fun x t => t.2.1 = x ∧ ∃ T, HV ph f0 T t.2.2 ∧ SWP W H op T0 T t.1 (B ∧ ∀ x', 0 ≤ x' → x' < x → ∀ k, 0 ≤ k → k < 2 → Bal W H op p T0 x' y k) ∧ Fr [73] M0 t.2.2) (fun r => ∃ T, HV ph f0 T r.2.2 ∧ SWP W H op T0 T r.1 (B ∧ ∀ x', 0 ≤ x' → x' ≤ W → ∀ k, 0 ≤ k → k < 2 → Bal W H op p T0 x' y k) ∧ Fr [73] M0 r.2.2) (by
    rintro x ⟨fl, x', M'⟩ x0 x1 ⟨g0, T, g1, g2, g3⟩
    dsimp only at g0 g1 g2 g3
    subst g0
    left
    show ∃ s2, m_X12_rises_L76 M' s y fl x' = _ ∧ _
    have hyM := hy.fr g3 (by decide) (by decide)
    unfold m_X12_rises_L76
    obtain ⟨fl', z, M4, T', e4, k1, k2, k3⟩ := ris88_s hR x0 (by omega) y0 y1 g1 g2 g3
    rw [hyM.1, wr_id (x := W) (by omega) (by omega), wr_id (x := x') (by omega) (by omega), if_neg (by omega), e4, bd3_q]
    refine ⟨_, rfl, rfl, T', k1, SWP_B k2 (fun q => ⟨q.1.1, fun u u0 u1 => ?_⟩), k3⟩
    by_cases w : u = x'
    · rw [w]; exact q.2
    · exact q.1.2 u u0 (by omega)) (by
    rintro ⟨fl, x', M'⟩ ⟨g0, T, g1, g2, g3⟩
    dsimp only at g0 g1 g2 g3
    have hyM := hy.fr g3 (by decide) (by decide)
    refine ⟨(fl, x', M'), ?_, T, g1, SWP_B g2 (fun q => ⟨q.1, fun u u0 u1 => q.2 u u0 (by omega)⟩), g3⟩
    show m_X12_rises_L76 M' s y fl x' = _
    unfold m_X12_rises_L76
    rw [hyM.1, g0, wr_id (x := W) (by omega) (by omega), wr_id (x := W + 1) (by omega) (by omega), if_pos (by omega)]) (by omega) (by omega) (s0 := (flag, 0, M)) ⟨rfl, T, hV, SWP_B hS (fun q => ⟨q, fun k k0 k1 => by omega⟩), hF⟩
  exact ⟨fl, z, M2, T', e, g1, g2, g3⟩
theorem ris64_s {M0 : Mem} {W H : Int} {op : Int → Bool} {p : Int → Int} {ph : Int → Int → Int} {f0 s : Int} (hR : RC W H op p ph f0 s M0) {T0 : Int → Prop} (hT : ∀ q, T0 q → CO W H op q) {M : Mem} (hV : HV ph f0 T0 M) (hF : Fr [73] M0 M) : ∃ flag' z M2 T', itr (fun t => m_X12_rises_L64 t.2.2 s t.1 t.2.1) FU (0, 0, M) = some (flag', z, M2) ∧ HV ph f0 T' M2 ∧ SWP W H op T0 T' flag' (∀ y, 0 ≤ y → y ≤ H → ∀ x, 0 ≤ x → x ≤ W → ∀ k, 0 ≤ k → k < 2 → Bal W H op p T0 x y k) ∧ Fr [73] M0 M2 := by
  have hy := hR.1
  have hW := hy.2.2.1
  obtain ⟨a1, a2, a3, a4⟩ := hW
  have hW := hy.2.2.1
  obtain ⟨⟨fl, z, M2⟩, e, T', g1, g2, g3⟩ := for_g (f := fun t => m_X12_rises_L64 t.2.2 s t.1 t.2.1) 0 (H + 1) (fun y t => t.2.1 = y ∧ ∃ T, HV ph f0 T t.2.2 ∧ SWP W H op T0 T t.1 (∀ y', 0 ≤ y' → y' < y → ∀ x, 0 ≤ x → x ≤ W → ∀ k, 0 ≤ k → k < 2 → Bal W H op p T0 x y' k) ∧ Fr [73] M0 t.2.2) (fun r => ∃ T, HV ph f0 T r.2.2 ∧ SWP W H op T0 T r.1 (∀ y', 0 ≤ y' → y' ≤ H → ∀ x, 0 ≤ x → x ≤ W → ∀ k, 0 ≤ k → k < 2 → Bal W H op p T0 x y' k) ∧ Fr [73] M0 r.2.2) (by
    rintro y ⟨fl, y', M'⟩ y0 y1 ⟨g0, T, g1, g2, g3⟩
    dsimp only at g0 g1 g2 g3
    subst g0
    left
    show ∃ s2, m_X12_rises_L64 M' s fl y' = _ ∧ _
    have hyM := hy.fr g3 (by decide) (by decide)
    unfold m_X12_rises_L64
    obtain ⟨fl', z, M4, T', e4, k1, k2, k3⟩ := ris76_s hR y0 (by omega) g1 g2 g3
    rw [hyM.2.1, wr_id (x := H) (by omega) (by omega), wr_id (x := y') (by omega) (by omega), if_neg (by omega), e4, bd3_q]
    refine ⟨_, rfl, rfl, T', k1, SWP_B k2 (fun q => fun u u0 u1 => ?_), k3⟩
    by_cases w : u = y'
    · rw [w]; exact q.2
    · exact q.1 u u0 (by omega)) (by
    rintro ⟨fl, y', M'⟩ ⟨g0, T, g1, g2, g3⟩
    dsimp only at g0 g1 g2 g3
    have hyM := hy.fr g3 (by decide) (by decide)
    refine ⟨(fl, y', M'), ?_, T, g1, SWP_B g2 (fun q => fun u u0 u1 => q u u0 (by omega)), g3⟩
    show m_X12_rises_L64 M' s fl y' = _
    unfold m_X12_rises_L64
    rw [hyM.2.1, g0, wr_id (x := H) (by omega) (by omega), wr_id (x := H + 1) (by omega) (by omega), if_pos (by omega)]) (by omega) (by omega) (s0 := (0, 0, M)) ⟨rfl, T0, hV, ⟨fun q h => h, hT, Or.inl ⟨rfl, fun q h => h, fun y' q0 q1 => by omega⟩⟩, hF⟩
  exact ⟨fl, z, M2, T', e, g1, g2, g3⟩
theorem rises_s {M : Mem} {W H : Int} {op : Int → Bool} {p : Int → Int} {ph : Int → Int → Int} {f0 s : Int} (hw : Who W H op) (hf : fcr W H op f0) (hR : RC W H op p ph f0 s M) : ∃ M2, m_X12_rises M s = some M2 ∧ ∀ q, 0 ≤ q → q < 81 → gI M2 73 q = if crn W H op (q % 9) (q / 9) = true then PQ ph q - PQ ph f0 else -1000 := by
  have hy := hR.1
  have hW := hy.2.2.1
  obtain ⟨a1, a2, a3, a4⟩ := hW
  have hW := hy.2.2.1
  have hp := hR.2.1
  obtain ⟨f00, f01, f02⟩ := hf.1
  unfold m_X12_rises
  obtain ⟨M1, e1, h1, f1⟩ := for_M (f := fun t => m_X12_rises_L2 t.2 s t.1) 0 81 (fun i M' => (∀ q, 0 ≤ q → q < i → gI M' 73 q = -1000) ∧ Fr [73] M M') (fun i M' i0 i1 hI => by
    show ∃ M2, m_X12_rises_L2 M' s i = _ ∧ _
    unfold m_X12_rises_L2
    rw [show wr 81 = 81 by decide, wr_id (x := i) (by omega) (by omega), if_neg (by omega), if_pos (by omega), lt_q]
    refine ⟨_, rfl, fun x x0 x1 => ?_, hI.2.sI (by decide) rfl⟩
    rw [gI_sI]
    by_cases z : x = i
    · rw [if_pos ⟨rfl, z⟩]
    · rw [if_neg (fun q => z q.2)]; exact hI.1 x x0 (by omega)) (fun M' hI => by
    show m_X12_rises_L2 M' s 81 = _
    unfold m_X12_rises_L2
    rw [if_pos (by decide)]) (by omega) (by omega) (M0 := M) ⟨fun x x0 x1 => by omega, Fr.rf⟩
  have hy1 := hy.fr f1 (by decide) (by decide)
  obtain ⟨y2, e2, h2⟩ := for_g (f := fun t => m_X12_rises_L25 M1 s t) 0 f0 (fun i t => t = i) (fun r => r = f0) (by
    rintro i t i0 i1 rfl
    left
    show ∃ s2, m_X12_rises_L25 M1 s t = _ ∧ _
    unfold m_X12_rises_L25
    rw [irm_p i0 (by omega) (by omega) (by omega), idv_p i0 (by omega) (by omega) (by omega), isCrnR_s hy1 (by omega) (by omega) (by omega) (by omega), bd1_q, hf.2 t i0 i1]
    simp only [wrb]
    rw [if_pos trivial]
    exact ⟨_, rfl, rfl⟩) (by
    rintro t rfl
    refine ⟨t, ?_, rfl⟩
    show m_X12_rises_L25 M1 s t = _
    unfold m_X12_rises_L25
    rw [irm_p f00 (by omega) (by omega) (by omega), idv_p f00 (by omega) (by omega) (by omega), isCrnR_s hy1 (by omega) (by omega) (by omega) (by omega), bd1_q, f02]
    simp only [wrb]
    rw [if_tf]) f00 (by omega) (s0 := (0 : Int)) rfl
  subst h2
  rw [e1, bd2_q, e2, bd1_q, wr_id (x := y2) (by omega) (by omega), if_pos ⟨f00, f01⟩, lt_q]
  have hV0 : HV ph y2 (fun q => q = y2) (sI M1 73 y2 0) := fun q q0 q1 => by
    rw [gI_sI]
    by_cases z : q = y2
    · rw [if_pos ⟨rfl, z⟩, if_pos (bp_t.mpr z), z]; omega
    · rw [if_neg (fun r => z r.2), if_neg (fun r => z (bp_t.mp r))]; exact h1 q q0 q1
  obtain ⟨⟨fl, M2⟩, e3, T, t1, t2, t3, t4⟩ := for_g (f := fun t => m_X12_rises_L55 t.2 s t.1) 0 82 (fun i t => ∃ T, HV ph y2 T t.2 ∧ T y2 ∧ (∀ q, T q → CO W H op q) ∧ ((t.1 = 0 ∧ ∀ y, 0 ≤ y → y ≤ H → ∀ x, 0 ≤ x → x ≤ W → ∀ k, 0 ≤ k → k < 2 → Bal W H op p T x y k) ∨ (t.1 = 1 ∧ i ≤ (cT T : Int))) ∧ Fr [73] M t.2) (fun r => ∃ T, HV ph y2 T r.2 ∧ T y2 ∧ (∀ q, T q → CO W H op q) ∧ ∀ y, 0 ≤ y → y ≤ H → ∀ x, 0 ≤ x → x ≤ W → ∀ k, 0 ≤ k → k < 2 → Bal W H op p T x y k) (by
    rintro i ⟨fl, M'⟩ i0 i1 ⟨T, g1, g2, g3, g4, g5⟩
    dsimp only at g1 g4 g5
    show (∃ s2, m_X12_rises_L55 M' s fl = _ ∧ _) ∨ (∃ r, m_X12_rises_L55 M' s fl = _ ∧ _)
    unfold m_X12_rises_L55
    rcases g4 with ⟨q1, q2⟩ | ⟨q1, q2⟩
    · right
      rw [q1, if_pos (by decide)]
      exact ⟨_, rfl, T, g1, g2, g3, q2⟩
    · left
      rw [q1, if_neg (by decide)]
      obtain ⟨fl', z, M4, T', e4, k1, ⟨m1, m2, m3⟩, k3⟩ := ris64_s hR g3 g1 g5
      rw [e4, bd3_q]
      refine ⟨_, rfl, T', k1, m1 _ g2, m2, ?_, k3⟩
      dsimp only
      rcases m3 with ⟨r1, r2, r3⟩ | ⟨r1, r2⟩
      · refine Or.inl ⟨r1, ?_⟩
        have : T' = T := funext (fun q => propext ⟨r2 q, m1 q⟩)
        rw [this]; exact r3
      · exact Or.inr ⟨r1, by omega⟩) (by
    rintro ⟨fl, M'⟩ ⟨T, g1, g2, g3, g4, g5⟩
    dsimp only at g1 g4 g5
    rcases g4 with ⟨q1, q2⟩ | ⟨q1, q2⟩
    · refine ⟨(fl, M'), ?_, T, g1, g2, g3, q2⟩
      show m_X12_rises_L55 M' s fl = _
      unfold m_X12_rises_L55
      rw [q1, if_pos (by decide)]
    · exfalso
      have : cT T ≤ 81 := by
        have := cn_le (P := fun q => bp (T q)) (Q := fun _ => true) 81 (fun _ _ _ _ => rfl)
        rw [cn_all] at this
        exact this
      omega) (by omega) (by omega) (s0 := (1, sI M1 73 y2 0)) ⟨fun q => q = y2, hV0, rfl, fun q h => by rw [h]; exact hf.1, Or.inr ⟨rfl, by omega⟩, f1.sI (by decide) rfl⟩
  rw [e3, bd2_q]
  refine ⟨M2, rfl, fun q q0 q1 => ?_⟩
  dsimp only at t1
  have hTc : T q ↔ crn W H op (q % 9) (q / 9) = true := by
    constructor
    · intro h; exact (t3 q h).2.2
    · intro hc
      have key := all_crn hW hw hp (C := fun x y => T (9 * y + x)) (fun x y hal => by
        have hr := alE_r hal
        have hs : stF W H op p x y 0 ≠ 0 := by
          show stE W H op p x y ≠ 0
          rcases stE_c (W := W) (H := H) (op := op) (p := p) (x := x) (y := y) with ⟨-, c⟩ | ⟨c, -⟩
          · exact absurd hal c
          · have := (sg1 x y).1; omega
        have := t4 y hr.2.2.1 hr.2.2.2.1 x hr.1 (by omega) 0 (by omega) (by omega) hs
        have e0 : cbs (9 * y + x) 0 = 9 * y + (x + 1) := by show 9 * y + x + 1 = _; omega
        rw [e0] at this
        exact this) (fun x y hal => by
        have hr := alS_r hal
        have hs : stF W H op p x y 1 ≠ 0 := by
          show stS W H op p x y ≠ 0
          rcases stS_c (W := W) (H := H) (op := op) (p := p) (x := x) (y := y) with ⟨-, c⟩ | ⟨c, -⟩
          · exact absurd hal c
          · have := (sg1 x y).2; omega
        have := t4 y hr.2.2.1 (by omega) x hr.1 hr.2.1 1 (by omega) (by omega) hs
        have e0 : cbs (9 * y + x) 1 = 9 * (y + 1) + x := by show 9 * y + x + 9 = _; omega
        rw [e0] at this
        exact this) f02 (by
        show T (9 * (y2 / 9) + y2 % 9)
        rw [show 9 * (y2 / 9) + y2 % 9 = y2 by omega]
        exact t2) (q % 9) (q / 9) hc
      have : T (9 * (q / 9) + q % 9) := key
      rw [show 9 * (q / 9) + q % 9 = q by omega] at this
      exact this
  rw [t1 q q0 q1]
  by_cases z : crn W H op (q % 9) (q / 9) = true
  · rw [if_pos z, if_pos (bp_t.mpr (hTc.mpr z))]
  · rw [if_neg z, if_neg (fun r => z (hTc.mp (bp_t.mp r)))]
