/-! yard, cell -/
theorem fill_s (M : Mem) (a : Nat) (v : Int) (n : Int) (hn : ((ly a).2 : Int) = n) (hn2 : n < 100000) : ∃ M2, m_J7_fill_53178 M a v = some M2 ∧ ∀ j, 0 ≤ j → j < n → gI M2 a j = v := by
  have h0 : (0 : Int) ≤ n := by omega
  obtain ⟨M2, e, h⟩ := for_M (f := fun s => m_J7_fill_53178_L5 s.2 a v ((ly a).2 : Int) s.1) 0 n (fun i M => ∀ j, 0 ≤ j → j < i → gI M a j = v) (fun i M h1 h2 hI => by
    show ∃ M2, m_J7_fill_53178_L5 M a v ((ly a).2 : Int) i = _ ∧ _
    unfold m_J7_fill_53178_L5
    rw [hn, wr_id (by omega) (by omega), wr_id (by omega) (by omega), if_neg (by omega), if_pos ⟨h1, h2⟩, lt_q]
    refine ⟨_, rfl, fun j q1 q2 => ?_⟩
    rw [gI_sI]
    by_cases e : j = i
    · rw [if_pos ⟨rfl, e⟩]
    · rw [if_neg (fun z => e z.2)]; exact hI j q1 (by omega)) (fun M hI => by
    show m_J7_fill_53178_L5 M a v ((ly a).2 : Int) n = _
    unfold m_J7_fill_53178_L5
    rw [hn, wr_id (by omega) (by omega), if_pos (by omega)]) h0 (by omega) (M0 := M) (fun j q1 q2 => by omega)
  refine ⟨M2, ?_, h⟩
  unfold m_J7_fill_53178
  rw [e, bd2_q]
theorem start_s (M : Mem) {W H : Int} (hW : WHr W H) : ∃ M2, m_X10_start M W H = some M2 ∧ YSc M2 W H (fun _ => true) (fun _ => 0) (fun _ => 0) := by
  unfold m_X10_start
  rw [lt_q, lt_q]
  have k0 : gI (sI (sI M 1 0 W) 1 1 H) 1 0 = W := by rw [gI_sI, if_neg (by simp), gI_sI, if_pos ⟨rfl, rfl⟩]
  have k1 : gI (sI (sI M 1 0 W) 1 1 H) 1 1 = H := by rw [gI_sI, if_pos ⟨rfl, rfl⟩]
  obtain ⟨M2, e2, h2⟩ := for_M (f := fun s => m_X10_start_L12 s.2 s.1) 0 64 (fun i M => (∀ j, 0 ≤ j → j < i → gI M 2 j = 1) ∧ gI M 1 0 = W ∧ gI M 1 1 = H) (fun i M h1 h2 hI => by
    show ∃ M2, m_X10_start_L12 M i = _ ∧ _
    unfold m_X10_start_L12
    rw [wr_id (x := 64) (by omega) (by omega), wr_id (by omega) (by omega), if_neg (by omega), if_pos ⟨h1, h2⟩, lt_q]
    refine ⟨_, rfl, fun j q1 q2 => ?_, by rw [gI_sI, if_neg (by simp)]; exact hI.2.1, by rw [gI_sI, if_neg (by simp)]; exact hI.2.2⟩
    rw [gI_sI]
    by_cases e : j = i
    · rw [if_pos ⟨rfl, e⟩]
    · rw [if_neg (fun z => e z.2)]; exact hI.1 j q1 (by omega)) (fun M hI => by
    show m_X10_start_L12 M 64 = _
    unfold m_X10_start_L12
    rw [if_pos (by decide)]) (by omega) (by omega) (M0 := sI (sI M 1 0 W) 1 1 H) ⟨fun j q1 q2 => by omega, k0, k1⟩
  obtain ⟨M3, e3, h3⟩ := fill_s M2 3 0 128 (by decide) (by decide)
  obtain ⟨M4, e4, h4⟩ := fill_s M3 4 0 128 (by decide) (by decide)
  have f3 := fr_J7_fill_53178 e3
  have f4 := fr_J7_fill_53178 e4
  rw [e2, bd2_q, e3, bd1_q, e4, bd1_q]
  refine ⟨M4, rfl, ⟨?_, ?_, hW, fun j a b => ?_⟩, fun b q1 q2 => ⟨?_, h4 b q1 q2⟩⟩
  · rw [fI f4 (by decide), fI f3 (by decide)]; exact h2.2.1
  · rw [fI f4 (by decide), fI f3 (by decide)]; exact h2.2.2
  · rw [fI f4 (by decide), fI f3 (by decide)]; exact h2.1 j a b
  · rw [fI f4 (by decide)]; exact h3 b q1 q2
theorem toNat_inj {a b : Int} (h1 : 0 ≤ a) (h2 : 0 ≤ b) (h : 39 + 2 * a.toNat = 39 + 2 * b.toNat) : a = b := by omega
theorem yardChanged_s (M : Mem) : ∃ M2, m_X11_yardChanged M = some M2 ∧ gI M2 8 5 = 0 ∧ gI M2 8 6 = 0 ∧ HDc M2 (fun _ => false) ∧ (∀ k j, dR M2 k j = dR M k j) := by
  unfold m_X11_yardChanged m_X7_forget
  rw [lt_q, lt_q, bd1_q]
  have k0 : gI (sI (sI M 8 5 0) 8 6 0) 8 5 = 0 := by rw [gI_sI, if_neg (by simp), gI_sI, if_pos ⟨rfl, rfl⟩]
  have k1 : gI (sI (sI M 8 5 0) 8 6 0) 8 6 = 0 := by rw [gI_sI, if_pos ⟨rfl, rfl⟩]
  obtain ⟨M2, e2, h2⟩ := for_M (f := fun s => m_X11_yardChanged_L9 s.2 s.1) 0 4 (fun i M' => (∀ s, 0 ≤ s → s < i → gI M' (39 + 2 * s.toNat) 0 = 0) ∧ gI M' 8 5 = 0 ∧ gI M' 8 6 = 0 ∧ (∀ k j, dR M' k j = dR M k j)) (fun i M' h1 h2 hI => by
    show ∃ M2, m_X11_yardChanged_L9 M' i = _ ∧ _
    unfold m_X11_yardChanged_L9
    rw [wr_id (x := 4) (by omega) (by omega), wr_id (by omega) (by omega), if_neg (by omega), if_pos ⟨h1, h2⟩, lt_q]
    refine ⟨_, rfl, fun j q1 q2 => ?_, by rw [gI_sI, if_neg (by omega)]; exact hI.2.1, by rw [gI_sI, if_neg (by omega)]; exact hI.2.2.1, hI.2.2.2⟩
    rw [gI_sI]
    by_cases e : j = i
    · rw [if_pos ⟨by rw [e], rfl⟩]
    · rw [if_neg (fun z => e (toNat_inj q1 h1 z.1))]; exact hI.1 j q1 (by omega)) (fun M hI => by
    show m_X11_yardChanged_L9 M 4 = _
    unfold m_X11_yardChanged_L9
    rw [if_pos (by decide)]) (by omega) (by omega) (M0 := sI (sI M 8 5 0) 8 6 0) ⟨fun j q1 q2 => by omega, k0, k1, fun _ _ => rfl⟩
  rw [e2, bd2_q]
  exact ⟨M2, rfl, h2.2.1, h2.2.2.1, fun s a b => h2.1 s a b, h2.2.2.2⟩
theorem startYard_s (M : Mem) {W H : Int} (hW : WHr W H) : ∃ M2, m_X11_startYard M W H = some M2 ∧ YSc M2 W H (fun _ => true) (fun _ => 0) (fun _ => 0) ∧ gI M2 8 5 = 0 ∧ gI M2 8 6 = 0 ∧ HDc M2 (fun _ => false) ∧ (∀ k j, k ≠ 1 → k ≠ 2 → k ≠ 3 → k ≠ 4 → dR M2 k j = dR M k j) := by
  obtain ⟨M2, e2, h2⟩ := start_s M hW
  obtain ⟨M3, e3, h3, h4, h5, h6⟩ := yardChanged_s M2
  unfold m_X11_startYard
  rw [e2, bd1_q, e3, bd1_q]
  refine ⟨M3, rfl, h2.fr (fr_X11_yardChanged e3) (by decide) (by decide) (by decide) (by decide), h3, h4, h5, fun k j a b c d => ?_⟩
  rw [h6, fR (fr_X10_start e2) (by simp [a, b, c, d])]
theorem emptySlots_s (M : Mem) : ∃ M2, m_X12_emptySlots M = some M2 ∧ HDr M2 (fun _ => false) := by
  unfold m_X12_emptySlots
  obtain ⟨M2, e2, h2⟩ := for_M (f := fun s => m_X12_emptySlots_L2 s.2 s.1) 0 4 (fun i M' => (∀ s, 0 ≤ s → s < i → gI M' 59 s = 0)) (fun i M' h1 h2 hI => by
    show ∃ M2, m_X12_emptySlots_L2 M' i = _ ∧ _
    unfold m_X12_emptySlots_L2
    rw [wr_id (x := 4) (by omega) (by omega), wr_id (by omega) (by omega), if_neg (by omega), if_pos ⟨h1, h2⟩, lt_q]
    refine ⟨_, rfl, fun j q1 q2 => ?_⟩
    rw [gI_sI]
    by_cases e : j = i
    · rw [if_pos ⟨rfl, e⟩]
    · rw [if_neg (fun z => e z.2)]; exact hI j q1 (by omega)) (fun M hI => by
    show m_X12_emptySlots_L2 M 4 = _
    unfold m_X12_emptySlots_L2
    rw [if_pos (by decide)]) (by omega) (by omega) (M0 := M) (fun j q1 q2 => by omega)
  rw [e2, bd2_q]
  exact ⟨M2, rfl, h2⟩
theorem begins_s (M : Mem) {W H : Int} (hW : WHr W H) : ∃ M2, m_X12_begins M W H = some M2 ∧ YSr M2 W H (fun _ => true) (fun _ => 0) (fun _ => 0) ∧ HDr M2 (fun _ => false) ∧ gI M2 55 8 = gI M 55 8 ∧ gI M2 55 9 = gI M 55 9 := by
  unfold m_X12_begins
  rw [lt_q, lt_q]
  have k0 : gI (sI (sI M 55 0 W) 55 1 H) 55 0 = W := by rw [gI_sI, if_neg (by simp), gI_sI, if_pos ⟨rfl, rfl⟩]
  have k1 : gI (sI (sI M 55 0 W) 55 1 H) 55 1 = H := by rw [gI_sI, if_pos ⟨rfl, rfl⟩]
  have k8 : gI (sI (sI M 55 0 W) 55 1 H) 55 8 = gI M 55 8 := by rw [gI_sI, if_neg (by simp), gI_sI, if_neg (by simp)]
  have k9 : gI (sI (sI M 55 0 W) 55 1 H) 55 9 = gI M 55 9 := by rw [gI_sI, if_neg (by simp), gI_sI, if_neg (by simp)]
  obtain ⟨M2, e2, h2⟩ := for_M (f := fun s => m_X12_begins_L12 s.2 s.1) 0 64 (fun i M' => (∀ j, 0 ≤ j → j < i → gI M' 56 j = 1) ∧ ∀ j, gI M' 55 j = gI (sI (sI M 55 0 W) 55 1 H) 55 j) (fun i M h1 h2 hI => by
    show ∃ M2, m_X12_begins_L12 M i = _ ∧ _
    unfold m_X12_begins_L12
    rw [wr_id (x := 64) (by omega) (by omega), wr_id (by omega) (by omega), if_neg (by omega), if_pos ⟨h1, h2⟩, lt_q]
    refine ⟨_, rfl, fun j q1 q2 => ?_, fun j => by rw [gI_sI, if_neg (by simp)]; exact hI.2 j⟩
    rw [gI_sI]
    by_cases e : j = i
    · rw [if_pos ⟨rfl, e⟩]
    · rw [if_neg (fun z => e z.2)]; exact hI.1 j q1 (by omega)) (fun M hI => by
    show m_X12_begins_L12 M 64 = _
    unfold m_X12_begins_L12
    rw [if_pos (by decide)]) (by omega) (by omega) (M0 := sI (sI M 55 0 W) 55 1 H) ⟨fun j q1 q2 => by omega, fun j => rfl⟩
  obtain ⟨M3, e3, h3⟩ := for_M (f := fun s => m_X12_begins_L33 s.2 s.1) 0 128 (fun i M' => (∀ j, 0 ≤ j → j < i → gI M' 57 j = 0 ∧ gI M' 58 j = 0) ∧ (∀ j, gI M' 55 j = gI M2 55 j) ∧ (∀ j, gI M' 56 j = gI M2 56 j)) (fun i M h1 h2 hI => by
    show ∃ M2, m_X12_begins_L33 M i = _ ∧ _
    unfold m_X12_begins_L33
    rw [wr_id (x := 128) (by omega) (by omega), wr_id (by omega) (by omega), if_neg (by omega), if_pos ⟨h1, h2⟩, lt_q, lt_q]
    refine ⟨_, rfl, fun j q1 q2 => ?_, fun j => by rw [gI_sI, if_neg (by simp), gI_sI, if_neg (by simp)]; exact hI.2.1 j, fun j => by rw [gI_sI, if_neg (by simp), gI_sI, if_neg (by simp)]; exact hI.2.2 j⟩
    rw [gI_sI, gI_sI, gI_sI, gI_sI]
    by_cases e : j = i
    · subst e; simp
    · simp [e]; exact hI.1 j q1 (by omega)) (fun M hI => by
    show m_X12_begins_L33 M 128 = _
    unfold m_X12_begins_L33
    rw [if_pos (by decide)]) (by omega) (by omega) (M0 := M2) ⟨fun j q1 q2 => by omega, fun j => rfl, fun j => rfl⟩
  obtain ⟨M4, e4, h4⟩ := emptySlots_s M3
  have f4 := fr_X12_emptySlots e4
  rw [e2, bd2_q, e3, bd2_q, e4, bd1_q]
  refine ⟨M4, rfl, ⟨⟨?_, ?_, hW, fun j a b => ?_⟩, fun b q1 q2 => ?_⟩, h4, ?_, ?_⟩
  · rw [fI f4 (by decide), h3.2.1, h2.2]; exact k0
  · rw [fI f4 (by decide), h3.2.1, h2.2]; exact k1
  · rw [fI f4 (by decide), h3.2.2]; exact h2.1 j a b
  · rw [fI f4 (by decide), fI f4 (by decide)]; exact h3.1 b q1 q2
  · rw [fI f4 (by decide), h3.2.1, h2.2]; exact k8
  · rw [fI f4 (by decide), h3.2.1, h2.2]; exact k9
theorem SLc.none {M : Mem} {W H : Int} {op : Int → Bool} {on : Int → Int → Int} (h : HDc M (fun _ => false)) : SLc M W H op (fun _ => false) on := ⟨h, fun s _ _ q => absurd q (by simp)⟩
theorem SLr.none {M : Mem} {W H : Int} {op : Int → Bool} {on : Int → Int → Int} (h : HDr M (fun _ => false)) : SLr M W H op (fun _ => false) on := ⟨h, fun s _ _ q => absurd q (by simp)⟩
theorem WFy.zero {W H : Int} (op : Int → Bool) (hW : WHr W H) : WFy W H op (fun _ => 0) (fun _ => 0) := ⟨hW, fun b _ _ => ⟨by simp, by simp, by simp, by simp, fun q => absurd rfl q⟩⟩
theorem WFs.none {W H : Int} {op : Int → Bool} {on : Int → Int → Int} : WFs W H op (fun _ => false) on := fun s _ _ q => absurd q (by simp)
theorem DRs.of {M M2 : Mem} (h : DRs M) (h1 : ∀ j, dR M2 8 j = dR M 8 j) (h2 : ∀ j, dR M2 14 j = dR M 14 j) : DRs M2 := by
  unfold DRs
  rw [h1, h1, h2, h2]
  exact h
theorem op_yard {M : Mem} (hI : Inv M) {a b : Int} (ha : -2147483648 ≤ a) (ha2 : a ≤ 2147483647) (hb : -2147483648 ≤ b) (hb2 : b ≤ 2147483647) : OpI (fun M => m_X11_yard M a b) (fun M => m_X12_yard M a b) M := by
  have hI' := hI
  obtain ⟨W, H, op, wa, pr, hd, on, ts, tp, ln, sz, it, hC, hR, hwf, hD, hS⟩ := hI'
  unfold OpI m_X11_yard m_X12_yard
  rw [l_1, l_8, in_s ha ha2 (by omega) (by omega) (by omega) (by omega), in_s hb hb2 (by omega) (by omega) (by omega) (by omega)]
  simp only [wr_id ha ha2, wr_id hb hb2, show wr 1 = 1 by decide, show wr 8 = 8 by decide, bd1_q, wrb]
  by_cases h : 1 ≤ a ∧ a ≤ 8 ∧ 1 ≤ b ∧ b ≤ 8
  · have hW : WHr a b := h
    obtain ⟨M1, e1, q1, q2, q3, q4, q5⟩ := startYard_s M hW
    obtain ⟨M2, e2, r1, r2, r3, r4⟩ := begins_s M1 hW
    have f1 := fr_X11_startYard e1
    have f2 := fr_X12_begins e2
    refine ⟨a * b, M1, M2, ?_, ?_, a, b, fun _ => true, fun _ => 0, fun _ => 0, fun _ => false, on, ts, tp, ln, sz, it, ⟨q1.fr f2 (by decide) (by decide) (by decide) (by decide), (SLc.none q4).fr f2 (by unfold kp; intro k; simp; omega), (hC.2.2.1.fr f1 (by decide) (by decide)).fr f2 (by decide) (by decide), (hC.2.2.2.fr f1 (by unfold kp; intro k; simp; omega)).fr f2 (by unfold kp; intro k; simp; omega)⟩, ⟨r1, SLr.none r2, ⟨?_, ?_⟩, (hR.2.2.2.fr f1 (by decide) (by decide) (by decide)).fr f2 (by decide) (by decide) (by decide)⟩, ⟨WFy.zero _ hW, WFs.none, hwf.2.2⟩, (hD.of (fun j => q5 8 j (by decide) (by decide) (by decide) (by decide)) (fun j => q5 14 j (by decide) (by decide) (by decide) (by decide))).fr f2 (by decide) (by decide), (SwC.zero _ _ _ _ _ q2 q3).fr f2 (by decide) (by decide) (by decide) (by decide)⟩
    · rw [if_neg (by omega), if_neg (by omega), if_neg (by omega), if_pos (by omega), e1, bd1_q]
      unfold m_X10_cells
      rw [q1.1.1, q1.1.2.1]
    · rw [if_neg (by simp; omega), if_neg (by simp; omega), e2, bd1_q, r1.1.1, r1.1.2.1]
    · rw [r3, fI f1 (by decide)]; exact hR.2.2.1.1
    · intro k x y
      rw [fI f2 (by decide), fI f1 (by decide)]; exact hR.2.2.1.2 k x y
  · refine ⟨-1, M, M, ?_, ?_, hI⟩
    · by_cases c1 : a < 1
      · rw [if_pos c1]
      rw [if_neg c1]
      by_cases c2 : 8 < a
      · rw [if_pos c2]
      rw [if_neg c2]
      by_cases c3 : b < 1
      · rw [if_pos c3]
      rw [if_neg c3, if_neg (by omega)]
    · by_cases c1 : 1 ≤ a ∧ a ≤ 8
      · rw [if_neg (by simpa using c1), if_pos (by simp; omega)]
      · rw [if_pos (by simpa using c1)]
