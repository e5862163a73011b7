/-! slots: brick, keep, cost; count -/
theorem if_tf {α : Type} (a b : α) : (if true = false then a else b) = b := if_neg (by decide)
theorem if_ff {α : Type} (a b : α) : (if false = false then a else b) = a := if_pos rfl
theorem isSlot_s {a : Int} (ha : -2147483648 ≤ a) (ha2 : a ≤ 2147483647) : m_X11_isSlot a = some (decide (0 ≤ a ∧ a < 4)) := by
  unfold m_X11_isSlot
  rw [wr_id ha ha2, show wr 4 = 4 by decide, lt_q]
  by_cases c1 : a < 0
  · rw [if_pos c1, decide_eq_false (p := 0 ≤ a ∧ a < 4) (by omega)]; rfl
  rw [if_neg c1]
  by_cases c2 : 4 ≤ a
  · rw [if_pos c2, decide_eq_false (p := 0 ≤ a ∧ a < 4) (by omega)]; rfl
  · rw [if_neg c2, decide_eq_true (p := 0 ≤ a ∧ a < 4) (by omega)]; rfl
theorem isSheet_s {a : Int} (ha : -2147483648 ≤ a) (ha2 : a ≤ 2147483647) : m_X11_isSheet a = some (decide (0 ≤ a ∧ a < 4)) := isSlot_s ha ha2
theorem isLane_s {a : Int} (ha : -2147483648 ≤ a) (ha2 : a ≤ 2147483647) : m_X11_isLane a = some (decide (0 ≤ a ∧ a < 3)) := by
  unfold m_X11_isLane
  rw [wr_id ha ha2, show wr 2 = 2 by decide, lt_q]
  by_cases c1 : a < 0
  · rw [if_pos c1, decide_eq_false (p := 0 ≤ a ∧ a < 3) (by omega)]; rfl
  rw [if_neg c1]
  by_cases c2 : 2 < a
  · rw [if_pos c2, decide_eq_false (p := 0 ≤ a ∧ a < 3) (by omega)]; rfl
  · rw [if_neg c2, decide_eq_true (p := 0 ≤ a ∧ a < 3) (by omega)]; rfl
theorem isSlotR_s {a : Int} (ha : -2147483648 ≤ a) (ha2 : a ≤ 2147483647) : m_X12_isSlot a = some (decide (0 ≤ a ∧ a < 4)) := by
  unfold m_X12_isSlot
  rw [l_0, l_3, in_s ha ha2 (by omega) (by omega) (by omega) (by omega), bd1_q]
  congr 1
  exact decide_eq_decide.mpr (by omega)
theorem isSheetR_s {a : Int} (ha : -2147483648 ≤ a) (ha2 : a ≤ 2147483647) : m_X12_isSheet a = some (decide (0 ≤ a ∧ a < 4)) := isSlotR_s ha ha2
theorem isLaneR_s {a : Int} (ha : -2147483648 ≤ a) (ha2 : a ≤ 2147483647) : m_X12_isLane a = some (decide (0 ≤ a ∧ a < 3)) := by
  unfold m_X12_isLane
  rw [l_0, l_2, in_s ha ha2 (by omega) (by omega) (by omega) (by omega), bd1_q]
  congr 1
  exact decide_eq_decide.mpr (by omega)
def sfl (hd : Int → Bool) (a b : Int) : Int := if 0 ≤ a ∧ a < 4 ∧ 0 ≤ b ∧ b < 4 then (if hd a = true ∧ hd b = true then 0 else -4) else -1
theorem slotsFault_s {M : Mem} {hd : Int → Bool} (h : HDc M hd) {a b : Int} (ha : -2147483648 ≤ a) (ha2 : a ≤ 2147483647) (hb : -2147483648 ≤ b) (hb2 : b ≤ 2147483647) : m_X11_slotsFault M a b = some (sfl hd a b) := by
  unfold m_X11_slotsFault sfl
  rw [isSlot_s ha ha2, isSlot_s hb hb2, bd1_q, bd1_q, wr_id ha ha2, wr_id hb hb2]
  simp only [wrb]
  by_cases c1 : 0 ≤ a ∧ a < 4
  · rw [decide_eq_true c1, if_neg (by simp), if_pos c1]
    by_cases c2 : 0 ≤ b ∧ b < 4
    · rw [decide_eq_true c2, if_neg (by simp), if_pos c2, h a c1.1 c1.2, h b c2.1 c2.2, wr_bI, wr_bI, if_pos (c := 0 ≤ a ∧ a < 4 ∧ 0 ≤ b ∧ b < 4) (by omega)]
      cases hd a <;> cases hd b <;> rfl
    · rw [decide_eq_false c2, if_pos rfl, if_neg (by omega)]
  · rw [decide_eq_false c1, if_pos rfl, if_neg (by omega)]
theorem refusesBoth_s {M : Mem} {hd : Int → Bool} (h : HDr M hd) {a b : Int} (ha : -2147483648 ≤ a) (ha2 : a ≤ 2147483647) (hb : -2147483648 ≤ b) (hb2 : b ≤ 2147483647) : m_X12_refusesBoth M a b = some (sfl hd a b) := by
  unfold m_X12_refusesBoth sfl
  rw [isSlotR_s ha ha2, isSlotR_s hb hb2, bd1_q, bd1_q, wr_id ha ha2, wr_id hb hb2]
  simp only [wrb]
  by_cases c1 : 0 ≤ a ∧ a < 4
  · rw [decide_eq_true c1, if_neg (by simp), if_pos c1]
    by_cases c2 : 0 ≤ b ∧ b < 4
    · rw [decide_eq_true c2, if_neg (by simp), if_pos c2, h a c1.1 c1.2, h b c2.1 c2.2, wr_bI, wr_bI, if_pos (c := 0 ≤ a ∧ a < 4 ∧ 0 ≤ b ∧ b < 4) (by omega)]
      cases hd a <;> cases hd b <;> rfl
    · rw [decide_eq_false c2, if_pos rfl, if_neg (by omega)]
  · rw [decide_eq_false c1, if_pos rfl, if_neg (by omega)]
theorem slotFault_s {M : Mem} {hd : Int → Bool} (h : HDc M hd) {a : Int} (ha : -2147483648 ≤ a) (ha2 : a ≤ 2147483647) : m_X11_slotFault M a = some (sfl hd a a) := by
  unfold m_X11_slotFault
  rw [slotsFault_s h ha ha2 ha ha2, bd1_q]
theorem sfl_c {hd : Int → Bool} {a b : Int} : (sfl hd a b = -1 ∧ ¬ (0 ≤ a ∧ a < 4 ∧ 0 ≤ b ∧ b < 4)) ∨ (sfl hd a b = -4 ∧ (0 ≤ a ∧ a < 4 ∧ 0 ≤ b ∧ b < 4) ∧ ¬ (hd a = true ∧ hd b = true)) ∨ (sfl hd a b = 0 ∧ (0 ≤ a ∧ a < 4 ∧ 0 ≤ b ∧ b < 4) ∧ hd a = true ∧ hd b = true) := by
  unfold sfl
  by_cases c : 0 ≤ a ∧ a < 4 ∧ 0 ≤ b ∧ b < 4
  · rw [if_pos c]
    by_cases d : hd a = true ∧ hd b = true
    · rw [if_pos d]; exact Or.inr (Or.inr ⟨rfl, c, d⟩)
    · rw [if_neg d]; exact Or.inr (Or.inl ⟨rfl, c, d⟩)
  · rw [if_neg c]; exact Or.inl ⟨rfl, c⟩
theorem op_brick {M : Mem} (hI : Inv M) {a c : Int} (ha : -2147483648 ≤ a) (ha2 : a ≤ 2147483647) (hc : -2147483648 ≤ c) (hc2 : c ≤ 2147483647) : ∃ r, m_X11_brick M a c = some r ∧ m_X12_brick M a c = some r := by
  obtain ⟨W, H, op, wa, pr, hd, on, ts, tp, ln, sz, it, hC, hR, hwf, hD, hS⟩ := hI
  have hW := hC.1.1.2.2.1
  have h8 := WH_le hW
  unfold m_X11_brick m_X12_brick
  rw [isSlot_s ha ha2, isSlotR_s ha ha2, isOpen_s hC.1.1 hc hc2, isCellR_s hR.1.1 hc hc2, bd1_q, bd1_q, bd1_q, bd1_q, wr_id ha ha2, wr_id hc hc2]
  simp only [wrb]
  by_cases c1 : 0 ≤ a ∧ a < 4
  · rw [decide_eq_true c1, if_tf, if_tf, if_pos c1, if_pos c1]
    unfold iso isc
    by_cases c2 : 0 ≤ c ∧ c < W * H
    · rw [decide_eq_true c2, if_tf, if_pos (c := 0 ≤ c ∧ c < 64) (by omega), if_pos (c := 0 ≤ c ∧ c < 64) (by omega), hR.1.1.2.2.2 c c2.1 (by omega)]
      simp only [wrb, Bool.true_and]
      cases ho : op c
      · exact ⟨-1, rfl, rfl⟩
      · rw [if_tf, if_tf, hC.2.1.1 a c1.1 c1.2, hR.2.1.1 a c1.1 c1.2]
        simp only [wrb]
        have hi : iso W H op c = true := iso_t.mpr ⟨c2, ho⟩
        cases hh : hd a
        · exact ⟨-4, rfl, rfl⟩
        · rw [if_tf, if_tf, wr_id (x := 64 * a + c) (by omega) (by omega), if_pos (c := 0 ≤ 64 * a + c ∧ 64 * a + c < 256) (by omega), hC.2.1.2 a c1.1 c1.2 hh c hi, hR.2.1.2 a c1.1 c1.2 hh c hi]
          exact ⟨_, rfl, rfl⟩
    · rw [decide_eq_false c2]
      exact ⟨-1, rfl, rfl⟩
  · rw [decide_eq_false c1]
    exact ⟨-1, rfl, rfl⟩
def cst (W H : Int) (op : Int → Bool) (pr p : Int → Int) : Int := sI' (W * H) (fun c => if op c = true ∧ p c / 2 = c then pr (p c) else 0)
theorem op_cost {M : Mem} (hI : Inv M) {a : Int} (ha : -2147483648 ≤ a) (ha2 : a ≤ 2147483647) : ∃ r, m_X11_cost M a = some r ∧ m_X12_cost M a = some r := by
  obtain ⟨W, H, op, wa, pr, hd, on, ts, tp, ln, sz, it, hC, hR, hwf, hD, hS⟩ := hI
  have hW := hC.1.1.2.2.1
  have h8 := WH_le hW
  unfold m_X11_cost m_X12_cost
  rw [slotFault_s hC.2.1.1 ha ha2, isSlotR_s ha ha2, bd1_q, bd1_q, wr_id ha ha2]
  simp only [wrb]
  rcases sfl_c (hd := hd) (a := a) (b := a) with ⟨e, c⟩ | ⟨e, c, d⟩ | ⟨e, c, d, -⟩
  · rw [e, decide_eq_false (by omega)]
    exact ⟨-1, rfl, rfl⟩
  · rw [e, decide_eq_true (by omega), if_tf, if_pos (c := 0 ≤ a ∧ a < 4) (by omega), if_pos (c := 0 ≤ a ∧ a < 4) (by omega), hR.2.1.1 a c.1 c.2.1]
    simp only [wrb]
    rw [if_pos (c := hd a = false) (by simpa using d)]
    exact ⟨-4, rfl, rfl⟩
  · rw [e, decide_eq_true (by omega), if_tf, if_pos (c := 0 ≤ a ∧ a < 4) (by omega), if_pos (c := 0 ≤ a ∧ a < 4) (by omega), hR.2.1.1 a c.1 c.2.1]
    simp only [wrb]
    rw [if_neg (c := hd a = false) (by simp [d]), show wr 0 = 0 by decide, if_pos (by decide)]
    have hon := hC.2.1.2 a c.1 c.2.1 d
    have honr := hR.2.1.2 a c.1 c.2.1 d
    have hp := hwf.2.1 a c.1 c.2.1 d
    refine ⟨cst W H op pr (on a), ?_, ?_⟩
    · unfold m_X3_sumOfPrices
      rw [for_S (W * H) (fun c => if op c = true ∧ on a c / 2 = c then pr (on a c) else 0) ?_ ?_ (by omega) (by omega), bd2_q, bd1_q, bd1_q]
      · rfl
      · intro i s i0 i1
        show m_X3_sumOfPrices_L4 M _ s i = _
        unfold m_X3_sumOfPrices_L4 m_X10_cells m_X3_startsAt
        rw [hC.1.1.1, hC.1.1.2.1, wr_id (x := W * H) (by omega) (by omega), wr_id (x := i) (by omega) (by omega), if_neg (by omega), if_pos (c := 0 ≤ i ∧ i < 64) (by omega), hC.1.1.2.2.2 i i0 (by omega), lt_q]
        simp only [wrb]
        cases ho : op i
        · simp [bd1_q, bI]
        · have hi : iso W H op i = true := iso_t.mpr ⟨⟨i0, i1⟩, ho⟩
          obtain ⟨p1, p2, p3, p4⟩ := hp i hi
          obtain ⟨s1, s2, -⟩ := stn_t hW p1
          rw [if_tf, hon i hi, idv_p s1 (by omega) (by omega) (by omega), wr_id (x := on a i / 2) (by omega) (by omega)]
          by_cases q : on a i / 2 = i
          · rw [if_pos q, if_pos (by decide), bd1_q, if_neg (by decide), if_pos (c := 0 ≤ i ∧ i < 64) (by omega), wr_id (x := on a i) (by omega) (by omega), if_pos (c := 0 ≤ on a i ∧ on a i < 128) (by omega), (hC.1.2 (on a i) s1 (by omega)).2, bd1_q, if_pos ⟨rfl, q⟩]
          · rw [if_neg q, if_pos (by decide), bd1_q, if_pos (by decide), bd1_q, if_neg (fun z => q z.2), Int.add_zero]
      · intro s
        show m_X3_sumOfPrices_L4 M _ s (W * H) = _
        unfold m_X3_sumOfPrices_L4 m_X10_cells
        rw [hC.1.1.1, hC.1.1.2.1, if_pos (by omega)]
    · rw [for_S (W * H) (fun c => if op c = true ∧ on a c / 2 = c then pr (on a c) else 0) ?_ ?_ (by omega) (by omega), bd2_q]
      · rfl
      · intro i s i0 i1
        show m_X12_cost_L25 M a s i = _
        unfold m_X12_cost_L25
        rw [hR.1.1.1, hR.1.1.2.1, wr_id (x := W * H) (by omega) (by omega), wr_id (x := i) (by omega) (by omega), if_neg (by omega), wr_id (x := 64 * a + i) (by omega) (by omega), if_pos (c := 0 ≤ 64 * a + i ∧ 64 * a + i < 256) (by omega), if_pos (c := 0 ≤ i ∧ i < 64) (by omega), hR.1.1.2.2.2 i i0 (by omega)]
        simp only [wrb]
        cases ho : op i
        · simp [bd1_q]
        · have hi : iso W H op i = true := iso_t.mpr ⟨⟨i0, i1⟩, ho⟩
          obtain ⟨p1, p2, p3, p4⟩ := hp i hi
          obtain ⟨s1, s2, -⟩ := stn_t hW p1
          rw [if_tf, honr i hi, idv_p s1 (by omega) (by omega) (by omega), wr_id (x := on a i / 2) (by omega) (by omega)]
          by_cases q : on a i / 2 = i
          · rw [if_pos q, wr_id (x := on a i) (by omega) (by omega), if_pos (c := 0 ≤ on a i ∧ on a i < 128) (by omega), (hR.1.2 (on a i) s1 (by omega)).2, bd1_q, if_pos ⟨rfl, q⟩]
          · rw [if_neg q, bd1_q, if_neg (fun z => q z.2)]
      · intro s
        show m_X12_cost_L25 M a s (W * H) = _
        unfold m_X12_cost_L25
        rw [hR.1.1.1, hR.1.1.2.1, if_pos (by omega)]
theorem SLc.upd {M M2 : Mem} {W H : Int} {op : Int → Bool} {hd : Int → Bool} {on : Int → Int → Int} (h : SLc M W H op hd on) {s : Int} (h0 : 0 ≤ s) (h1 : s < 4) {p : Int → Int} {v : Bool} (hF : Fr [39 + 2 * s.toNat + 1, 39 + 2 * s.toNat] M M2) (hh : gI M2 (39 + 2 * s.toNat) 0 = bI v) (hp : v = true → ONc M2 W H op s p) : SLc M2 W H op (fun j => if j = s then v else hd j) (fun j => if j = s then p else on j) := by
  refine ⟨fun j a b => ?_, fun j a b c => ?_⟩
  · dsimp only
    by_cases e : j = s
    · rw [if_pos e, e]; exact hh
    · rw [if_neg e, fI hF (by simp; omega)]; exact h.1 j a b
  · dsimp only at c ⊢
    by_cases e : j = s
    · rw [if_pos e] at c ⊢; rw [e]; exact hp c
    · rw [if_neg e] at c ⊢
      intro d hd'
      rw [fI hF (by simp; omega)]; exact h.2 j a b c d hd'
theorem SLr.upd {M M2 : Mem} {W H : Int} {op : Int → Bool} {hd : Int → Bool} {on : Int → Int → Int} (hW : WHr W H) (h : SLr M W H op hd on) {s : Int} (h0 : 0 ≤ s) (h1 : s < 4) {p : Int → Int} {v : Bool} (hf : ∀ j, 0 ≤ j → j < 4 → j ≠ s → gI M2 59 j = gI M 59 j) (hf2 : ∀ j, ¬ (64 * s ≤ j ∧ j < 64 * s + 64) → gI M2 60 j = gI M 60 j) (hh : gI M2 59 s = bI v) (hp : v = true → ONr M2 W H op s p) : SLr M2 W H op (fun j => if j = s then v else hd j) (fun j => if j = s then p else on j) := by
  have h8 := WH_le hW
  refine ⟨fun j a b => ?_, fun j a b c => ?_⟩
  · dsimp only
    by_cases e : j = s
    · rw [if_pos e, e]; exact hh
    · rw [if_neg e, hf j a b e]; exact h.1 j a b
  · dsimp only at c ⊢
    by_cases e : j = s
    · rw [if_pos e] at c ⊢; rw [e]; exact hp c
    · rw [if_neg e] at c ⊢
      intro d hd'
      have := (iso_t.mp hd').1
      rw [hf2 _ (by omega)]; exact h.2 j a b c d hd'
theorem WFs.upd {W H : Int} {op : Int → Bool} {hd : Int → Bool} {on : Int → Int → Int} (h : WFs W H op hd on) {s : Int} {p : Int → Int} {v : Bool} (hp : v = true → Pav W H op p) : WFs W H op (fun j => if j = s then v else hd j) (fun j => if j = s then p else on j) := by
  intro j a b c
  dsimp only at c ⊢
  by_cases e : j = s
  · rw [if_pos e] at c ⊢; exact hp c
  · rw [if_neg e] at c ⊢; exact h j a b c
/-- one slot has changed on both sides, nothing else of the state -/
theorem ALL.slot {M M1 M2 : Mem} {W H : Int} {op : Int → Bool} {wa pr : Int → Int} {hd : Int → Bool} {on : Int → Int → Int} {ts : Int} {tp : Int → Int} {ln sz : Int → Int} {it : Int → Int → Int} (h : ALL M W H op wa pr hd on ts tp ln sz it) {s : Int} (h0 : 0 ≤ s) (h1 : s < 4) {p : Int → Int} {v : Bool} (hF : Fr [39 + 2 * s.toNat + 1, 39 + 2 * s.toNat] M M1) (hh : gI M1 (39 + 2 * s.toNat) 0 = bI v) (hpc : v = true → ONc M1 W H op s p) {ks : List Nat} (hF2 : Fr ks M1 M2) (hk : ks.all (fun k => (59 :: 60 :: rtmp).contains k) = true) (hf : ∀ j, 0 ≤ j → j < 4 → j ≠ s → gI M2 59 j = gI M1 59 j) (hf2 : ∀ j, ¬ (64 * s ≤ j ∧ j < 64 * s + 64) → gI M2 60 j = gI M1 60 j) (hh2 : gI M2 59 s = bI v) (hpr : v = true → ONr M2 W H op s p) (hp : v = true → Pav W H op p) : ALL M2 W H op wa pr (fun j => if j = s then v else hd j) (fun j => if j = s then p else on j) ts tp ln sz it := by
  obtain ⟨hC, hR, hwf, hD, hS⟩ := h
  have hn : ∀ k, k < 39 ∨ 46 < k → k ∉ [39 + 2 * s.toNat + 1, 39 + 2 * s.toNat] := by intro k hk; simp; omega
  refine ⟨⟨?_, ?_, ?_, ?_⟩, ⟨?_, ?_, ?_, ?_⟩, ⟨hwf.1, hwf.2.1.upd hp, hwf.2.2⟩, ?_, ?_⟩
  · exact (hC.1.fr hF (hn _ (by omega)) (hn _ (by omega)) (hn _ (by omega)) (hn _ (by omega))).fr hF2 (notin hk (by decide)) (notin hk (by decide)) (notin hk (by decide)) (notin hk (by decide))
  · exact (hC.2.1.upd h0 h1 hF hh hpc).fr hF2 (kp_of hk (by decide))
  · exact (hC.2.2.1.fr hF (hn _ (by omega)) (hn _ (by omega))).fr hF2 (notin hk (by decide)) (notin hk (by decide))
  · exact (hC.2.2.2.fr hF (fun k a b => hn k (by omega))).fr hF2 (kp_of hk (by decide))
  · exact (hR.1.fr hF (hn _ (by omega)) (hn _ (by omega)) (hn _ (by omega)) (hn _ (by omega))).fr hF2 (notin hk (by decide)) (notin hk (by decide)) (notin hk (by decide)) (notin hk (by decide))
  · exact (hR.2.1.fr hF (hn _ (by omega)) (hn _ (by omega))).upd hR.1.1.2.2.1 h0 h1 hf hf2 hh2 hpr
  · exact (hR.2.2.1.fr hF (hn _ (by omega)) (hn _ (by omega))).fr hF2 (notin hk (by decide)) (notin hk (by decide))
  · exact (hR.2.2.2.fr hF (hn _ (by omega)) (hn _ (by omega)) (hn _ (by omega))).fr hF2 (notin hk (by decide)) (notin hk (by decide)) (notin hk (by decide))
  · exact (hD.fr hF (hn _ (by omega)) (hn _ (by omega))).fr hF2 (notin hk (by decide)) (notin hk (by decide))
  · exact (hS.fr hF (hn _ (by omega)) (hn _ (by omega)) (hn _ (by omega)) (hn _ (by omega))).fr hF2 (notin hk (by decide)) (notin hk (by decide)) (notin hk (by decide)) (notin hk (by decide))
theorem op_keep {M : Mem} (hI : Inv M) {a b : Int} (ha : -2147483648 ≤ a) (ha2 : a ≤ 2147483647) (hb : -2147483648 ≤ b) (hb2 : b ≤ 2147483647) : OpI (fun M => m_X11_keep M a b) (fun M => m_X12_keep M a b) M := by
  have hI' := hI
  obtain ⟨W, H, op, wa, pr, hd, on, ts, tp, ln, sz, it, hA⟩ := hI'
  have hA' := hA
  obtain ⟨hC, hR, hwf, hD, hS⟩ := hA'
  have hW := hC.1.1.2.2.1
  have h8 := WH_le hW
  unfold OpI m_X11_keep m_X12_keep
  dsimp only
  rw [isSlot_s ha ha2, isSlot_s hb hb2, isSlotR_s ha ha2, isSlotR_s hb hb2, bd1_q, bd1_q, wr_id ha ha2, wr_id hb hb2]
  simp only [wrb, bd1_q]
  by_cases c1 : 0 ≤ a ∧ a < 4
  · by_cases c2 : 0 ≤ b ∧ b < 4
    · rw [decide_eq_true c1, decide_eq_true c2, if_tf, if_tf, if_pos c1, if_pos c2, hC.2.1.1 a c1.1 c1.2]
      simp only [if_tf, if_pos c1, if_pos c2, wrb]
      cases hh : hd a
      · refine ⟨-4, M, M, rfl, ?_, hI⟩
        rw [hR.2.1.1 a c1.1 c1.2, hh]
        rfl
      · obtain ⟨M1, e1, f1, g1, g2⟩ : ∃ M1, m_X3_take M (39 + 2 * b.toNat) (39 + 2 * a.toNat) = some M1 ∧ Fr [39 + 2 * b.toNat + 1, 39 + 2 * b.toNat] M M1 ∧ gI M1 (39 + 2 * b.toNat) 0 = 1 ∧ ∀ j, 0 ≤ j → j < 64 → gI M1 (39 + 2 * b.toNat + 1) j = gI M (39 + 2 * a.toNat + 1) j := by
          have e : ∃ M1, m_X3_take M (39 + 2 * b.toNat) (39 + 2 * a.toNat) = some M1 ∧ gI M1 (39 + 2 * b.toNat) 0 = 1 ∧ ∀ j, 0 ≤ j → j < 64 → gI M1 (39 + 2 * b.toNat + 1) j = gI M (39 + 2 * a.toNat + 1) j := by
            unfold m_X3_take
            rw [lt_q, if_pos (by decide), lt_q, show wr 0 = 0 by decide, show wr 64 = 64 by decide]
            refine ⟨_, rfl, ?_, fun j j0 j1 => ?_⟩
            · rw [gI_cpI, if_neg (by omega), gI_sI, if_pos ⟨rfl, rfl⟩]
            · rw [gI_cpI, if_pos ⟨rfl, by omega, by omega⟩, gI_sI, if_neg (by omega), show 0 + (j - 0) = j by omega]
          obtain ⟨M1, e1, q⟩ := e
          exact ⟨M1, e1, fr_X3_take e1, q⟩
        have hr1 : HDr M1 hd := fun s x y => (fI f1 (by simp; omega) s).trans (hR.2.1.1 s x y)
        obtain ⟨M2, e2, q2⟩ := for_M (f := fun s => m_X12_keep_L30 s.2 a b s.1) 0 64 (fun i M' => (∀ j, 0 ≤ j → j < 64 → gI M' 60 (64 * a + j) = gI M1 60 (64 * a + j)) ∧ (∀ j, 0 ≤ j → j < i → gI M' 60 (64 * b + j) = gI M1 60 (64 * a + j)) ∧ (∀ j, ¬ (64 * b ≤ j ∧ j < 64 * b + 64) → gI M' 60 j = gI M1 60 j) ∧ Fr [60] M1 M') (fun i M' h1 h2 hI => by
          show ∃ M2, m_X12_keep_L30 M' a b i = _ ∧ _
          unfold m_X12_keep_L30
          rw [show wr 64 = 64 by decide, wr_id (x := i) (by omega) (by omega), if_neg (by omega), wr_id (x := 64 * a + i) (by omega) (by omega), wr_id (x := 64 * b + i) (by omega) (by omega), if_pos (by omega), if_pos (by omega), lt_q, hI.1 i h1 h2]
          refine ⟨_, rfl, fun j x y => ?_, fun j x y => ?_, fun j x => ?_, hI.2.2.2.sI (by decide) rfl⟩
          · rw [gI_sI]
            by_cases e : 64 * a + j = 64 * b + i
            · rw [if_pos ⟨rfl, e⟩, show j = i by omega]
            · rw [if_neg (fun z => e z.2)]; exact hI.1 j x y
          · rw [gI_sI]
            by_cases e : j = i
            · rw [if_pos ⟨rfl, by rw [e]⟩, e]
            · rw [if_neg (fun z => by omega)]; exact hI.2.1 j x (by omega)
          · rw [gI_sI, if_neg (by omega)]; exact hI.2.2.1 j x) (fun M' hI => by
          show m_X12_keep_L30 M' a b 64 = _
          unfold m_X12_keep_L30
          rw [if_pos (by decide)]) (by omega) (by omega) (M0 := M1) ⟨fun _ _ _ => rfl, fun j x y => by omega, fun _ _ => rfl, Fr.rf⟩
        refine ⟨1, M1, sI M2 59 b 1, ?_, ?_, W, H, op, wa, pr, _, _, ts, tp, ln, sz, it, hA.slot (p := on a) (v := true) c2.1 c2.2 f1 g1 ?_ (ks := [59, 60]) ?_ (by decide) ?_ ?_ ?_ ?_ ?_⟩
        · rw [if_tf, e1, bd1_q]
        · rw [hr1 a c1.1 c1.2, hh]
          rw [if_neg (by decide)]
          rw [e2, bd2_q, lt_q]
        · intro _ c hc
          have := (iso_t.mp hc).1
          rw [g2 c (by omega) (by omega)]; exact hC.2.1.2 a c1.1 c1.2 hh c hc
        · exact (q2.2.2.2.mono (by decide)).sI (by decide) rfl
        · intro j x y z
          rw [gI_sI, if_neg (fun w => z w.2), fI q2.2.2.2 (by decide)]
        · intro j x
          rw [gI_sI, if_neg (by simp)]; exact q2.2.2.1 j x
        · rw [gI_sI, if_pos ⟨rfl, rfl⟩]; rfl
        · intro _ c hc
          have := (iso_t.mp hc).1
          rw [gI_sI, if_neg (by simp), q2.2.1 c (by omega) (by omega), fI f1 (by simp; omega)]; exact hR.2.1.2 a c1.1 c1.2 hh c hc
        · intro _; exact hwf.2.1 a c1.1 c1.2 hh
    · rw [decide_eq_true c1, decide_eq_false c2]
      exact ⟨-1, M, M, rfl, rfl, hI⟩
  · rw [decide_eq_false c1]
    exact ⟨-1, M, M, rfl, rfl, hI⟩
