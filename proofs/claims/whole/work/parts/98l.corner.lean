/-! corners and steps -/
def crn (W H : Int) (op : Int → Bool) (x y : Int) : Bool := opn W H op (x - 1) (y - 1) || opn W H op x (y - 1) || opn W H op (x - 1) y || opn W H op x y
theorem crn_t {W H : Int} {op : Int → Bool} {x y : Int} : crn W H op x y = true ↔ (opn W H op (x - 1) (y - 1) = true ∨ opn W H op x (y - 1) = true ∨ opn W H op (x - 1) y = true ∨ opn W H op x y = true) := by
  unfold crn
  rw [Bool.or_eq_true, Bool.or_eq_true, Bool.or_eq_true]
  constructor
  · rintro (((q | q) | q) | q)
    · exact Or.inl q
    · exact Or.inr (Or.inl q)
    · exact Or.inr (Or.inr (Or.inl q))
    · exact Or.inr (Or.inr (Or.inr q))
  · rintro (q | q | q | q)
    · exact Or.inl (Or.inl (Or.inl q))
    · exact Or.inl (Or.inl (Or.inr q))
    · exact Or.inl (Or.inr q)
    · exact Or.inr q
theorem crn_r {W H : Int} {op : Int → Bool} {x y : Int} (h : crn W H op x y = true) : 0 ≤ x ∧ x ≤ W ∧ 0 ≤ y ∧ y ≤ H := by
  rcases crn_t.mp h with q | q | q | q
  · have := (opn_t.mp q).1; omega
  · have := (opn_t.mp q).1; omega
  · have := (opn_t.mp q).1; omega
  · have := (opn_t.mp q).1; omega
def alE (W H : Int) (op : Int → Bool) (p : Int → Int) (x y : Int) : Prop := (opn W H op x (y - 1) = true ∨ opn W H op x y = true) ∧ ¬ sam W H op p x (y - 1) x y
def alS (W H : Int) (op : Int → Bool) (p : Int → Int) (x y : Int) : Prop := (opn W H op (x - 1) y = true ∨ opn W H op x y = true) ∧ ¬ sam W H op p (x - 1) y x y
noncomputable def stE (W H : Int) (op : Int → Bool) (p : Int → Int) (x y : Int) : Int := if bp (alE W H op p x y) = true then sgE x y else 0
noncomputable def stS (W H : Int) (op : Int → Bool) (p : Int → Int) (x y : Int) : Int := if bp (alS W H op p x y) = true then sgS x y else 0
noncomputable def stF (W H : Int) (op : Int → Bool) (p : Int → Int) (x y k : Int) : Int := if k = 0 then stE W H op p x y else if k = 1 then stS W H op p x y else if k = 2 then -stE W H op p (x - 1) y else -stS W H op p x (y - 1)
def cbs (q k : Int) : Int := if k = 0 then q + 1 else if k = 1 then q + 9 else if k = 2 then q - 1 else q - 9
noncomputable def nbH (W H : Int) (op : Int → Bool) (p : Int → Int) (q k : Int) : Int := if stF W H op p (q % 9) (q / 9) k = 0 then -1 else cbs q k
theorem sg1 (x y : Int) : (sgE x y = 1 ∨ sgE x y = -1) ∧ (sgS x y = 1 ∨ sgS x y = -1) := by
  unfold sgE sgS
  split <;> omega
theorem stE_c {W H : Int} {op : Int → Bool} {p : Int → Int} {x y : Int} : (stE W H op p x y = 0 ∧ ¬ alE W H op p x y) ∨ (stE W H op p x y = sgE x y ∧ alE W H op p x y) := by
  unfold stE
  by_cases z : alE W H op p x y
  · rw [if_pos (bp_t.mpr z)]; exact Or.inr ⟨rfl, z⟩
  · rw [if_neg (fun q => z (bp_t.mp q))]; exact Or.inl ⟨rfl, z⟩
theorem stS_c {W H : Int} {op : Int → Bool} {p : Int → Int} {x y : Int} : (stS W H op p x y = 0 ∧ ¬ alS W H op p x y) ∨ (stS W H op p x y = sgS x y ∧ alS W H op p x y) := by
  unfold stS
  by_cases z : alS W H op p x y
  · rw [if_pos (bp_t.mpr z)]; exact Or.inr ⟨rfl, z⟩
  · rw [if_neg (fun q => z (bp_t.mp q))]; exact Or.inl ⟨rfl, z⟩
theorem alE_r {W H : Int} {op : Int → Bool} {p : Int → Int} {x y : Int} (h : alE W H op p x y) : 0 ≤ x ∧ x < W ∧ 0 ≤ y ∧ y ≤ H ∧ crn W H op x y = true ∧ crn W H op (x + 1) y = true := by
  rcases h.1 with q | q
  · have := (opn_t.mp q).1
    refine ⟨by omega, by omega, by omega, by omega, crn_t.mpr (Or.inr (Or.inl q)), crn_t.mpr (Or.inl ?_)⟩
    rw [show x + 1 - 1 = x by omega]; exact q
  · have := (opn_t.mp q).1
    refine ⟨by omega, by omega, by omega, by omega, crn_t.mpr (Or.inr (Or.inr (Or.inr q))), crn_t.mpr (Or.inr (Or.inr (Or.inl ?_)))⟩
    rw [show x + 1 - 1 = x by omega]; exact q
theorem alS_r {W H : Int} {op : Int → Bool} {p : Int → Int} {x y : Int} (h : alS W H op p x y) : 0 ≤ x ∧ x ≤ W ∧ 0 ≤ y ∧ y < H ∧ crn W H op x y = true ∧ crn W H op x (y + 1) = true := by
  rcases h.1 with q | q
  · have := (opn_t.mp q).1
    refine ⟨by omega, by omega, by omega, by omega, crn_t.mpr (Or.inr (Or.inr (Or.inl q))), crn_t.mpr (Or.inl ?_)⟩
    rw [show y + 1 - 1 = y by omega]; exact q
  · have := (opn_t.mp q).1
    refine ⟨by omega, by omega, by omega, by omega, crn_t.mpr (Or.inr (Or.inr (Or.inr q))), crn_t.mpr (Or.inr (Or.inl ?_))⟩
    rw [show y + 1 - 1 = y by omega]; exact q
/-- heights for the steps of a paving -/
def PHt (W H : Int) (op : Int → Bool) (p : Int → Int) (ph : Int → Int → Int) : Prop := (∀ x y, alE W H op p x y → ph (x + 1) y = ph x y + sgE x y) ∧ (∀ x y, alS W H op p x y → ph x (y + 1) = ph x y + sgS x y)
theorem pot_PH {M : Mem} {W H : Int} {op : Int → Bool} {p : Int → Int} (hy : YR M W H op) (hw : Who W H op) (hp : Pav W H op p) : ∃ ph, PHt W H op p ph := by
  obtain ⟨ph, h1, h2⟩ := pot_ex hy hw hp
  exact ⟨ph, fun x y h => h1 x y (alE_r h).1 (alE_r h).2.1 (alE_r h).2.2.1 (alE_r h).2.2.2.1 h.1 h.2, fun x y h => h2 x y (alS_r h).1 (alS_r h).2.1 (alS_r h).2.2.1 (alS_r h).2.2.2.1 h.1 h.2⟩
def CO (W H : Int) (op : Int → Bool) (q : Int) : Prop := 0 ≤ q ∧ q < 81 ∧ crn W H op (q % 9) (q / 9) = true
/-- one step: where it leads, what it adds, and the step back -/
theorem stF_s {W H : Int} {op : Int → Bool} {p : Int → Int} (hW : WHr W H) {q k : Int} (q0 : 0 ≤ q) (q1 : q < 81) (k0 : 0 ≤ k) (k1 : k < 4) (h : stF W H op p (q % 9) (q / 9) k ≠ 0) : CO W H op q ∧ CO W H op (cbs q k) ∧ (stF W H op p (q % 9) (q / 9) k = 1 ∨ stF W H op p (q % 9) (q / 9) k = -1) ∧ (∀ ph, PHt W H op p ph → ph (cbs q k % 9) (cbs q k / 9) = ph (q % 9) (q / 9) + stF W H op p (q % 9) (q / 9) k) ∧ ∃ k', 0 ≤ k' ∧ k' < 4 ∧ stF W H op p (cbs q k % 9) (cbs q k / 9) k' ≠ 0 ∧ cbs (cbs q k) k' = q := by
  have hw := hW.2.1
  have hh := hW.2.2.2
  have hk : k = 0 ∨ k = 1 ∨ k = 2 ∨ k = 3 := by omega
  rcases hk with rfl | rfl | rfl | rfl
  · have e1 : stF W H op p (q % 9) (q / 9) 0 = stE W H op p (q % 9) (q / 9) := rfl
    have e2 : cbs q 0 = q + 1 := rfl
    rw [e1] at h ⊢
    rw [e2]
    rcases stE_c (W := W) (H := H) (op := op) (p := p) (x := q % 9) (y := q / 9) with ⟨c, -⟩ | ⟨c, a⟩
    · exact absurd c h
    · have hr := alE_r a
      have f1 : (q + 1) % 9 = q % 9 + 1 ∧ (q + 1) / 9 = q / 9 := by omega
      rw [f1.1, f1.2, c]
      refine ⟨⟨q0, q1, hr.2.2.2.2.1⟩, ⟨by omega, by omega, by rw [f1.1, f1.2]; exact hr.2.2.2.2.2⟩, (sg1 _ _).1, fun ph hp => hp.1 _ _ a, 2, by omega, by omega, ?_, ?_⟩
      · show -stE W H op p (q % 9 + 1 - 1) (q / 9) ≠ 0
        rw [show q % 9 + 1 - 1 = q % 9 by omega]
        omega
      · show q + 1 - 1 = q
        omega
  · have e1 : stF W H op p (q % 9) (q / 9) 1 = stS W H op p (q % 9) (q / 9) := rfl
    have e2 : cbs q 1 = q + 9 := rfl
    rw [e1] at h ⊢
    rw [e2]
    rcases stS_c (W := W) (H := H) (op := op) (p := p) (x := q % 9) (y := q / 9) with ⟨c, -⟩ | ⟨c, a⟩
    · exact absurd c h
    · have hr := alS_r a
      have f1 : (q + 9) % 9 = q % 9 ∧ (q + 9) / 9 = q / 9 + 1 := by omega
      rw [f1.1, f1.2, c]
      refine ⟨⟨q0, q1, hr.2.2.2.2.1⟩, ⟨by omega, by omega, by rw [f1.1, f1.2]; exact hr.2.2.2.2.2⟩, (sg1 _ _).2, fun ph hp => hp.2 _ _ a, 3, by omega, by omega, ?_, ?_⟩
      · show -stS W H op p (q % 9) (q / 9 + 1 - 1) ≠ 0
        rw [show q / 9 + 1 - 1 = q / 9 by omega]
        omega
      · show q + 9 - 9 = q
        omega
  · have e1 : stF W H op p (q % 9) (q / 9) 2 = -stE W H op p (q % 9 - 1) (q / 9) := rfl
    have e2 : cbs q 2 = q - 1 := rfl
    rw [e1] at h ⊢
    rw [e2]
    rcases stE_c (W := W) (H := H) (op := op) (p := p) (x := q % 9 - 1) (y := q / 9) with ⟨c, -⟩ | ⟨c, a⟩
    · exact absurd (by rw [c]; rfl) h
    · have hr := alE_r a
      rw [show q % 9 - 1 + 1 = q % 9 by omega] at hr
      have f1 : (q - 1) % 9 = q % 9 - 1 ∧ (q - 1) / 9 = q / 9 := by omega
      have hs := (sg1 (q % 9 - 1) (q / 9)).1
      rw [f1.1, f1.2, c]
      refine ⟨⟨q0, q1, hr.2.2.2.2.2⟩, ⟨by omega, by omega, by rw [f1.1, f1.2]; exact hr.2.2.2.2.1⟩, by omega, fun ph hp => ?_, 0, by omega, by omega, ?_, ?_⟩
      · have := hp.1 _ _ a
        rw [show q % 9 - 1 + 1 = q % 9 by omega] at this
        omega
      · show stE W H op p (q % 9 - 1) (q / 9) ≠ 0
        omega
      · show q - 1 + 1 = q
        omega
  · have e1 : stF W H op p (q % 9) (q / 9) 3 = -stS W H op p (q % 9) (q / 9 - 1) := rfl
    have e2 : cbs q 3 = q - 9 := rfl
    rw [e1] at h ⊢
    rw [e2]
    rcases stS_c (W := W) (H := H) (op := op) (p := p) (x := q % 9) (y := q / 9 - 1) with ⟨c, -⟩ | ⟨c, a⟩
    · exact absurd (by rw [c]; rfl) h
    · have hr := alS_r a
      rw [show q / 9 - 1 + 1 = q / 9 by omega] at hr
      have f1 : (q - 9) % 9 = q % 9 ∧ (q - 9) / 9 = q / 9 - 1 := by omega
      have hs := (sg1 (q % 9) (q / 9 - 1)).2
      rw [f1.1, f1.2, c]
      refine ⟨⟨q0, q1, hr.2.2.2.2.2⟩, ⟨by omega, by omega, by rw [f1.1, f1.2]; exact hr.2.2.2.2.1⟩, by omega, fun ph hp => ?_, 1, by omega, by omega, ?_, ?_⟩
      · have := hp.2 _ _ a
        rw [show q / 9 - 1 + 1 = q / 9 by omega] at this
        omega
      · show stS W H op p (q % 9) (q / 9 - 1) ≠ 0
        omega
      · show q - 9 + 9 = q
        omega
/-- a set of corners closed under steps that holds one corner of an open cell holds all four -/
theorem four {W H : Int} {op : Int → Bool} {p : Int → Int} (hW : WHr W H) (hp : Pav W H op p) {C : Int → Int → Prop} (hE : ∀ x y, alE W H op p x y → (C x y ↔ C (x + 1) y)) (hS : ∀ x y, alS W H op p x y → (C x y ↔ C x (y + 1))) {x y : Int} (ho : opn W H op x y = true) (h : C x y ∨ C (x + 1) y ∨ C x (y + 1) ∨ C (x + 1) (y + 1)) : C x y ∧ C (x + 1) y ∧ C x (y + 1) ∧ C (x + 1) (y + 1) := by
  obtain ⟨dx, dy, hd, hs⟩ := bar4 hW hp ho
  have n1 := hs x (y - 1) (by omega)
  have n2 := hs (x + 1) y (by omega)
  have n3 := hs x (y + 1) (by omega)
  have n4 := hs (x - 1) y (by omega)
  have t1 : ¬ (x = x + dx ∧ y - 1 = y + dy) → (C x y ↔ C (x + 1) y) := fun q => hE x y ⟨Or.inr ho, fun z => q (n1.mp (sam_c.mp z))⟩
  have t2 : ¬ (x + 1 = x + dx ∧ y = y + dy) → (C (x + 1) y ↔ C (x + 1) (y + 1)) := fun q => hS (x + 1) y ⟨Or.inl (by rw [show x + 1 - 1 = x by omega]; exact ho), fun z => q (n2.mp (by rw [show x + 1 - 1 = x by omega] at z; exact z))⟩
  have t3 : ¬ (x = x + dx ∧ y + 1 = y + dy) → (C x (y + 1) ↔ C (x + 1) (y + 1)) := fun q => hE x (y + 1) ⟨Or.inl (by rw [show y + 1 - 1 = y by omega]; exact ho), fun z => q (n3.mp (by rw [show y + 1 - 1 = y by omega] at z; exact z))⟩
  have t4 : ¬ (x - 1 = x + dx ∧ y = y + dy) → (C x y ↔ C x (y + 1)) := fun q => hS x y ⟨Or.inr ho, fun z => q (n4.mp (sam_c.mp z))⟩
  clear hE hS n1 n2 n3 n4 hs
  generalize C x y = a at *
  generalize C (x + 1) y = b at *
  generalize C x (y + 1) = c at *
  generalize C (x + 1) (y + 1) = d at *
  rcases hd with ⟨rfl, rfl⟩ | ⟨rfl, rfl⟩ | ⟨rfl, rfl⟩ | ⟨rfl, rfl⟩
  · have s1 := t1 (by omega)
    have s3 := t3 (by omega)
    have s4 := t4 (by omega)
    clear t1 t2 t3 t4
    have ha : a := by
      rcases h with q | q | q | q
      · exact q
      · exact s1.mpr q
      · exact s4.mpr q
      · exact s4.mpr (s3.mpr q)
    exact ⟨ha, s1.mp ha, s4.mp ha, s3.mp (s4.mp ha)⟩
  · have s1 := t1 (by omega)
    have s3 := t3 (by omega)
    have s2 := t2 (by omega)
    clear t1 t2 t3 t4
    have hb : b := by
      rcases h with q | q | q | q
      · exact s1.mp q
      · exact q
      · exact s2.mpr (s3.mp q)
      · exact s2.mpr q
    exact ⟨s1.mpr hb, hb, s3.mpr (s2.mp hb), s2.mp hb⟩
  · have s1 := t1 (by omega)
    have s2 := t2 (by omega)
    have s4 := t4 (by omega)
    clear t1 t2 t3 t4
    have ha : a := by
      rcases h with q | q | q | q
      · exact q
      · exact s1.mpr q
      · exact s4.mpr q
      · exact s1.mpr (s2.mpr q)
    exact ⟨ha, s1.mp ha, s4.mp ha, s2.mp (s1.mp ha)⟩
  · have s2 := t2 (by omega)
    have s3 := t3 (by omega)
    have s4 := t4 (by omega)
    clear t1 t2 t3 t4
    have hc : c := by
      rcases h with q | q | q | q
      · exact s4.mp q
      · exact s3.mpr (s2.mp q)
      · exact q
      · exact s3.mpr q
    exact ⟨s4.mpr hc, s2.mpr (s3.mp hc), hc, s3.mp hc⟩
/-- and all corners, if the open cells hang together -/
theorem all_crn {W H : Int} {op : Int → Bool} {p : Int → Int} (hW : WHr W H) (hw : Who W H op) (hp : Pav W H op p) {C : Int → Int → Prop} (hE : ∀ x y, alE W H op p x y → (C x y ↔ C (x + 1) y)) (hS : ∀ x y, alS W H op p x y → (C x y ↔ C x (y + 1))) {x y : Int} (hc : crn W H op x y = true) (hC : C x y) : ∀ x' y', crn W H op x' y' = true → C x' y' := by
  have h8 := WH_le hW
  obtain ⟨-, ⟨f, n, L, hf, hL, hn⟩, -⟩ := hw
  have hi := PW_iso hW hf.1 hL
  -- the four corners of a cell
  have fc : ∀ c, iso W H op c = true → (C (c % W) (c / W) ∨ C (c % W + 1) (c / W) ∨ C (c % W) (c / W + 1) ∨ C (c % W + 1) (c / W + 1)) → (C (c % W) (c / W) ∧ C (c % W + 1) (c / W) ∧ C (c % W) (c / W + 1) ∧ C (c % W + 1) (c / W + 1)) := fun c h1 h2 => four hW hp hE hS (opn_cell hW h1) h2
  have S4 : ∀ c e, adj W H op c e → (C (c % W) (c / W) ∧ C (c % W + 1) (c / W) ∧ C (c % W) (c / W + 1) ∧ C (c % W + 1) (c / W + 1)) → (C (e % W) (e / W) ∧ C (e % W + 1) (e / W) ∧ C (e % W) (e / W + 1) ∧ C (e % W + 1) (e / W + 1)) := fun c e ha q => by
    apply fc e ha.2.1
    rcases ha.2.2 with ⟨r1, r2 | r2⟩ | ⟨r1, r2 | r2⟩
    · left; rw [r1, r2]; exact q.2.2.1
    · right; right; left; rw [r1, ← r2]; exact q.1
    · left; rw [r1, r2]; exact q.2.1
    · right; left; rw [r1, ← r2]; exact q.1
  have allL : ∀ c, iso W H op c = true → inL n L c := fun c h1 => by
    obtain ⟨r1, r2⟩ := iso_t.mp h1
    refine all_in (Q := op) (N := (W * H).toNat) (fun j j0 j1 => ?_) hL.2.2.2.2.1 (by rw [← nOp_cn, hn]; exact Int.le_refl _) r1.1 (by omega) r2
    have := iso_t.mp (hi j j0 j1)
    exact ⟨this.1.1, by omega, this.2⟩
  have par : ∀ j, 0 < j → j < n → ∃ a, 0 ≤ a ∧ a < j ∧ adj W H op (L a) (L j) := fun j j0 j1 => by
    obtain ⟨a, a0, a1, m, m0, m1, e⟩ := hL.2.2.2.1 j j0 j1
    refine ⟨a, a0, a1, ?_⟩
    have hj := hL.2.2.1 j (by omega) j1
    rcases (bes_N (op := op) hW (L a) (hi a a0 (by omega))).1 m m0 m1 with q | q
    · omega
    · rw [e] at q; exact q
  have down : ∀ m : Nat, ∀ j : Int, 0 ≤ j → j ≤ m → j < n → (C (L j % W) (L j / W) ∧ C (L j % W + 1) (L j / W) ∧ C (L j % W) (L j / W + 1) ∧ C (L j % W + 1) (L j / W + 1)) → (C (L 0 % W) (L 0 / W) ∧ C (L 0 % W + 1) (L 0 / W) ∧ C (L 0 % W) (L 0 / W + 1) ∧ C (L 0 % W + 1) (L 0 / W + 1)) := by
    intro m
    induction m with
    | zero => intro j j0 j1 _ q; rw [show j = 0 by omega] at q; exact q
    | succ m ih =>
      intro j j0 j1 jn q
      by_cases z : j = 0
      · rw [z] at q; exact q
      · obtain ⟨a, a0, a1, ha⟩ := par j (by omega) jn
        exact ih a a0 (by omega) (by omega) (S4 _ _ (adj_c ha) q)
  have up : (C (L 0 % W) (L 0 / W) ∧ C (L 0 % W + 1) (L 0 / W) ∧ C (L 0 % W) (L 0 / W + 1) ∧ C (L 0 % W + 1) (L 0 / W + 1)) → ∀ m : Nat, ∀ j : Int, 0 ≤ j → j ≤ m → j < n → (C (L j % W) (L j / W) ∧ C (L j % W + 1) (L j / W) ∧ C (L j % W) (L j / W + 1) ∧ C (L j % W + 1) (L j / W + 1)) := by
    intro q m
    induction m with
    | zero => intro j j0 j1 _; rw [show j = 0 by omega]; exact q
    | succ m ih =>
      intro j j0 j1 jn
      by_cases z : j = 0
      · rw [z]; exact q
      · obtain ⟨a, a0, a1, ha⟩ := par j (by omega) jn
        exact S4 _ _ ha (ih a a0 (by omega) (by omega))
  -- a cell of each corner
  have cell : ∀ u v, crn W H op u v = true → ∃ c, iso W H op c = true ∧ ((u = c % W ∨ u = c % W + 1) ∧ (v = c / W ∨ v = c / W + 1)) := fun u v h => by
    rcases crn_t.mp h with q | q | q | q
    · obtain ⟨r1, r2, r3⟩ := opn_i hW q
      exact ⟨_, r1, by omega⟩
    · obtain ⟨r1, r2, r3⟩ := opn_i hW q
      exact ⟨_, r1, by omega⟩
    · obtain ⟨r1, r2, r3⟩ := opn_i hW q
      exact ⟨_, r1, by omega⟩
    · obtain ⟨r1, r2, r3⟩ := opn_i hW q
      exact ⟨_, r1, by omega⟩
  obtain ⟨c0, i0, hu, hv⟩ := cell x y hc
  have q0 : C (c0 % W) (c0 / W) ∧ C (c0 % W + 1) (c0 / W) ∧ C (c0 % W) (c0 / W + 1) ∧ C (c0 % W + 1) (c0 / W + 1) := by
    apply fc c0 i0
    rcases hu with hu | hu <;> rcases hv with hv | hv <;> rw [hu, hv] at hC
    · exact Or.inl hC
    · exact Or.inr (Or.inr (Or.inl hC))
    · exact Or.inr (Or.inl hC)
    · exact Or.inr (Or.inr (Or.inr hC))
  obtain ⟨j, j0, j1, ej⟩ := allL c0 i0
  rw [← ej] at q0
  have q1 := down j.toNat j j0 (by omega) j1 q0
  intro x' y' hc'
  obtain ⟨c1, i1, hu', hv'⟩ := cell x' y' hc'
  obtain ⟨k, k0, k1, ek⟩ := allL c1 i1
  have q2 := up q1 k.toNat k k0 (by omega) k1
  rw [ek] at q2
  rcases hu' with hu' | hu' <;> rcases hv' with hv' | hv' <;> rw [hu', hv']
  · exact q2.1
  · exact q2.2.2.1
  · exact q2.2.1
  · exact q2.2.2.2
