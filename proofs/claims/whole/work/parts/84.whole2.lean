/-! whole: the reference, the call -/
theorem ckb_b {W H : Int} {op : Int → Bool} (x y : Int) : bp (¬ ckb W H op x y) = !((opn W H op (x - 1) (y - 1) == opn W H op x y) && (opn W H op x (y - 1) == opn W H op (x - 1) y) && (opn W H op (x - 1) (y - 1) != opn W H op x (y - 1))) := by
  apply Bool.eq_iff_iff.mpr
  rw [bp_t]
  unfold ckb
  cases opn W H op (x - 1) (y - 1) <;> cases opn W H op x y <;> cases opn W H op x (y - 1) <;> cases opn W H op (x - 1) y <;> simp
theorem corE (B a b e f : Bool) : (if B = false then (0 : Int) else (if a = false then (if b = false then 1 else (if e = false then 1 else (if a = false then (if f = false then 0 else 1) else 1))) else (if f = false then (if b = false then 1 else (if e = false then 1 else (if a = false then (if f = false then 0 else 1) else 1))) else (if b = false then (if e = false then 0 else (if b = false then 1 else (if e = false then 1 else (if a = false then (if f = false then 0 else 1) else 1)))) else (if b = false then 1 else (if e = false then 1 else (if a = false then (if f = false then 0 else 1) else 1))))))) = bI (B && !((a == f) && (b == e) && (a != b))) := by
  cases B <;> cases a <;> cases b <;> cases e <;> cases f <;> rfl
theorem corRow_s {M : Mem} {W H : Int} {op : Int → Bool} (hy : YR M W H op) (y : Int) (b : Bool) (y0 : 1 ≤ y) (y1 : y < H) : ∃ z, itr (fun s => m_X12_isWhole_L102 M y s.1 s.2) FU (bI b, 1) = some (bI (b && bp (∀ x, 1 ≤ x → x < W → ¬ ckb W H op x y)), z) := by
  have hW := hy.2.2.1
  have hW' := hW
  obtain ⟨a1, a2, a3, a4⟩ := hW'
  obtain ⟨⟨u, z⟩, e, h⟩ := for_g (f := fun s => m_X12_isWhole_L102 M y s.1 s.2) 1 W (fun x s => s.2 = x ∧ s.1 = bI (b && bp (∀ x', 1 ≤ x' → x' < x → ¬ ckb W H op x' y))) (fun r => r.1 = bI (b && bp (∀ x', 1 ≤ x' → x' < W → ¬ ckb W H op x' y))) (by
    rintro x ⟨u, x'⟩ x0 x1 ⟨g0, g1⟩
    dsimp only at g0 g1
    subst g0
    subst g1
    left
    show ∃ s2, m_X12_isWhole_L102 M y _ x' = _ ∧ _
    unfold m_X12_isWhole_L102
    rw [hy.1, wr_id (x := W) (by omega) (by omega), wr_id (x := x') (by omega) (by omega), if_neg (by omega), isOpenAtR_s hy (x := x' - 1) (y := y - 1) (by omega) (by omega) (by omega) (by omega), isOpenAtR_s hy (x := x') (y := y - 1) (by omega) (by omega) (by omega) (by omega), isOpenAtR_s hy (x := x' - 1) (y := y) (by omega) (by omega) (by omega) (by omega), isOpenAtR_s hy (x := x') (y := y) (by omega) (by omega) (by omega) (by omega)]
    simp only [bd1_q, lt_q, wrb, corE]
    have hs : bp (∀ x'', 1 ≤ x'' → x'' < x' + 1 → ¬ ckb W H op x'' y) = (bp (∀ x'', 1 ≤ x'' → x'' < x' → ¬ ckb W H op x'' y) && bp (¬ ckb W H op x' y)) := by
      apply Bool.eq_iff_iff.mpr
      rw [Bool.and_eq_true, bp_t, bp_t, bp_t]
      constructor
      · intro h; exact ⟨fun x'' p1 p2 => h x'' p1 (by omega), h x' x0 (by omega)⟩
      · rintro ⟨h1, h2⟩ x'' p1 p2
        by_cases w : x'' = x'
        · rw [w]; exact h2
        · exact h1 x'' p1 (by omega)
    refine ⟨_, rfl, rfl, ?_⟩
    dsimp only
    rw [hs, ckb_b, Bool.and_assoc]) (by
    rintro ⟨u, x'⟩ ⟨g0, g1⟩
    dsimp only at g0 g1
    refine ⟨(u, x'), ?_, g1⟩
    show m_X12_isWhole_L102 M y u x' = _
    unfold m_X12_isWhole_L102
    rw [hy.1, g0, if_pos (by omega)]) (by omega) (by omega) (s0 := (bI b, 1)) ⟨rfl, by
      rw [bp_t.mpr (fun x' p1 p2 => by omega), Bool.and_true]⟩
  dsimp only at h
  exact ⟨z, by rw [e, h]⟩
theorem corn_s {M : Mem} {W H : Int} {op : Int → Bool} (hy : YR M W H op) (v : Bool) : ∃ y, itr (fun s => m_X12_isWhole_L90 M s.1 s.2) FU (bI v, 1) = some (bI (v && bp (¬ tCb W H op)), y) := by
  have hW := hy.2.2.1
  have hW' := hW
  obtain ⟨a1, a2, a3, a4⟩ := hW'
  obtain ⟨⟨u, z⟩, e, h⟩ := for_g (f := fun s => m_X12_isWhole_L90 M s.1 s.2) 1 H (fun y s => s.2 = y ∧ s.1 = bI (v && bp (∀ x y', 1 ≤ x → x < W → 1 ≤ y' → y' < y → ¬ ckb W H op x y'))) (fun r => r.1 = bI (v && bp (¬ tCb W H op))) (by
    rintro y ⟨u, y'⟩ y0 y1 ⟨g0, g1⟩
    dsimp only at g0 g1
    subst g0
    subst g1
    left
    show ∃ s2, m_X12_isWhole_L90 M _ y' = _ ∧ _
    unfold m_X12_isWhole_L90
    obtain ⟨z, ez⟩ := corRow_s hy y' (v && bp (∀ x y'', 1 ≤ x → x < W → 1 ≤ y'' → y'' < y' → ¬ ckb W H op x y'')) y0 y1
    rw [hy.2.1, wr_id (x := H) (by omega) (by omega), wr_id (x := y') (by omega) (by omega), if_neg (by omega), ez, bd2_q]
    refine ⟨_, rfl, rfl, ?_⟩
    dsimp only
    have hs : bp (∀ x y'', 1 ≤ x → x < W → 1 ≤ y'' → y'' < y' + 1 → ¬ ckb W H op x y'') = (bp (∀ x y'', 1 ≤ x → x < W → 1 ≤ y'' → y'' < y' → ¬ ckb W H op x y'') && bp (∀ x, 1 ≤ x → x < W → ¬ ckb W H op x y')) := by
      apply Bool.eq_iff_iff.mpr
      rw [Bool.and_eq_true, bp_t, bp_t, bp_t]
      constructor
      · intro h; exact ⟨fun x y'' p1 p2 p3 p4 => h x y'' p1 p2 p3 (by omega), fun x p1 p2 => h x y' p1 p2 y0 (by omega)⟩
      · rintro ⟨h1, h2⟩ x y'' p1 p2 p3 p4
        by_cases w : y'' = y'
        · rw [w]; exact h2 x p1 p2
        · exact h1 x y'' p1 p2 p3 (by omega)
    rw [hs, Bool.and_assoc]) (by
    rintro ⟨u, y'⟩ ⟨g0, g1⟩
    dsimp only at g0 g1
    refine ⟨(u, y'), ?_, ?_⟩
    · show m_X12_isWhole_L90 M u y' = _
      unfold m_X12_isWhole_L90
      rw [hy.2.1, g0, if_pos (by omega)]
    · dsimp only
      rw [g1]
      refine congrArg bI (congrArg (v && ·) (bp_congr ?_))
      constructor
      · rintro h ⟨x, y, x0, x1, y0, y1, hc⟩; exact h x y x0 x1 y0 y1 hc
      · intro h x y x0 x1 y0 y1 hc; exact h ⟨x, y, x0, x1, y0, y1, hc⟩) (by omega) (by omega) (s0 := (bI v, 1)) ⟨rfl, by
      rw [bp_t.mpr (fun x y' _ _ p1 p2 => by omega), Bool.and_true]⟩
  dsimp only at h
  exact ⟨z, by rw [e, h]⟩
theorem exWV {W H : Int} {op : Int → Bool} (hW : WHr W H) {f : Int} (hf : fstO W H op f) : ∃ n L, WV (bes W H op) 4 f n L := by
  have hy : YC ((fun k j => if k = 1 then (if j = 0 then W else H) else bI (op j), fun _ _ => 0, fun _ _ => 0) : Mem) W H op := by
    refine ⟨?_, ?_, hW, fun j _ _ => ?_⟩
    · show (if (1 : Nat) = 1 then (if (0 : Int) = 0 then W else H) else bI (op 0)) = W
      rw [if_pos rfl, if_pos rfl]
    · show (if (1 : Nat) = 1 then (if (1 : Int) = 0 then W else H) else bI (op 1)) = H
      rw [if_pos rfl, if_neg (by decide)]
    · show (if (2 : Nat) = 1 then (if j = 0 then W else H) else bI (op j)) = bI (op j)
      rw [if_neg (by decide)]
  obtain ⟨M2, -, h⟩ := openIsOne_s hy
  rcases h with ⟨h, -⟩ | ⟨g, n, L, h1, h2, -⟩
  · exfalso
    have := (nOp_0 hW).mp h f (iso_t.mp hf.1).1.1 (iso_t.mp hf.1).1.2
    rw [(iso_t.mp hf.1).2] at this
    exact absurd this (by decide)
  · rw [fst_one h1 hf] at h2
    exact ⟨n, L, h2⟩
theorem isWholeR_s {M : Mem} {W H : Int} {op : Int → Bool} (hy : YR M W H op) : ∃ M2, m_X12_isWhole M = some (bp (Who W H op), M2) ∧ Fr [71, 72] M M2 := by
  have hW := hy.2.2.1
  have hW' := hW
  obtain ⟨a1, a2, a3, a4⟩ := hW'
  have h8 := WH_le hW
  have hnr := nOp_r W H op hW
  have hp : 0 ≤ (W + 2) * (H + 2) ∧ (W + 2) * (H + 2) ≤ 100 := by
    rcases W8 a1 a2 with q | q | q | q | q | q | q | q <;> rw [q] <;> omega
  unfold m_X12_isWhole
  rw [openManyR_s hy, bd1_q, wr_id (x := nOp W H op) (by omega) (by omega)]
  by_cases z0 : nOp W H op = 0
  · rw [if_pos z0, bp_f.mpr (fun w => w.1 z0)]
    exact ⟨M, rfl, Fr.rf⟩
  rw [if_neg z0]
  -- the first open cell
  obtain ⟨f, e1, hf⟩ := for_g (f := fun s => m_X12_isWhole_L13 M (nOp W H op) s) 0 (W * H) (fun c s => s = c ∧ ∀ d, 0 ≤ d → d < c → op d = false) (fun r => fstO W H op r) (by
    rintro c s c0 c1 ⟨h0, hq⟩
    subst h0
    show (∃ s2, m_X12_isWhole_L13 M (nOp W H op) s = _ ∧ _) ∨ (∃ s2, m_X12_isWhole_L13 M (nOp W H op) s = _ ∧ _)
    unfold m_X12_isWhole_L13
    rw [wr_id (x := s) (by omega) (by omega), if_pos (by omega), hy.2.2.2 s c0 (by omega)]
    simp only [wrb]
    cases ho : op s
    · rw [if_ff]
      refine Or.inl ⟨_, rfl, rfl, fun d d0 d1 => ?_⟩
      by_cases w : d = s
      · rw [w]; exact ho
      · exact hq d d0 (by omega)
    · rw [if_tf]
      exact Or.inr ⟨_, rfl, iso_t.mpr ⟨⟨c0, c1⟩, ho⟩, hq⟩) (by
    rintro s ⟨h0, hq⟩
    exact absurd ((nOp_0 hW).mpr hq) z0) (by omega) (by omega) (s0 := 0) ⟨rfl, fun d d0 d1 => by omega⟩
  have hfr := (iso_t.mp hf.1).1
  have hph := phi_s hW hfr.1 hfr.2
  have ephi : 10 * (f / W + 1) + f % W + 1 = phi W f := rfl
  rw [e1, bd1_q, hy.1, wr_id (x := W) (by omega) (by omega), if_pos (by omega), idv_p hfr.1 (by omega) (by omega) (by omega), irm_p hfr.1 (by omega) (by omega) (by omega), ephi]
  obtain ⟨n, L, M2, g1, e2, f2⟩ := meets_s hy hph.1 hph.2.1 false
  have hop : opn W H op (phi W f % 10 - 1) (phi W f / 10 - 1) = true := by
    rw [hph.2.2.1, hph.2.2.2, show f % W + 1 - 1 = f % W by omega, show f / W + 1 - 1 = f / W by omega]
    exact opn_cell hW hf.1
  rw [hop] at g1
  have hn := PW_100 g1
  have hn1 := g1.1
  have e2' : m_X12_meets M (phi W f) 0 = some (n, M2) := e2
  rw [e2', bd2_q, wr_id (x := n) (by omega) (by omega)]
  have key2 : (∃ f n L, fstO W H op f ∧ WV (bes W H op) 4 f n L ∧ n = nOp W H op) → n = nOp W H op := by
    rintro ⟨f3, n3, L3, q1, q2, q3⟩
    rw [fst_one q1 hf] at q2
    rw [WV_one g1 (open_map hW hf.1 q2)]; exact q3
  by_cases z1 : n = nOp W H op
  · rw [if_pos z1]
    have hy2 := hy.fr f2 (by decide) (by decide)
    obtain ⟨n2, L2, M3, g2, e3, f3⟩ := meets_s hy2 (s := 0) (by omega) (by omega) true
    have fA : Fr [71, 72] M M3 := f2.trans f3 (by decide)
    have hy3 := hy.fr fA (by decide) (by decide)
    have hop2 : opn W H op (0 % 10 - 1) (0 / 10 - 1) = false := opn_no (by omega)
    rw [hop2] at g2
    have hn2 := PW_100 g2
    have hn21 := g2.1
    have e3' : m_X12_meets M2 0 1 = some (n2, M3) := e3
    rw [e3', bd2_q, hy3.1, hy3.2.1, wr_id (x := n2) (by omega) (by omega), wr_id (x := (W + 2) * (H + 2) - nOp W H op) (by omega) (by omega)]
    have g2' : WV (nbC W H op) 9 0 n2 L2 := by
      have : nbM W H op true false = nbC W H op := by
        funext p k; exact nbC_M p k
      rw [← this]; exact g2
    by_cases z2 : n2 = (W + 2) * (H + 2) - nOp W H op
    · rw [if_pos z2, bd2_q]
      obtain ⟨y, e4⟩ := corn_s hy3 true
      have e4' : itr (fun s => m_X12_isWhole_L90 M3 s.1 s.2) FU (1, 1) = some (bI (true && bp (¬ tCb W H op)), y) := e4
      rw [e4', bd2_q, if_pos (bI_01 _), Bool.true_and]
      refine ⟨M3, ?_, fA⟩
      by_cases z3 : tCb W H op
      · rw [bp_f.mpr (fun w => w z3), bp_f.mpr (fun w => w.2.2.2 z3)]; rfl
      · have hopen : ∃ f n L, fstO W H op f ∧ WV (bes W H op) 4 f n L ∧ n = nOp W H op := by
          obtain ⟨n4, L4, q⟩ := exWV hW hf
          exact ⟨f, n4, L4, hf, q, by rw [← z1]; exact (WV_one g1 (open_map hW hf.1 q)).symm⟩
        rw [bp_t.mpr z3, bp_t.mpr ⟨z0, hopen, ⟨n2, L2, g2', z2⟩, z3⟩]; rfl
    · rw [if_neg z2, bd2_q]
      obtain ⟨y, e4⟩ := corn_s hy3 false
      have e4' : itr (fun s => m_X12_isWhole_L90 M3 s.1 s.2) FU (0, 1) = some (bI (false && bp (¬ tCb W H op)), y) := e4
      rw [e4', bd2_q, if_pos (bI_01 _), Bool.false_and, (bp_f (P := Who W H op)).mpr (fun ⟨_, _, ⟨n5, L5, q5, q6⟩, _⟩ => z2 (by rw [WV_one g2' q5]; exact q6))]
      exact ⟨M3, rfl, fA⟩
  · rw [if_neg z1, bd2_q]
    have hy2 := hy.fr f2 (by decide) (by decide)
    obtain ⟨y, e4⟩ := corn_s hy2 false
    have e4' : itr (fun s => m_X12_isWhole_L90 M2 s.1 s.2) FU (0, 1) = some (bI (false && bp (¬ tCb W H op)), y) := e4
    rw [e4', bd2_q, if_pos (bI_01 _), Bool.false_and, (bp_f (P := Who W H op)).mpr (fun w => z1 (key2 w.2.1))]
    exact ⟨M2, rfl, f2⟩
theorem op_whole {M : Mem} (hI : Inv M) : OpI (fun M => m_X11_whole M) (fun M => m_X12_whole M) M := by
  obtain ⟨W, H, op, wa, pr, hd, on, ts, tp, ln, sz, it, hA⟩ := hI
  have hA' := hA
  obtain ⟨hC, hR, hwf, hD, hS⟩ := hA'
  obtain ⟨M1, e1, f1⟩ := isWhole_s hC.1.1
  have hR1 := hR.fr f1 (by decide)
  obtain ⟨M2, e2, f2⟩ := isWholeR_s hR1.1.1
  refine ⟨bI (bp (Who W H op)), M1, M2, ?_, ?_, W, H, op, wa, pr, hd, on, ts, tp, ln, sz, it, hA.quiet f1 f2 (by decide) (by decide)⟩
  · show m_X11_whole M = _
    unfold m_X11_whole
    rw [e1, bd2_q, bit_e]
  · show m_X12_whole M1 = _
    unfold m_X12_whole
    rw [e2, bd2_q, lt_q]
    simp only [wrb]
    cases bp (Who W H op) <;> rfl
