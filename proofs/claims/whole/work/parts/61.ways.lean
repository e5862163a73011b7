/-! the table of ways: class and reference -/
def wyc (W : Int) (op f : Int → Bool) (N c m : Int) : Nat := wy W op f N (N - c).toNat m
theorem wyc_e {W : Int} {op f : Int → Bool} {N m : Int} : wyc W op f N N m = if m = 0 then 1 else 0 := by
  unfold wyc
  rw [show (N - N).toNat = 0 by omega]
  rfl
theorem wyc_s {W : Int} {op f : Int → Bool} {N c m : Int} (h : c < N) : wyc W op f N c m = if op c = false then (if m % 2 = 1 then 0 else wyc W op f N (c + 1) (m / 2)) else if m % 2 = 1 then wyc W op f N (c + 1) (m / 2) else (if f (2 * c) = true ∧ m / 2 % 2 = 0 then wyc W op f N (c + 1) (m / 2 + 1) else 0) + (if f (2 * c + 1) = true then wyc W op f N (c + 1) (m / 2 + p2 (W - 1)) else 0) := by
  unfold wyc
  rw [show (N - c).toNat = (N - (c + 1)).toNat + 1 by omega]
  show (if op (N - (((N - (c + 1)).toNat : Int) + 1)) = false then _ else _) = _
  rw [show N - (((N - (c + 1)).toNat : Int) + 1) = c by omega]
theorem lN0 : (0 : Int64) = lN 0 := by decide
theorem lN1 : (1 : Int64) = lN 1 := by decide
theorem stn_east {W H : Int} {op : Int → Bool} {c : Int} (h : WHr W H) (h2 : stn W H op (2 * c) = true) : c % W + 1 < W := by
  obtain ⟨s1, s2, s3, s4, -⟩ := stn_t h h2
  unfold oth at s4
  rw [if_pos (by omega), show 2 * c / 2 = c by omega] at s4
  by_cases z : c % W + 1 < W
  · exact z
  · rw [if_neg z] at s4; omega
/-- bricks fit only where they stand -/
def FS (W H : Int) (op f : Int → Bool) : Prop := ∀ b, f b = true → stn W H op b = true
theorem fillWaysAt_s {M : Mem} {W H : Int} {op f : Int → Bool} (hy : YC M W H op) (hf : FTc M W H f) (hs : FS W H op f) {c : Int} (c0 : 0 ≤ c) (c1 : c < W * H) (hT : ∀ u, 0 ≤ u → u < p2 W → gL M 9 (256 * (c + 1) + u) = lN (wyc W op f (W * H) (c + 1) (rot W ((c + 1) % W) u))) : ∃ M2, m_X7_fillWaysAt M c = some M2 ∧ (∀ u, 0 ≤ u → u < p2 W → gL M2 9 (256 * c + u) = lN (wyc W op f (W * H) c (rot W (c % W) u))) ∧ (∀ j, 256 * (c + 1) ≤ j → gL M2 9 j = gL M 9 j) := by
  have hW := hy.2.2.1
  have h8 := WH_le hW
  have hp := p2_256 hW.1 hW.2.1
  have hcx := cx_r hW c0 c1
  have hw2 := hW.2.1
  have hb0 := Bt0 (x := c % W) (by omega) (by omega)
  have hbW := Bt0 (x := W) (by have := hW.1; omega) (by omega)
  rw [nx_x hW.1 hW.2.1 c0] at hT
  unfold m_X7_fillWaysAt
  rw [column_s hy c0 (by omega), bd1_q, wr_id (x := 2 * c) (by omega) (by omega), wr_id (x := 2 * c + 1) (by omega) (by omega), if_pos (by omega), if_pos (by omega), hf (2 * c) (by omega) (by omega), hf (2 * c + 1) (by omega) (by omega), hb0.1]
  obtain ⟨M2, e2, h2, h3, f2⟩ := for_M (f := fun s => m_X7_fillWaysAt_L47 s.2 c (c * 256) (c * 256 + 256) (p2 (c % W)) (bI (f (2 * c))) (bI (f (2 * c + 1))) s.1) 0 (p2 W) (fun i M' => (∀ u, 0 ≤ u → u < i → gL M' 9 (256 * c + u) = lN (wyc W op f (W * H) c (rot W (c % W) u))) ∧ (∀ j, 256 * (c + 1) ≤ j → gL M' 9 j = gL M 9 j) ∧ Fr [9] M M') (fun u M' u0 u1 hI => by
    show ∃ M2, m_X7_fillWaysAt_L47 M' c (c * 256) (c * 256 + 256) (p2 (c % W)) (bI (f (2 * c))) (bI (f (2 * c + 1))) u = _ ∧ _
    unfold m_X7_fillWaysAt_L47
    have hy' := hy.fr hI.2.2 (by decide) (by decide)
    have hr0 := Rt0 (x := c % W) hW.1 hW.2.1 (by omega) (by omega) u0 u1
    have hr1 := Rt1 (x := c % W) hW.1 hW.2.1 (by omega) (by omega) u0 u1
    have hA : ∀ v, 0 ≤ v → v < p2 W → gL M' 9 (256 * (c + 1) + v) = lN (wyc W op f (W * H) (c + 1) (rot W ((c % W + 1) % W) v)) := fun v v0 v1 => (hI.2.1 _ (by omega)).trans (hT v v0 v1)
    have i1 := Bt1 (u := u) (x := c % W) u0 (by omega) (by omega) (by omega)
    have i2 := Bt1 (u := u) (x := c % W + 1) u0 (by omega) (by omega) (by omega)
    rw [hb0.2.2.1] at i2
    have wri : ∀ y, wr (iand u y) = iand u y := fun y => by
      unfold iand
      exact wr_id (Int32.le_toInt _) (by have := Int32.toInt_lt (Int32.ofInt u &&& Int32.ofInt y); omega)
    rw [hy'.1, hbW.1, wr_id (x := p2 W) (by omega) (by omega), wr_id (x := u) (by omega) (by omega), if_neg (by omega), wr_id (x := c) (by omega) (by omega), if_pos (c := 0 ≤ c ∧ c < 64) (by omega), hy'.2.2.2 c c0 (by omega), wri, wri]
    obtain ⟨v, ev, hv⟩ : ∃ v, (if wr (bI (op c)) = 0 then if iand u (p2 (c % W)) = 0 then if 0 ≤ wr (c * 256 + 256 + u) ∧ wr (c * 256 + 256 + u) < 16640 then some (gL M' 9 (wr (c * 256 + 256 + u))) else none else some 0 else if iand u (p2 (c % W)) = 0 then bd1 (if wr (bI (f (2 * c))) = 0 then some 0 else if iand u (2 * p2 (c % W)) = 0 then if 0 ≤ wr (c * 256 + 256 + u + 2 * p2 (c % W)) ∧ wr (c * 256 + 256 + u + 2 * p2 (c % W)) < 16640 then some (gL M' 9 (wr (c * 256 + 256 + u + 2 * p2 (c % W)))) else none else some 0) fun v12 => if wr (bI (f (2 * c + 1))) = 0 then some v12 else if 0 ≤ wr (c * 256 + 256 + u + p2 (c % W)) ∧ wr (c * 256 + 256 + u + p2 (c % W)) < 16640 then some (v12 + gL M' 9 (wr (c * 256 + 256 + u + p2 (c % W)))) else none else if 0 ≤ wr (c * 256 + 256 + u - p2 (c % W)) ∧ wr (c * 256 + 256 + u - p2 (c % W)) < 16640 then some (gL M' 9 (wr (c * 256 + 256 + u - p2 (c % W)))) else none) = some v ∧ v = lN (wyc W op f (W * H) c (rot W (c % W) u)) := by
      simp only [wrb]
      rw [wyc_s c1]
      by_cases hz : u / p2 (c % W) % 2 = 0
      · obtain ⟨a1, a2, a3, a4⟩ := hr1.1 hz
        rw [if_pos (i1.mpr hz), if_pos (i1.mpr hz), if_neg (c := rot W (c % W) u % 2 = 1) (by omega), if_neg (c := rot W (c % W) u % 2 = 1) (by omega)]
        cases ho : op c
        · rw [if_ff, if_ff, show c * 256 + 256 + u = 256 * (c + 1) + u by omega, wr_id (x := 256 * (c + 1) + u) (by omega) (by omega), if_pos (by omega), hA u u0 u1, a1]
          exact ⟨_, rfl, rfl⟩
        · rw [if_tf, if_tf]
          have eE : (if f (2 * c) = false then some 0 else if iand u (2 * p2 (c % W)) = 0 then if 0 ≤ wr (c * 256 + 256 + u + 2 * p2 (c % W)) ∧ wr (c * 256 + 256 + u + 2 * p2 (c % W)) < 16640 then some (gL M' 9 (wr (c * 256 + 256 + u + 2 * p2 (c % W)))) else none else some 0) = some (lN (if f (2 * c) = true ∧ rot W (c % W) u / 2 % 2 = 0 then wyc W op f (W * H) (c + 1) (rot W (c % W) u / 2 + 1) else 0)) := by
            cases hfe : f (2 * c)
            · rw [if_ff, if_neg (by simp), lN0]
            · have hx := stn_east hW (hs _ hfe)
              rw [if_tf]
              by_cases hz2 : u / (2 * p2 (c % W)) % 2 = 0
              · obtain ⟨b1, b2⟩ := a4 hx hz2
                rw [if_pos (i2.mpr hz2), if_pos (c := true = true ∧ rot W (c % W) u / 2 % 2 = 0) ⟨rfl, by rw [hr0.2.2.2 hx]; exact hz2⟩, show c * 256 + 256 + u + 2 * p2 (c % W) = 256 * (c + 1) + (u + 2 * p2 (c % W)) by omega, wr_id (x := 256 * (c + 1) + (u + 2 * p2 (c % W))) (by omega) (by omega), if_pos (by omega), hA _ (by omega) b2, b1]
              · rw [if_neg (fun q => hz2 (i2.mp q)), if_neg (fun q => hz2 (by rw [← hr0.2.2.2 hx]; exact q.2)), lN0]
          rw [eE, bd1_q]
          cases hfs : f (2 * c + 1)
          · rw [if_ff, if_neg (c := false = true) (by simp), Nat.add_zero]
            exact ⟨_, rfl, rfl⟩
          · rw [if_tf, if_pos (c := true = true) rfl, show c * 256 + 256 + u + p2 (c % W) = 256 * (c + 1) + (u + p2 (c % W)) by omega, wr_id (x := 256 * (c + 1) + (u + p2 (c % W))) (by omega) (by omega), if_pos (by omega), hA _ (by omega) a3, a2, lN_add]
            exact ⟨_, rfl, rfl⟩
      · obtain ⟨a1, a2⟩ := hr1.2 hz
        rw [if_neg (fun q => hz (i1.mp q)), if_neg (fun q => hz (i1.mp q)), if_pos (c := rot W (c % W) u % 2 = 1) (by omega), if_pos (c := rot W (c % W) u % 2 = 1) (by omega)]
        cases ho : op c
        · rw [if_ff, if_ff]
          exact ⟨_, rfl, lN0⟩
        · rw [if_tf, if_tf, show c * 256 + 256 + u - p2 (c % W) = 256 * (c + 1) + (u - p2 (c % W)) by omega, wr_id (x := 256 * (c + 1) + (u - p2 (c % W))) (by omega) (by omega), if_pos (by omega), hA _ a2 (by omega), a1]
          exact ⟨_, rfl, rfl⟩
    rw [ev, bd1_q, show c * 256 + u = 256 * c + u by omega, wr_id (x := 256 * c + u) (by omega) (by omega), if_pos (by omega), lt_q, hv]
    refine ⟨_, rfl, fun w w0 w1 => ?_, fun j hj => ?_, hI.2.2.sL (by decide) rfl⟩
    · rw [gL_sL]
      by_cases e : w = u
      · rw [if_pos ⟨rfl, by rw [e]⟩, e]
      · rw [if_neg (by omega)]; exact hI.1 w w0 (by omega)
    · rw [gL_sL, if_neg (by omega)]; exact hI.2.1 j hj) (fun M' hI => by
    show m_X7_fillWaysAt_L47 M' c (c * 256) (c * 256 + 256) (p2 (c % W)) (bI (f (2 * c))) (bI (f (2 * c + 1))) (p2 W) = _
    unfold m_X7_fillWaysAt_L47
    rw [fI hI.2.2 (by decide), hy.1, hbW.1, if_pos (Int.le_refl _)]) (by omega) (by omega) (M0 := M) ⟨fun u u0 u1 => by omega, fun _ _ => rfl, Fr.rf⟩
  rw [e2, bd2_q]
  exact ⟨M2, rfl, h2, h3⟩
