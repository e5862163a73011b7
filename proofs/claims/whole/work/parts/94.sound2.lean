/-! sound: the class's count -/
theorem tL_s {st : Int → (Int → Nat) → Int → Nat} {t : Int} (h : 0 ≤ t) (g : Int → Nat) : tL st (t + 1).toNat g = tL st t.toNat (st t g) := by
  rw [show (t + 1).toNat = t.toNat + 1 by omega]
  show tL st t.toNat (st (t.toNat : Int) g) = _
  rw [Int.toNat_of_nonneg h]
theorem countSound_s {M : Mem} {W H : Int} {op : Int → Bool} (hy : YC M W H op) (hD : DRs M) : ∃ M2, m_X0_countSound M = some (lN (tL (tK H (opT W H op) (fT W H (stn W H op))) (W * H).toNat e00), M2) ∧ DRs M2 := by
  have hW := hy.2.2.1
  obtain ⟨a1, a2, a3, a4⟩ := hW
  have hW := hy.2.2.1
  have h8 := WH_le hW
  have hp := p2_256 a3 a4
  generalize hst : tK H (opT W H op) (fT W H (stn W H op)) = st
  have hK : ∀ (x y : Int) (g : Int → Nat), 0 ≤ x → 0 ≤ y → y < H → st (x * H + y) g = (if y = 0 then kk x (tsc H (opT W H op) (fT W H (stn W H op)) (x * H + y) g) else tsc H (opT W H op) (fT W H (stn W H op)) (x * H + y) g) := fun x y g x0 y0 y1 => by
    rw [← hst]
    unfold tK
    have e1 : (x * H + y) % H = y := by
      rw [Int.add_comm, Int.add_mul_emod_self_right]
      exact Int.emod_eq_of_lt y0 y1
    rw [e1]
    by_cases z : y = 0
    · rw [if_pos z, if_pos z]
      unfold kk
      by_cases q : 0 < x
      · have : 0 < x * H := Int.mul_pos q (by omega)
        rw [if_pos q, if_pos (by omega)]
      · have : x = 0 := by omega
        rw [if_neg q, if_neg (by rw [this, Int.zero_mul]; omega)]
    · rw [if_neg z, if_neg z]
  obtain ⟨n1, n2, d1, d2, hn⟩ : ∃ n1 n2, dR M 14 0 = n1 ∧ dR M 14 1 = n2 ∧ ((n1 = 15 ∧ n2 = 16) ∨ (n1 = 16 ∧ n2 = 15)) := ⟨_, _, rfl, rfl, hD.2⟩
  have ly1 : ∀ n, n = 15 ∨ n = 16 → ly n = (2, 256) := fun n q => by rcases q with q | q <;> rw [q] <;> decide
  have o1 : n1 = 15 ∨ n1 = 16 := by omega
  obtain ⟨M3, e3, h3⟩ := fillL_s M n1 0 256 (by rw [ly1 n1 o1]; rfl) (by omega)
  have f3 := fr_J7_fill_d0a16 e3
  have d31 : dR M3 14 0 = n1 := (fR f3 (by simp; omega) 0).trans d1
  have d32 : dR M3 14 1 = n2 := (fR f3 (by simp; omega) 1).trans d2
  have f4 : Fr [14, 15, 16] M (sL M3 n1 0 1) := (f3.mono (by intro k hk; simp at hk ⊢; omega)).sL (by simp; omega) rfl
  unfold m_X0_countSound
  rw [d1, if_pos (ly1 n1 o1), e3, bd1_q, d31, if_pos (ly1 n1 o1), lt_q, show wr 0 = 0 by decide]
  obtain ⟨M4, e4, m1, m2, q1, q2, q3, q4, q8⟩ := for_M (f := fun s => m_X0_countSound_L17 s.2 s.1) 0 W (fun x M' => ∃ m1 m2, dR M' 14 0 = m1 ∧ dR M' 14 1 = m2 ∧ ((m1 = 15 ∧ m2 = 16) ∨ (m1 = 16 ∧ m2 = 15)) ∧ (∀ g, rd H 0 (gL M' m1) g = lN (tL st (x * H).toNat g)) ∧ Fr [14, 15, 16] M M') (fun x M' x0 x1 hI => by
    show ∃ M2, m_X0_countSound_L17 M' x = _ ∧ _
    obtain ⟨m1, m2, q1, q2, q3, q4, q8⟩ := hI
    have hy' : YC M' W H op := hy.fr q8 (by decide) (by decide)
    have xH : 0 ≤ x * H := Int.mul_nonneg x0 (by omega)
    -- the line's kill
    obtain ⟨M5, e5, g5, f5, r51, r52⟩ : ∃ M5, (if wr x ≤ 0 then some M' else if ly (dR M' 14 0) = (2, 256) then lt (sL M' (dR M' 14 0) (wr 0) (0 : Int64)) fun M9 => some M9 else none) = some M5 ∧ (∀ g, rd H 0 (gL M5 m1) g = lN (tL st (x * H).toNat (kk x g))) ∧ Fr [14, 15, 16] M M5 ∧ dR M5 14 0 = m1 ∧ dR M5 14 1 = m2 := by
      rw [wr_id (x := x) (by omega) (by omega)]
      by_cases z : x ≤ 0
      · rw [if_pos z]
        refine ⟨M', rfl, fun g => ?_, q8, q1, q2⟩
        unfold kk
        rw [if_neg (by omega)]; exact q4 g
      · rw [if_neg z, q1, if_pos (ly1 m1 (by omega)), lt_q, show wr 0 = 0 by decide]
        refine ⟨_, rfl, fun g => ?_, q8.sL (by simp; omega) rfl, q1, q2⟩
        unfold kk
        rw [if_pos (by omega), ← q4]
        exact rd_kz (by rw [gL_sL, if_pos ⟨rfl, rfl⟩]) (fun v hv => by rw [gL_sL, if_neg (fun q => hv q.2)])
    unfold m_X0_countSound_L17
    rw [hy'.1, wr_id (x := W) (by omega) (by omega), if_neg (by rw [wr_id (x := x) (by omega) (by omega)]; omega), e5, bd1_q]
    obtain ⟨M6, e6, k1, k2, p1, p2', p3, p4, p8⟩ := for_M (f := fun s => m_X0_countSound_L38 s.2 x s.1) 0 H (fun y M' => ∃ m1 m2, dR M' 14 0 = m1 ∧ dR M' 14 1 = m2 ∧ ((m1 = 15 ∧ m2 = 16) ∨ (m1 = 16 ∧ m2 = 15)) ∧ (∀ g, rd H (y % H) (gL M' m1) g = lN (if y = 0 then tL st (x * H).toNat (kk x g) else tL st (x * H + y).toNat g)) ∧ Fr [14, 15, 16] M M') (fun y My y0 y1 hJ => by
      show ∃ M2, m_X0_countSound_L38 My x y = _ ∧ _
      obtain ⟨m1, m2, q1, q2, q3, q4, q8⟩ := hJ
      have hyy : YC My W H op := hy.fr q8 (by decide) (by decide)
      have o2 : m2 = 15 ∨ m2 = 16 := by omega
      have o3 : m1 = 15 ∨ m1 = 16 := by omega
      obtain ⟨M7, e7, h7⟩ := fillL_s My m2 0 256 (by rw [ly1 m2 o2]; rfl) (by omega)
      have f7 := fr_J7_fill_d0a16 e7
      have f17 : Fr [14, 15, 16] M M7 := q8.trans f7 (by intro k hk; simp at hk ⊢; omega)
      obtain ⟨M8, e8, g8, f8⟩ := pass_s (hyy.fr f7 (by simp; omega) (by simp; omega)) x0 x1 y0 y1 (n1 := m1) (n2 := m2) ((fR f7 (by simp; omega) 0).trans q1) ((fR f7 (by simp; omega) 1).trans q2) q3 h7
      have f18 : Fr [14, 15, 16] M M8 := f17.trans f8 (by intro k hk; simp at hk ⊢; omega)
      have r1 : dR M8 14 0 = m1 := (fR f8 (by simp; omega) 0).trans ((fR f7 (by simp; omega) 0).trans q1)
      have r2 : dR M8 14 1 = m2 := (fR f8 (by simp; omega) 1).trans ((fR f7 (by simp; omega) 1).trans q2)
      unfold m_X0_countSound_L38
      rw [hyy.2.1, wr_id (x := H) (by omega) (by omega), wr_id (x := y) (by omega) (by omega), if_neg (by omega), q2, if_pos (ly1 m2 o2), e7, bd1_q, e8, bd1_q, r1, r2, if_pos (ly1 m1 o3), if_pos (ly1 m2 o2), lt_q, lt_q]
      have fe : gL M7 m1 = gL My m1 := funext (fun v => fL f7 (by simp; omega) v)
      refine ⟨_, rfl, m2, m1, ?_, ?_, by omega, fun g => ?_, (f18.sR (by simp) rfl).sR (by simp) rfl⟩
      · rw [dR_sR, if_neg (by omega), dR_sR, if_pos ⟨rfl, rfl⟩]
      · rw [dR_sR, if_pos ⟨rfl, rfl⟩]
      · show rd H ((y + 1) % H) (gL M8 m2) g = _
        have ey : y % H = y := Int.emod_eq_of_lt y0 y1
        rw [g8 g, fe]
        have := q4 (tsc H (opT W H op) (fT W H (stn W H op)) (x * H + y) g)
        rw [ey] at this
        rw [this, if_neg (c := y + 1 = 0) (by omega), ← Int.add_assoc, tL_s (by omega), hK x y g x0 y0 y1]
        by_cases z : y = 0
        · rw [if_pos z, if_pos z, z, Int.add_zero]
        · rw [if_neg z, if_neg z]) (fun My hJ => by
      show m_X0_countSound_L38 My x H = _
      obtain ⟨m1, m2, q1, q2, q3, q4, q8⟩ := hJ
      unfold m_X0_countSound_L38
      rw [(hy.fr q8 (by decide) (by decide)).2.1, if_pos (Int.le_refl _)]) (by omega) (by omega) (M0 := M5) ⟨m1, m2, r51, r52, q3, fun g => by rw [Int.zero_emod, if_pos rfl]; exact g5 g, f5⟩
    rw [e6, bd2_q]
    refine ⟨M6, rfl, k1, k2, p1, p2', p3, fun g => ?_, p8⟩
    have := p4 g
    rw [Int.emod_self, if_neg (by omega)] at this
    rw [this, Int.add_mul, Int.one_mul]) (fun M' hI => by
    show m_X0_countSound_L17 M' W = _
    obtain ⟨m1, m2, q1, q2, q3, q4, q8⟩ := hI
    unfold m_X0_countSound_L17
    rw [(hy.fr q8 (by decide) (by decide)).1, if_pos (Int.le_refl _)]) (by omega) (by omega) (M0 := sL M3 n1 0 1) ⟨n1, n2, d31, d32, hn, fun g => by
      rw [rd_add (F := gL M3 n1) (y := 0) (a := 1) (fun q hq => by rw [gL_sL, if_neg (fun z => hq z.2)]) (by rw [gL_sL, if_pos ⟨rfl, rfl⟩, h3 0 (by omega) (by omega)]; rfl) (by omega) (by omega), rot_0]
      have hz : rd H 0 (gL M3 n1) g = 0 := by
        unfold rd
        exact sl_0 _ (fun v v0 v1 => by rw [h3 v v0 (by omega), Int64.zero_mul])
      rw [hz, Int64.one_mul, Int64.zero_add, Int.zero_mul]
      rfl, f4⟩
  rw [e4, bd2_q, q1, if_pos (ly1 m1 (by omega)), show gL M4 m1 0 = _ from (rd_e0 (W := H) (F := gL M4 m1) (by omega)).symm.trans (q4 e00)]
  refine ⟨M4, rfl, ?_, ?_⟩
  · rw [fR q8 (by decide), fR q8 (by decide)]; exact hD.1
  · rw [q1, q2]; exact q3
