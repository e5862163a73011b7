/-! settle: turns of one way until none is left -/
def hvl (W c : Int) : Int := if (c % W + c / W) % 2 = 0 then c / W else -(c / W)
def phc (W H : Int) (op : Int → Bool) (p : Int → Int) (c : Int) : Int := if iso W H op c = true ∧ p c = 2 * c then hvl W c else 0
def Phi (W H : Int) (op : Int → Bool) (p : Int → Int) : Int := sm (W * H).toNat (phc W H op p)
theorem sm_b (g : Int → Int) : ∀ n : Nat, (∀ i : Int, 0 ≤ i → i < n → -7 ≤ g i ∧ g i ≤ 7) → -(7 * (n : Int)) ≤ sm n g ∧ sm n g ≤ 7 * (n : Int) := by
  intro n
  induction n with
  | zero => intro _; rw [sm_z]; omega
  | succ n ih =>
    intro h
    have h1 := ih (fun i a b => h i a (by omega))
    have h2 := h n (by omega) (by omega)
    rw [sm_s]
    omega
theorem Phi_b {W H : Int} {op : Int → Bool} {p : Int → Int} (hW : WHr W H) : -448 ≤ Phi W H op p ∧ Phi W H op p ≤ 448 := by
  have h8 := WH_le hW
  have a1 := hW
  obtain ⟨a1, a2, a3, a4⟩ := a1
  have h := sm_b (phc W H op p) (W * H).toNat (fun i i0 i1 => by
    unfold phc
    split
    · have hd : 0 ≤ i / W ∧ i / W < H := ⟨Int.ediv_nonneg i0 (by omega), Int.ediv_lt_of_lt_mul (by omega) (by rw [Int.mul_comm]; omega)⟩
      unfold hvl
      split <;> omega
    · omega)
  have h0 : 0 ≤ W * H := Int.mul_nonneg (by omega) (by omega)
  unfold Phi
  omega
theorem Phi_t {W H : Int} {op : Int → Bool} {p : Int → Int} (hW : WHr W H) (hp : Pav W H op p) {x y : Int} (h : wT W H op p x y ≠ -1) : Phi W H op (tP W H p (cq W x y)) = Phi W H op p + (1 - 2 * wT W H op p x y) := by
  obtain ⟨hz, hq, hc⟩ := wT_q hW h
  have hi := hq.i hW
  have ho := hq.o hW
  generalize cq W x y = c at *
  obtain ⟨⟨p0, p1, p2, p3⟩, ⟨c0, c1⟩, ⟨d1, d2, d3, d4, d5, d6⟩, -⟩ := hq
  obtain ⟨⟨o1, o2, o3, o4⟩, t1, t2, t3, t4⟩ := ho
  have a1 := hW.1
  have hu : ∀ e, tP W H p c e = if p c = 2 * c then (if e = c + 1 ∨ e = c + W + 1 then 2 * c + 3 else if e = c ∨ e = c + W then 2 * c + 1 else p e) else (if e = c + W ∨ e = c + W + 1 then 2 * (c + W) else if e = c ∨ e = c + 1 then 2 * c else p e) := by
    intro e
    unfold tP
    by_cases z : p c = 2 * c
    · rw [if_pos z, if_pos z]; unfold puts
      rw [o2, o3, show (2 * c + 3) / 2 = c + 1 by omega, show (2 * c + 1) / 2 = c by omega]
    · rw [if_neg z, if_neg z]; unfold puts
      rw [o1, o4, show 2 * (c + W) / 2 = c + W by omega, show (2 * c) / 2 = c by omega]
  have v1 : hvl W c = if (x + y) % 2 = 0 then y - 1 else -(y - 1) := by
    unfold hvl; rw [d1, d2]
    by_cases z : (x + y) % 2 = 0
    · rw [if_pos z, if_pos (by omega)]
    · rw [if_neg z, if_neg (by omega)]
  have v2 : hvl W (c + W) = if (x + y) % 2 = 0 then -y else y := by
    unfold hvl; rw [d5, d6]
    by_cases z : (x + y) % 2 = 0
    · rw [if_pos z, if_neg (by omega)]
    · rw [if_neg z, if_pos (by omega)]
  have key : ∀ u v : Int, (∀ e, 0 ≤ e → e < W * H → phc W H op (tP W H p c) e = if e = c then u else if e = c + W then v else phc W H op p e) → Phi W H op (tP W H p c) = Phi W H op p + (v - phc W H op p (c + W)) + (u - phc W H op p c) := by
    intro u v hh
    unfold Phi
    rw [sm_congr (h := fun q => if q = c then u else (fun q => if q = c + W then v else phc W H op p q) q) (fun e e0 e1 => hh e e0 (by omega)), sm_up (fun q => if q = c + W then v else phc W H op p q) c u (by omega), sm_up _ (c + W) v (by omega), if_pos (by omega), if_pos (by omega), if_neg (by omega)]
  have ic := hi.1
  have ic1 := hi.2.1
  have icw := hi.2.2.1
  have icw1 := hi.2.2.2
  rcases hc with ⟨w1, w2, w3⟩ | ⟨w1, w2, w3⟩
  · have q1 := (hp c ic).2.2.2
    have q2 := (hp (c + W) icw).2.2.2
    rw [w1, o1] at q1
    rw [w2, o4] at q2
    simp only [if_pos w1] at hu
    have f1 : phc W H op p c = hvl W c := by unfold phc; rw [if_pos ⟨ic, w1⟩]
    have f2 : phc W H op p (c + W) = hvl W (c + W) := by unfold phc; rw [if_pos ⟨icw, w2⟩]
    rw [key 0 0 (fun e e0 e1 => ?_), f1, f2, v1, v2, w3]
    · by_cases z : (x + y) % 2 = 0
      · rw [if_pos z, if_pos z]; omega
      · rw [if_neg z, if_neg z]; omega
    · unfold phc
      rw [hu e]
      by_cases k1 : e = c
      · rw [if_pos k1, if_neg (fun q => by have := q.2; rw [if_neg (by omega), if_pos (by omega)] at this; omega)]
      · rw [if_neg k1]
        by_cases k2 : e = c + W
        · rw [if_pos k2, if_neg (fun q => by have := q.2; rw [if_neg (by omega), if_pos (by omega)] at this; omega)]
        · rw [if_neg k2]
          by_cases k3 : e = c + 1 ∨ e = c + W + 1
          · rw [if_pos k3, if_neg (by omega), if_neg]
            rintro ⟨-, q⟩
            rcases k3 with k3 | k3 <;> subst k3 <;> omega
          · rw [if_neg k3, if_neg (c := e = c ∨ e = c + W) (by omega)]
  · have q1 := (hp c ic).2.2.2
    have q2 := (hp (c + 1) ic1).2.2.2
    rw [w1, o2] at q1
    rw [w2, o3] at q2
    have w0 : ¬ p c = 2 * c := by omega
    simp only [if_neg w0] at hu
    have f1 : phc W H op p c = 0 := by unfold phc; rw [if_neg (fun q => w0 q.2)]
    have f2 : phc W H op p (c + W) = 0 := by unfold phc; rw [if_neg (fun q => by have := q.2; omega)]
    rw [key (hvl W c) (hvl W (c + W)) (fun e e0 e1 => ?_), f1, f2, v1, v2, w3]
    · by_cases z : (x + y) % 2 = 0
      · rw [if_pos z, if_pos z]; omega
      · rw [if_neg z, if_neg z]; omega
    · unfold phc
      rw [hu e]
      by_cases k1 : e = c
      · subst k1
        rw [if_pos rfl, if_neg (c := e = e + W ∨ _) (by omega), if_pos (c := e = e ∨ _) (Or.inl rfl), if_pos ⟨ic, rfl⟩]
      · rw [if_neg k1]
        by_cases k2 : e = c + W
        · subst k2
          rw [if_pos rfl, if_pos (c := c + W = c + W ∨ _) (Or.inl rfl), if_pos ⟨icw, rfl⟩]
        · rw [if_neg k2]
          by_cases k3 : e = c + W ∨ e = c + W + 1
          · rw [if_pos k3, if_neg (by omega), if_neg]
            rintro ⟨-, q⟩
            rcases k3 with k3 | k3 <;> subst k3 <;> omega
          · rw [if_neg k3]
            by_cases k4 : e = c ∨ e = c + 1
            · rw [if_pos k4, if_neg (by omega), if_neg]
              rintro ⟨-, q⟩
              rcases k4 with k4 | k4 <;> subst k4 <;> omega
            · rw [if_neg k4]
def stT (W H : Int) (op : Int → Bool) (way : Int) (s : Int × (Int → Int)) (k : Int) : Int × (Int → Int) := if wT W H op s.2 (k % 9) (k / 9) = way then (s.1 + 1, tP W H s.2 (cq W (k % 9) (k / 9))) else s
def GT (W H : Int) (op : Int → Bool) (way : Int) (P0 : Int) (s : Int × (Int → Int)) : Prop := Pav W H op s.2 ∧ 0 ≤ s.1 ∧ Phi W H op s.2 = P0 + (if way = 0 then s.1 else -s.1)
theorem stT_G {W H : Int} {op : Int → Bool} {way P0 : Int} (hW : WHr W H) (hw : way = 0 ∨ way = 1) {s : Int × (Int → Int)} (h : GT W H op way P0 s) (k : Int) : GT W H op way P0 (stT W H op way s k) ∧ s.1 ≤ (stT W H op way s k).1 := by
  unfold stT
  by_cases z : wT W H op s.2 (k % 9) (k / 9) = way
  · rw [if_pos z]
    have hne : wT W H op s.2 (k % 9) (k / 9) ≠ -1 := by omega
    obtain ⟨h1, h2, h3⟩ := h
    refine ⟨⟨tP_pav hW h1 hne, ?_, ?_⟩, ?_⟩
    · dsimp only; omega
    · dsimp only
      rw [Phi_t hW h1 hne, h3, z]
      rcases hw with w | w <;> subst w
      · rw [if_pos rfl, if_pos rfl]; omega
      · rw [if_neg (by omega), if_neg (by omega)]; omega
    · dsimp only; omega
  · rw [if_neg z]; exact ⟨h, by omega⟩
theorem stT_off {W H : Int} {op : Int → Bool} {way : Int} (hW : WHr W H) (hw : way = 0 ∨ way = 1) {k : Int} (h : ¬ (1 ≤ k % 9 ∧ k % 9 < W ∧ 1 ≤ k / 9 ∧ k / 9 < H)) (s : Int × (Int → Int)) : stT W H op way s k = s := by
  unfold stT
  rw [wT_off hW h, if_neg (by omega)]
theorem fo_G {W H : Int} {op : Int → Bool} {way P0 : Int} (hW : WHr W H) (hw : way = 0 ∨ way = 1) {s : Int × (Int → Int)} (h : GT W H op way P0 s) : ∀ n : Nat, GT W H op way P0 (fo (stT W H op way) n s) ∧ s.1 ≤ (fo (stT W H op way) n s).1 := by
  intro n
  induction n with
  | zero => exact ⟨h, Int.le_refl _⟩
  | succ n ih =>
    have := stT_G hW hw ih.1 n
    exact ⟨this.1, Int.le_trans ih.2 this.2⟩
def MCt (a : Nat) (W H : Int) (op : Int → Bool) (M0 : Mem) (p : Int → Int) (M : Mem) : Prop := Fr [a + 1] M0 M ∧ ∀ q, iso W H op q = true → gI M (a + 1) q = p q
theorem turnAll33_s {M0 : Mem} {W H : Int} {op : Int → Bool} (hy : YC M0 W H op) {a : Nat} (la : 2 < a) {way P0 : Int} (hw : way = 0 ∨ way = 1) {s : Int × (Int → Int)} (hG : GT W H op way P0 s) {M : Mem} (hM : MCt a W H op M0 s.2 M) {x y p5 p6 : Int} (x0 : 0 ≤ x) (x1 : x < W) (y0 : 0 ≤ y) (y1 : y ≤ 9) : ∃ M2, m_X1_turnAll_L33 M a way p5 p6 y s.1 x = some (.inl ((stT W H op way s (9 * y + x)).1, x + 1, M2)) ∧ MCt a W H op M0 (stT W H op way s (9 * y + x)).2 M2 := by
  have hW := hy.2.2.1
  obtain ⟨a1, a2, a3, a4⟩ := hW
  have hW := hy.2.2.1
  have hyM := hy.fr hM.1 (by simp; omega) (by simp; omega)
  unfold m_X1_turnAll_L33 stT
  rw [hyM.1, wr_id (x := W) (by omega) (by omega), wr_id (x := x) (by omega) (by omega), if_neg (by omega), wayOfTurn_s hyM hG.1 hM.2 x0 (by omega) y0 y1, bd1_q, show (9 * y + x) % 9 = x by omega, show (9 * y + x) / 9 = y by omega]
  have hwr : wr (wT W H op s.2 x y) = wT W H op s.2 x y := by
    rcases wT_r (W := W) (H := H) (op := op) (p := s.2) (x := x) (y := y) with q | q | q <;> rw [q] <;> rfl
  rw [hwr, wr_id (x := way) (by omega) (by omega)]
  by_cases z : wT W H op s.2 x y = way
  · obtain ⟨M2, e2, g2⟩ := makeTurn_s hyM hG.1 la hM.2 (x := x) (y := y) (by omega)
    rw [if_pos z, if_pos z, e2, bd1_q, bd2_q]
    exact ⟨M2, rfl, hM.1.trans (fr_X1_makeTurn e2) (fun k h => h), g2⟩
  · rw [if_neg z, if_neg z, bd2_q]
    exact ⟨M, rfl, hM⟩
theorem turnAll21_s {M0 : Mem} {W H : Int} {op : Int → Bool} (hy : YC M0 W H op) {a : Nat} (la : 2 < a) {way P0 : Int} (hw : way = 0 ∨ way = 1) {s : Int × (Int → Int)} (hG : GT W H op way P0 s) {M : Mem} (hM : MCt a W H op M0 s.2 M) {p5 p6 : Int} : ∃ z M2, itr (fun s => m_X1_turnAll_L21 s.2.2 a way p5 p6 s.1 s.2.1) FU (s.1, 1, M) = some ((fo (stT W H op way) 81 s).1, z, M2) ∧ MCt a W H op M0 (fo (stT W H op way) 81 s).2 M2 := by
  have hW := hy.2.2.1
  obtain ⟨a1, a2, a3, a4⟩ := hW
  have hW := hy.2.2.1
  obtain ⟨⟨u, z, M2⟩, e, h⟩ := for_g (f := fun s => m_X1_turnAll_L21 s.2.2 a way p5 p6 s.1 s.2.1) 1 H (fun y t => t.2.1 = y ∧ t.1 = (fo (stT W H op way) (9 * y + 1).toNat s).1 ∧ MCt a W H op M0 (fo (stT W H op way) (9 * y + 1).toNat s).2 t.2.2) (fun r => r.1 = (fo (stT W H op way) 81 s).1 ∧ MCt a W H op M0 (fo (stT W H op way) 81 s).2 r.2.2) (by
    rintro y ⟨u, y', Mu⟩ y0 y1 ⟨g0, g1, g2⟩
    dsimp only at g0 g1 g2
    subst g0
    left
    show ∃ s2, m_X1_turnAll_L21 Mu a way p5 p6 u y' = _ ∧ _
    have hyM := hy.fr g2.1 (by simp; omega) (by simp; omega)
    unfold m_X1_turnAll_L21
    obtain ⟨⟨u2, z2, M3⟩, e2, h2, h3⟩ := for_g (f := fun s => m_X1_turnAll_L33 s.2.2 a way p5 p6 y' s.1 s.2.1) 1 W (fun x t => t.2.1 = x ∧ t.1 = (fo (stT W H op way) (9 * y' + x).toNat s).1 ∧ MCt a W H op M0 (fo (stT W H op way) (9 * y' + x).toNat s).2 t.2.2) (fun r => r.1 = (fo (stT W H op way) (9 * y' + W).toNat s).1 ∧ MCt a W H op M0 (fo (stT W H op way) (9 * y' + W).toNat s).2 r.2.2) (by
      rintro x ⟨v, x', Mv⟩ x0 x1 ⟨k0, k1, k2⟩
      dsimp only at k0 k1 k2
      subst k0
      left
      show ∃ s2, m_X1_turnAll_L33 Mv a way p5 p6 y' v x' = _ ∧ _
      rw [k1]
      obtain ⟨M4, e4, h4⟩ := turnAll33_s hy la hw (fo_G hW hw hG (9 * y' + x').toNat).1 k2 (p5 := p5) (p6 := p6) (x := x') (y := y') (by omega) x1 (by omega) (by omega)
      refine ⟨_, e4, rfl, ?_, ?_⟩
      · dsimp only
        rw [show 9 * y' + (x' + 1) = 9 * y' + x' + 1 by omega, fo_s _ (by omega)]
      · dsimp only
        rw [show 9 * y' + (x' + 1) = 9 * y' + x' + 1 by omega, fo_s _ (by omega)]
        exact h4) (by
      rintro ⟨v, x', Mv⟩ ⟨k0, k1, k2⟩
      dsimp only at k0 k1 k2
      have hyv := hy.fr k2.1 (by simp; omega) (by simp; omega)
      refine ⟨(v, x', Mv), ?_, k1, k2⟩
      show m_X1_turnAll_L33 Mv a way p5 p6 y' v x' = _
      unfold m_X1_turnAll_L33
      rw [hyv.1, k0, if_pos (by omega)]) (by omega) (by omega) (s0 := (u, 1, Mu)) ⟨rfl, g1, g2⟩
    dsimp only at h2 h3
    have hk := fo_of2 (stT W H op way) (i := 9 * y' + W) (j := 9 * (y' + 1) + 1) (by omega) (by omega) s (fun k k0 k1 s => stT_off hW hw (by omega) s)
    rw [hyM.2.1, wr_id (x := H) (by omega) (by omega), wr_id (x := y') (by omega) (by omega), if_neg (by omega), e2, bd3_q]
    refine ⟨_, rfl, rfl, ?_, ?_⟩
    · dsimp only
      rw [hk]; exact h2
    · dsimp only
      rw [hk]; exact h3) (by
    rintro ⟨u, y', Mu⟩ ⟨g0, g1, g2⟩
    dsimp only at g0 g1 g2
    have hyM := hy.fr g2.1 (by simp; omega) (by simp; omega)
    have hk := fo_of2 (stT W H op way) (i := 9 * H + 1) (j := 81) (by omega) (by omega) s (fun k k0 k1 s => stT_off hW hw (by omega) s)
    refine ⟨(u, y', Mu), ?_, ?_, ?_⟩
    · show m_X1_turnAll_L21 Mu a way p5 p6 u y' = _
      unfold m_X1_turnAll_L21
      rw [hyM.2.1, g0, if_pos (by omega)]
    · show u = (fo (stT W H op way) (81 : Int).toNat s).1
      rw [hk]; exact g1
    · show MCt a W H op M0 (fo (stT W H op way) (81 : Int).toNat s).2 Mu
      rw [hk]; exact g2) (by omega) (by omega) (s0 := (s.1, 1, M)) (by
    have hk := fo_of2 (stT W H op way) (i := 0) (j := 9 * 1 + 1) (by omega) (by omega) s (fun k k0 k1 s => stT_off hW hw (by omega) s)
    refine ⟨rfl, ?_, ?_⟩
    · dsimp only
      rw [hk]; rfl
    · dsimp only
      rw [hk]; exact hM)
  dsimp only at h
  exact ⟨z, M2, by rw [e, h.1], h.2⟩
def rT (W H : Int) (op : Int → Bool) (way : Int) (p : Int → Int) (n : Nat) : Int × (Int → Int) := fo (fun s _ => fo (stT W H op way) 81 s) n (0, p)
theorem rT_s {W H : Int} {op : Int → Bool} {way : Int} {p : Int → Int} (n : Nat) : rT W H op way p (n + 1) = fo (stT W H op way) 81 (rT W H op way p n) := rfl
theorem rT_G {W H : Int} {op : Int → Bool} {way : Int} (hW : WHr W H) (hw : way = 0 ∨ way = 1) {p : Int → Int} (hp : Pav W H op p) : ∀ n : Nat, GT W H op way (Phi W H op p) (rT W H op way p n) := by
  intro n
  induction n with
  | zero => 
    refine ⟨hp, by show (0 : Int) ≤ 0; omega, ?_⟩
    show Phi W H op p = Phi W H op p + (if way = 0 then 0 else -0)
    split <;> omega
  | succ n ih => rw [rT_s]; exact (fo_G hW hw ih 81).1
theorem rT_m {W H : Int} {op : Int → Bool} {way : Int} (hW : WHr W H) (hw : way = 0 ∨ way = 1) {p : Int → Int} (hp : Pav W H op p) (n : Nat) : (rT W H op way p n).1 ≤ (rT W H op way p (n + 1)).1 ∧ 0 ≤ (rT W H op way p n).1 ∧ (rT W H op way p n).1 ≤ 896 := by
  have hG := rT_G hW hw hp n
  refine ⟨by rw [rT_s]; exact (fo_G hW hw hG 81).2, hG.2.1, ?_⟩
  have h1 := Phi_b (op := op) (p := p) hW
  have h2 := Phi_b (op := op) (p := (rT W H op way p n).2) hW
  have h3 := hG.2.2
  rcases hw with w | w <;> subst w
  · rw [if_pos rfl] at h3; omega
  · rw [if_neg (by omega)] at h3; omega
theorem fst_or (P : Nat → Prop) : ∀ N : Nat, (∀ j, j < N → ¬ P j) ∨ ∃ i, i < N ∧ P i ∧ ∀ j, j < i → ¬ P j := by
  intro N
  induction N with
  | zero => exact Or.inl (fun j h => by omega)
  | succ N ih =>
    rcases ih with h | ⟨i, h1, h2, h3⟩
    · by_cases z : P N
      · exact Or.inr ⟨N, by omega, z, h⟩
      · refine Or.inl (fun j hj => ?_)
        by_cases e : j = N
        · rw [e]; exact z
        · exact h j (by omega)
    · exact Or.inr ⟨i, by omega, h2, h3⟩
theorem rT_e {W H : Int} {op : Int → Bool} {way : Int} (hW : WHr W H) (hw : way = 0 ∨ way = 1) {p : Int → Int} (hp : Pav W H op p) : ∃ r : Nat, r < 1000 ∧ (rT W H op way p (r + 1)).1 = (rT W H op way p r).1 ∧ ∀ j, j < r → (rT W H op way p (j + 1)).1 ≠ (rT W H op way p j).1 := by
  rcases fst_or (fun r => (rT W H op way p (r + 1)).1 = (rT W H op way p r).1) 1000 with h | h
  · exfalso
    have key : ∀ n : Nat, n ≤ 1000 → (n : Int) ≤ (rT W H op way p n).1 := by
      intro n
      induction n with
      | zero => intro _; exact (rT_m hW hw hp 0).2.1
      | succ n ih =>
        intro hn
        have h1 := ih (by omega)
        have h2 := h n (by omega)
        have h3 := (rT_m hW hw hp n).1
        omega
    have h1 := key 1000 (by omega)
    have h2 := (rT_m hW hw hp 1000).2.2
    omega
  · exact h
theorem turnAll_s {M : Mem} {W H : Int} {op : Int → Bool} {p : Int → Int} (hy : YC M W H op) (hp : Pav W H op p) {a : Nat} (la : 2 < a) (ha : ∀ q, iso W H op q = true → gI M (a + 1) q = p q) {way : Int} (hw : way = 0 ∨ way = 1) {r : Nat} (r1 : r < 1000) (re : (rT W H op way p (r + 1)).1 = (rT W H op way p r).1) (rn : ∀ j, j < r → (rT W H op way p (j + 1)).1 ≠ (rT W H op way p j).1) : ∃ M2, m_X1_turnAll M a way = some ((rT W H op way p (r + 1)).1, M2) ∧ ∀ q, iso W H op q = true → gI M2 (a + 1) q = (rT W H op way p (r + 1)).2 q := by
  have hW := hy.2.2.1
  unfold m_X1_turnAll
  have st : ∀ (i : Nat) (Mu : Mem), i ≤ r → MCt a W H op M (rT W H op way p i).2 Mu → ∃ M2, m_X1_turnAll_L6 Mu a way (rT W H op way p i).1 i = (if (rT W H op way p (i + 1)).1 = (rT W H op way p i).1 then some (.inr ((rT W H op way p (i + 1)).1, i, M2)) else some (.inl ((rT W H op way p (i + 1)).1, i + 1, M2))) ∧ MCt a W H op M (rT W H op way p (i + 1)).2 M2 := by
    intro i Mu hi hM
    unfold m_X1_turnAll_L6
    obtain ⟨z, M2, e2, h2⟩ := turnAll21_s hy la hw (rT_G hW hw hp i) hM (p5 := (i : Int)) (p6 := (rT W H op way p i).1)
    have m1 := rT_m hW hw hp i
    have m2 := rT_m hW hw hp (i + 1)
    rw [show wr 10000 = 10000 by decide, wr_id (x := (i : Int)) (by omega) (by omega), if_neg (by omega), e2, bd3_q, ← rT_s, wr_id (x := (rT W H op way p (i + 1)).1) (by omega) (by omega), wr_id (x := (rT W H op way p i).1) (by omega) (by omega)]
    rw [← rT_s] at h2
    exact ⟨M2, rfl, h2⟩
  obtain ⟨⟨u, z, M2⟩, e, h⟩ := for_g (f := fun s => m_X1_turnAll_L6 s.2.2 a way s.1 s.2.1) 0 r (fun i t => t.2.1 = i ∧ t.1 = (rT W H op way p i.toNat).1 ∧ MCt a W H op M (rT W H op way p i.toNat).2 t.2.2) (fun t => t.1 = (rT W H op way p (r + 1)).1 ∧ MCt a W H op M (rT W H op way p (r + 1)).2 t.2.2) (by
    rintro i ⟨u, i', Mu⟩ i0 i1 ⟨g0, g1, g2⟩
    dsimp only at g0 g1 g2
    subst g0
    left
    obtain ⟨n, rfl⟩ : ∃ n : Nat, i' = n := ⟨i'.toNat, by omega⟩
    rw [Int.toNat_natCast] at g1 g2
    obtain ⟨M2, e2, h2⟩ := st n Mu (by omega) g2
    rw [if_neg (rn n (by omega)), ← g1] at e2
    refine ⟨_, e2, rfl, ?_, ?_⟩
    · show _ = (rT W H op way p ((n : Int) + 1).toNat).1
      rw [show ((n : Int) + 1).toNat = n + 1 by omega]
    · show MCt a W H op M (rT W H op way p ((n : Int) + 1).toNat).2 M2
      rw [show ((n : Int) + 1).toNat = n + 1 by omega]; exact h2) (by
    rintro ⟨u, i', Mu⟩ ⟨g0, g1, g2⟩
    dsimp only at g0 g1 g2
    subst g0
    rw [Int.toNat_natCast] at g1 g2
    obtain ⟨M2, e2, h2⟩ := st r Mu (by omega) g2
    rw [if_pos re, ← g1] at e2
    exact ⟨_, e2, rfl, h2⟩) (by omega) (by omega) (s0 := (0, 0, M)) ⟨rfl, rfl, Fr.rf, ha⟩
  dsimp only at h
  rw [e, bd3_q, h.1]
  exact ⟨M2, rfl, h.2.2⟩
def MRt (s : Int) (W H : Int) (op : Int → Bool) (M0 : Mem) (p : Int → Int) (M : Mem) : Prop := Fr [60] M0 M ∧ (∀ q, iso W H op q = true → gI M 60 (64 * s + q) = p q) ∧ ∀ j, ¬ (64 * s ≤ j ∧ j < 64 * s + 64) → gI M 60 j = gI M0 60 j
theorem settle51_s {M0 : Mem} {W H : Int} {op : Int → Bool} (hy : YR M0 W H op) {a : Int} (a0 : 0 ≤ a) (a1 : a < 4) {way P0 : Int} (hw : way = 0 ∨ way = 1) {s : Int × (Int → Int)} (hG : GT W H op way P0 s) {M : Mem} (hM : MRt a W H op M0 s.2 M) {p5 : Int} : ∃ z M2, itr (fun s => m_X12_settle_L51 s.2.2 a way p5 s.1 s.2.1) FU (s.1, 0, M) = some ((fo (stT W H op way) 81 s).1, z, M2) ∧ MRt a W H op M0 (fo (stT W H op way) 81 s).2 M2 := by
  have hW := hy.2.2.1
  obtain ⟨⟨u, z, M2⟩, e, h⟩ := for_g (f := fun s => m_X12_settle_L51 s.2.2 a way p5 s.1 s.2.1) 0 81 (fun k t => t.2.1 = k ∧ t.1 = (fo (stT W H op way) k.toNat s).1 ∧ MRt a W H op M0 (fo (stT W H op way) k.toNat s).2 t.2.2) (fun r => r.1 = (fo (stT W H op way) 81 s).1 ∧ MRt a W H op M0 (fo (stT W H op way) 81 s).2 r.2.2) (by
    rintro k ⟨u, k', Mu⟩ k0 k1 ⟨g0, g1, g2⟩
    dsimp only at g0 g1 g2
    subst g0
    left
    show ∃ s2, m_X12_settle_L51 Mu a way p5 u k' = _ ∧ _
    have hyM := hy.fr g2.1 (by decide) (by decide)
    have hGk := (fo_G hW hw hG k'.toNat).1
    unfold m_X12_settle_L51
    rw [show wr 81 = 81 by decide, wr_id (x := k') (by omega) (by omega), if_neg (by omega), irm_p k0 (by omega) (by omega) (by omega), idv_p k0 (by omega) (by omega) (by omega), turnOf_s hyM hGk.1 a0 a1 g2.2.1 (by omega) (by omega) (by omega) (by omega), bd1_q, fo_s _ k0, g1]
    generalize fo (stT W H op way) k'.toNat s = t at *
    have hwr : wr (wR (wT W H op t.2 (k' % 9) (k' / 9))) = wr way ↔ wT W H op t.2 (k' % 9) (k' / 9) = way := by
      unfold wR
      rcases wT_r (W := W) (H := H) (op := op) (p := t.2) (x := k' % 9) (y := k' / 9) with q | q | q <;> rw [q] <;> rcases hw with q2 | q2 <;> rw [q2] <;> decide
    unfold stT
    by_cases z : wT W H op t.2 (k' % 9) (k' / 9) = way
    · obtain ⟨M2, e2, h2, h3⟩ := across_s hyM hGk.1 a0 a1 g2.2.1 (x := k' % 9) (y := k' / 9) (by omega)
      rw [if_pos (hwr.mpr z), if_pos z, e2, bd1_q, bd2_q]
      exact ⟨_, rfl, rfl, rfl, g2.1.trans (fr_X12_across e2) (fun k h => h), h2, fun j hj => (h3 j hj).trans (g2.2.2 j hj)⟩
    · rw [if_neg (fun q => z (hwr.mp q)), if_neg z, bd2_q]
      exact ⟨_, rfl, rfl, rfl, g2⟩) (by
    rintro ⟨u, k', Mu⟩ ⟨g0, g1, g2⟩
    dsimp only at g0 g1 g2
    refine ⟨(u, k', Mu), ?_, g1, g2⟩
    show m_X12_settle_L51 Mu a way p5 u k' = _
    unfold m_X12_settle_L51
    rw [g0, if_pos (by decide)]) (by omega) (by omega) (s0 := (s.1, 0, M)) ⟨rfl, rfl, hM⟩
  dsimp only at h
  exact ⟨z, M2, by rw [e, h.1], h.2⟩
theorem settleR_s {M : Mem} {W H : Int} {op : Int → Bool} {p : Int → Int} (hy : YR M W H op) (hp : Pav W H op p) {a : Int} (a0 : 0 ≤ a) (a1 : a < 4) (ha : ∀ q, iso W H op q = true → gI M 60 (64 * a + q) = p q) {way : Int} (hw : way = 0 ∨ way = 1) {r : Nat} (r1 : r < 1000) (re : (rT W H op way p (r + 1)).1 = (rT W H op way p r).1) (rn : ∀ j, j < r → (rT W H op way p (j + 1)).1 ≠ (rT W H op way p j).1) : ∃ z M2, itr (fun s => m_X12_settle_L37 s.2.2 a way s.1 s.2.1) FU (0, (-1), M) = some ((rT W H op way p (r + 1)).1, z, M2) ∧ MRt a W H op M (rT W H op way p (r + 1)).2 M2 := by
  have hW := hy.2.2.1
  obtain ⟨⟨u, z, M2⟩, e, h⟩ := for_g (f := fun s => m_X12_settle_L37 s.2.2 a way s.1 s.2.1) 0 (r + 1) (fun i t => t.2.1 = (if i = 0 then -1 else (rT W H op way p (i.toNat - 1)).1) ∧ t.1 = (rT W H op way p i.toNat).1 ∧ MRt a W H op M (rT W H op way p i.toNat).2 t.2.2) (fun t => t.1 = (rT W H op way p (r + 1)).1 ∧ MRt a W H op M (rT W H op way p (r + 1)).2 t.2.2) (by
    rintro i ⟨u, v, Mu⟩ i0 i1 ⟨g0, g1, g2⟩
    dsimp only at g0 g1 g2
    left
    obtain ⟨n, rfl⟩ : ∃ n : Nat, i = n := ⟨i.toNat, by omega⟩
    rw [Int.toNat_natCast] at g0 g1 g2
    show ∃ s2, m_X12_settle_L37 Mu a way u v = _ ∧ _
    unfold m_X12_settle_L37
    have m1 := rT_m hW hw hp n
    have hne : ¬ wr u = wr v := by
      rw [g1, g0, wr_id (x := (rT W H op way p n).1) (by omega) (by omega)]
      by_cases z : (n : Int) = 0
      · rw [if_pos z, show wr (-1) = -1 by decide]; omega
      · rw [if_neg z]
        have m2 := rT_m hW hw hp (n - 1)
        rw [wr_id (by omega) (by omega)]
        have := rn (n - 1) (by omega)
        rw [show n - 1 + 1 = n by omega] at this
        exact this
    obtain ⟨z, M2, e2, h2⟩ := settle51_s hy a0 a1 hw (rT_G hW hw hp n) g2 (p5 := u)
    rw [if_neg hne]
    rw [← g1] at e2
    rw [e2, bd3_q]
    refine ⟨_, rfl, ?_, ?_, ?_⟩
    · show u = if (n : Int) + 1 = 0 then -1 else (rT W H op way p (((n : Int) + 1).toNat - 1)).1
      rw [if_neg (by omega), show ((n : Int) + 1).toNat - 1 = n by omega]; exact g1
    · show _ = (rT W H op way p ((n : Int) + 1).toNat).1
      rw [show ((n : Int) + 1).toNat = n + 1 by omega]; rfl
    · show MRt a W H op M (rT W H op way p ((n : Int) + 1).toNat).2 M2
      rw [show ((n : Int) + 1).toNat = n + 1 by omega]; exact h2) (by
    rintro ⟨u, v, Mu⟩ ⟨g0, g1, g2⟩
    dsimp only at g0 g1 g2
    rw [show ((r : Int) + 1).toNat = r + 1 by omega] at g0 g1 g2
    rw [if_neg (by omega), show r + 1 - 1 = r by omega] at g0
    refine ⟨(u, v, Mu), ?_, g1, g2⟩
    show m_X12_settle_L37 Mu a way u v = _
    unfold m_X12_settle_L37
    rw [if_pos (by rw [g0, g1, re])]) (by omega) (by omega) (s0 := (0, (-1), M)) ⟨rfl, rfl, Fr.rf, ha, fun _ _ => rfl⟩
  dsimp only at h
  exact ⟨z, M2, by rw [e, h.1], h.2⟩
theorem op_settle {M : Mem} (hI : Inv M) {a way : Int} (ha : -2147483648 ≤ a) (ha2 : a ≤ 2147483647) (hw : -2147483648 ≤ way) (hw2 : way ≤ 2147483647) : OpI (fun M => m_X11_settle M a way) (fun M => m_X12_settle M a way) M := by
  have hI' := hI
  obtain ⟨W, H, op, wa, pr, hd, on, ts, tp, ln, sz, it, hA⟩ := hI'
  have hA' := hA
  obtain ⟨hC, hR, hwf, hD, hS⟩ := hA'
  have hW := hC.1.1.2.2.1
  unfold OpI m_X11_settle m_X12_settle
  dsimp only
  rw [isSlot_s ha ha2, bd1_q, wr_id ha ha2, wr_id hw hw2, show wr 1 = 1 by decide, l_0, l_1]
  simp only [wrb, isSlotR_s ha ha2, bd1_q, in_s hw hw2 (show (-2147483648 : Int) ≤ 0 by omega) (by omega) (show (-2147483648 : Int) ≤ 1 by omega) (by omega)]
  by_cases c1 : 0 ≤ a ∧ a < 4
  rotate_left
  · rw [decide_eq_false c1]
    exact ⟨-1, M, M, rfl, rfl, hI⟩
  rw [decide_eq_true c1]
  simp only [if_tf]
  by_cases c2 : 0 ≤ way ∧ way ≤ 1
  rotate_left
  · rw [if_neg (by omega), if_neg (by omega), decide_eq_false c2]
    exact ⟨-1, M, M, rfl, rfl, hI⟩
  rw [decide_eq_true c2]
  have hcond : way = 0 ∨ way = 1 := by omega
  have hb : ∀ X : Option (Int × Mem), (if way = 0 then X else if way = 1 then X else some (-1, M)) = X := fun X => by
    rcases hcond with z | z
    · rw [if_pos z]
    · rw [if_neg (by omega), if_pos z]
  rw [hb]
  obtain ⟨M1, e1, f1⟩ := wholeFault_s hC.1.1 hC.2.1.1 ha ha2 ha ha2
  have hC1 := hC.fr f1 (by decide)
  have hR1 := hR.fr f1 (by decide)
  have hSm := hS.fr f1 (by decide) (by decide) (by decide) (by decide)
  have hDm := hD.fr f1 (by decide) (by decide)
  rw [e1, bd2_q]
  rcases wf_c (hd := hd) (P := Who W H op) (a := a) (b := a) with ⟨e, c⟩ | ⟨e, c, d⟩ | ⟨e, c, d, nw⟩ | ⟨e, c, d, w⟩
  · exact absurd ⟨c1.1, c1.2, c1⟩ c
  · obtain ⟨M2, e2, f2⟩ := refuses_s hR1.1.1 hR1.2.1.1 c1.1 c1.2
    refine ⟨-4, M1, M2, by rw [e]; rfl, ?_, W, H, op, wa, pr, hd, on, ts, tp, ln, sz, it, hA.quiet f1 f2 (by decide) (by decide)⟩
    rw [if_tf, e2, bd2_q, e]; rfl
  · obtain ⟨M2, e2, f2⟩ := refuses_s hR1.1.1 hR1.2.1.1 c1.1 c1.2
    refine ⟨-2, M1, M2, by rw [e]; rfl, ?_, W, H, op, wa, pr, hd, on, ts, tp, ln, sz, it, hA.quiet f1 f2 (by decide) (by decide)⟩
    rw [if_tf, e2, bd2_q, e]; rfl
  · have hp := hwf.2.1 a c1.1 c1.2 d.1
    obtain ⟨r, r1, re, rn⟩ := rT_e hW hcond hp
    obtain ⟨M2, e2, g2⟩ := turnAll_s hC1.1.1 hp (a := 39 + 2 * a.toNat) (by omega) (hC1.2.1.2 a c1.1 c1.2 d.1) hcond r1 re rn
    have f2 := fr_X1_turnAll e2
    have hR2 : YR M2 W H op ∧ HDr M2 hd ∧ ONr M2 W H op a (on a) := ⟨hR1.1.1.fr f2 (by simp; omega) (by simp; omega), hR1.2.1.1.fr f2 (by simp; omega), fun q hq => (fI f2 (by simp; omega) _).trans (hR1.2.1.2 a c1.1 c1.2 d.1 q hq)⟩
    obtain ⟨M3, e3, f3⟩ := refuses_s hR2.1 hR2.2.1 c1.1 c1.2
    have hR3 : YR M3 W H op ∧ ONr M3 W H op a (on a) := ⟨hR2.1.fr f3 (by decide) (by decide), fun q hq => (fI f3 (by decide) _).trans (hR2.2.2 q hq)⟩
    obtain ⟨z, M4, e4, f4, g4, k4⟩ := settleR_s hR3.1 hp c1.1 c1.2 hR3.2 hcond r1 re rn
    have f34 : Fr [60, 71, 72] M2 M4 := (f3.mono (by decide)).trans f4 (by decide)
    refine ⟨(rT W H op way (on a) (r + 1)).1, M2, M4, ?_, ?_, W, H, op, wa, pr, _, _, ts, tp, ln, sz, it, hA.slotS c1.1 c1.2 f1 (by decide) hDm hSm (f2.mono (by simp)) ?_ g2 f34 (by decide) (fun j _ _ _ => fI f34 (by decide) j) ?_ ?_ g4 (rT_G hW hcond hp (r + 1)).1⟩
    · rw [e, if_pos (by decide), if_pos c1, e2]; rfl
    · rw [if_tf, e3, bd2_q, e, if_pos (by decide), e4]; rfl
    · rw [fI f2 (by simp), hC1.2.1.1 a c1.1 c1.2, d.1]; rfl
    · intro j hj
      rw [k4 j hj, fI f3 (by decide)]
    · rw [fI f34 (by decide), hR2.2.1 a c1.1 c1.2, d.1]; rfl
