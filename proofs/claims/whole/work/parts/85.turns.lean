/-! turns: two bricks side by side turned -/
def cq (W x y : Int) : Int := (y - 1) * W + (x - 1)
def SQ (W H : Int) (op : Int → Bool) (c x y : Int) : Prop := (1 ≤ x ∧ x < W ∧ 1 ≤ y ∧ y < H) ∧ (0 ≤ c ∧ c + W + 1 < W * H) ∧ (c % W = x - 1 ∧ c / W = y - 1 ∧ (c + 1) % W = x ∧ (c + 1) / W = y - 1 ∧ (c + W) % W = x - 1 ∧ (c + W) / W = y) ∧ op c = true ∧ op (c + 1) = true ∧ op (c + W) = true ∧ op (c + W + 1) = true
def q4 (W H : Int) (op : Int → Bool) (x y : Int) : Bool := opn W H op (x - 1) (y - 1) && opn W H op x (y - 1) && opn W H op (x - 1) y && opn W H op x y
theorem q4_t {W H : Int} {op : Int → Bool} {x y : Int} : q4 W H op x y = true ↔ opn W H op (x - 1) (y - 1) = true ∧ opn W H op x (y - 1) = true ∧ opn W H op (x - 1) y = true ∧ opn W H op x y = true := by
  unfold q4
  rw [Bool.and_eq_true, Bool.and_eq_true, Bool.and_eq_true]
  constructor
  · rintro ⟨⟨⟨a, b⟩, c⟩, d⟩; exact ⟨a, b, c, d⟩
  · rintro ⟨a, b, c, d⟩; exact ⟨⟨⟨a, b⟩, c⟩, d⟩
theorem sq_of {W H : Int} {op : Int → Bool} (hW : WHr W H) {x y : Int} (h : q4 W H op x y = true) : SQ W H op (cq W x y) x y := by
  obtain ⟨h1, h2, h3, h4⟩ := q4_t.mp h
  obtain ⟨⟨a1, a2, a3, a4⟩, o1⟩ := opn_t.mp h1
  obtain ⟨⟨b1, b2, b3, b4⟩, o2⟩ := opn_t.mp h2
  obtain ⟨⟨c1, c2, c3, c4⟩, o3⟩ := opn_t.mp h3
  obtain ⟨⟨d1, d2, d3, d4⟩, o4⟩ := opn_t.mp h4
  have e1 : (y - 1) * W + x = cq W x y + 1 := by unfold cq; omega
  have e2 : y * W + (x - 1) = cq W x y + W := by
    unfold cq; rw [Int.sub_mul]; omega
  have e3 : y * W + x = cq W x y + W + 1 := by omega
  obtain ⟨p1, p2, p3, p4⟩ := xy_c hW a1 a2 a3 a4
  obtain ⟨q1, q2, q3, q4⟩ := xy_c hW b1 b2 b3 b4
  obtain ⟨r1, r2, r3, r4⟩ := xy_c hW c1 c2 c3 c4
  obtain ⟨t1, t2, t3, t4⟩ := xy_c hW d1 d2 d3 d4
  rw [e1] at o2 q3 q4
  rw [e2] at o3 r3 r4
  rw [e3] at o4 t2
  exact ⟨⟨by omega, b2, by omega, c4⟩, ⟨p1, t2⟩, ⟨p3, p4, q3, q4, r3, r4⟩, o1, o2, o3, o4⟩
theorem oth_ev {W H c : Int} (h : c % W + 1 < W) : oth W H (2 * c) = c + 1 := oth_e h
theorem oth_od {W H c : Int} (h : c / W + 1 < H) : oth W H (2 * c + 1) = c + W := by
  unfold oth
  rw [if_neg (by omega), show (2 * c + 1) / 2 = c by omega, if_pos h]
theorem SQ.o {W H : Int} {op : Int → Bool} (hW : WHr W H) {c x y : Int} (h : SQ W H op c x y) : (oth W H (2 * c) = c + 1 ∧ oth W H (2 * c + 1) = c + W ∧ oth W H (2 * c + 3) = c + W + 1 ∧ oth W H (2 * (c + W)) = c + W + 1) ∧ stn W H op (2 * c) = true ∧ stn W H op (2 * c + 1) = true ∧ stn W H op (2 * c + 3) = true ∧ stn W H op (2 * (c + W)) = true := by
  obtain ⟨⟨x0, x1, y0, y1⟩, ⟨c0, c1⟩, ⟨d1, d2, d3, d4, d5, d6⟩, o1, o2, o3, o4⟩ := h
  have a1 := hW.1
  have e1 : oth W H (2 * c) = c + 1 := oth_ev (by omega)
  have e2 : oth W H (2 * c + 1) = c + W := oth_od (by omega)
  have e3 : oth W H (2 * c + 3) = c + W + 1 := by
    rw [show 2 * c + 3 = 2 * (c + 1) + 1 by omega, oth_od (by omega)]; omega
  have e4 : oth W H (2 * (c + W)) = c + W + 1 := oth_ev (by omega)
  refine ⟨⟨e1, e2, e3, e4⟩, stn_i hW (by omega) (by omega) ?_ ?_ ?_, stn_i hW (by omega) (by omega) ?_ ?_ ?_, stn_i hW (by omega) (by omega) ?_ ?_ ?_, stn_i hW (by omega) (by omega) ?_ ?_ ?_⟩
  · rw [show 2 * c / 2 = c by omega]; exact o1
  · omega
  · rw [e1]; exact o2
  · rw [show (2 * c + 1) / 2 = c by omega]; exact o1
  · omega
  · rw [e2]; exact o3
  · rw [show (2 * c + 3) / 2 = c + 1 by omega]; exact o2
  · omega
  · rw [e3]; exact o4
  · rw [show 2 * (c + W) / 2 = c + W by omega]; exact o3
  · omega
  · rw [e4]; exact o4
theorem pv_e {W H : Int} {op : Int → Bool} {p : Int → Int} (hW : WHr W H) (hp : Pav W H op p) {c : Int} (hc : iso W H op c = true) (hd : iso W H op (c + 1) = true) (hx : c % W + 1 < W) : p c = p (c + 1) ↔ p c = 2 * c := by
  obtain ⟨s1, s2, s3, s4⟩ := hp c hc
  obtain ⟨t1, t2, t3, t4⟩ := hp (c + 1) hd
  have hb := stn_t hW s1
  have a1 := hW.1
  constructor
  · intro e
    rw [← e] at t2
    have hr : p c / 2 = c ∧ oth W H (p c) = c + 1 := by
      rcases s2 with s2 | s2 <;> rcases t2 with t2 | t2 <;> constructor <;> omega
    by_cases z : p c % 2 = 0
    · omega
    · exfalso
      have h2 := hr.2
      unfold oth at h2
      rw [if_neg z, hr.1] at h2
      by_cases z2 : c / W + 1 < H
      · rw [if_pos z2] at h2
        have : W = 1 := by omega
        rw [this] at hx
        omega
      · rw [if_neg z2] at h2
        have := (iso_t.mp hc).1
        omega
  · intro e
    rw [e, oth_ev hx] at s4
    rw [s4, e]
theorem pv_o {W H : Int} {op : Int → Bool} {p : Int → Int} (hW : WHr W H) (hp : Pav W H op p) {c : Int} (hc : iso W H op c = true) (hd : iso W H op (c + W) = true) (hx : c / W + 1 < H) : p c = p (c + W) ↔ p c = 2 * c + 1 := by
  obtain ⟨s1, s2, s3, s4⟩ := hp c hc
  obtain ⟨t1, t2, t3, t4⟩ := hp (c + W) hd
  have hb := stn_t hW s1
  have a1 := hW.1
  have hcr := (iso_t.mp hc).1
  constructor
  · intro e
    rw [← e] at t2
    have hr : p c / 2 = c ∧ oth W H (p c) = c + W := by
      rcases s2 with s2 | s2 <;> rcases t2 with t2 | t2 <;> constructor <;> omega
    by_cases z : p c % 2 = 0
    · exfalso
      have h2 := hr.2
      unfold oth at h2
      rw [if_pos z, hr.1] at h2
      by_cases z2 : c % W + 1 < W
      · rw [if_pos z2] at h2
        have : W = 1 := by omega
        rw [this] at z2
        omega
      · rw [if_neg z2] at h2
        omega
    · omega
  · intro e
    rw [e, oth_od hx] at s4
    rw [s4, e]
def wT (W H : Int) (op : Int → Bool) (p : Int → Int) (x y : Int) : Int :=
  if q4 W H op x y = true then
    (if p (cq W x y) = 2 * cq W x y ∧ p (cq W x y + W) = 2 * (cq W x y + W) then (x + y) % 2
     else if p (cq W x y) = 2 * cq W x y + 1 ∧ p (cq W x y + 1) = 2 * cq W x y + 3 then 1 - (x + y) % 2 else -1)
  else -1
def tP (W H : Int) (p : Int → Int) (c : Int) : Int → Int := if p c = 2 * c then puts W H (puts W H p (2 * c + 1)) (2 * c + 3) else puts W H (puts W H p (2 * c)) (2 * (c + W))
theorem wT_r {W H : Int} {op : Int → Bool} {p : Int → Int} {x y : Int} : wT W H op p x y = -1 ∨ wT W H op p x y = 0 ∨ wT W H op p x y = 1 := by
  unfold wT
  by_cases z : q4 W H op x y = true
  · rw [if_pos z]
    split
    · omega
    · split <;> omega
  · rw [if_neg z]; exact Or.inl rfl
theorem wT_off {W H : Int} {op : Int → Bool} {p : Int → Int} {x y : Int} (hW : WHr W H) (h : ¬ (1 ≤ x ∧ x < W ∧ 1 ≤ y ∧ y < H)) : wT W H op p x y = -1 := by
  unfold wT
  rw [if_neg (fun z => h (sq_of hW z).1)]
theorem isoW {W H : Int} {op : Int → Bool} {c : Int} (h0 : 0 ≤ c) (h1 : c < W * H) (h : op c = true) : iso W H op c = true := iso_t.mpr ⟨⟨h0, h1⟩, h⟩
theorem SQ.i {W H : Int} {op : Int → Bool} (hW : WHr W H) {c x y : Int} (h : SQ W H op c x y) : iso W H op c = true ∧ iso W H op (c + 1) = true ∧ iso W H op (c + W) = true ∧ iso W H op (c + W + 1) = true := by
  obtain ⟨⟨x0, x1, y0, y1⟩, ⟨c0, c1⟩, -, o1, o2, o3, o4⟩ := h
  have a1 := hW.1
  exact ⟨isoW c0 (by omega) o1, isoW (by omega) (by omega) o2, isoW (by omega) (by omega) o3, isoW (by omega) (by omega) o4⟩
theorem wayOfTurn_s {M : Mem} {W H : Int} {op : Int → Bool} {p : Int → Int} (hy : YC M W H op) (hp : Pav W H op p) {a : Nat} (ha : ∀ q, iso W H op q = true → gI M (a + 1) q = p q) {x y : Int} (x0 : 0 ≤ x) (x1 : x ≤ 9) (y0 : 0 ≤ y) (y1 : y ≤ 9) : m_X1_wayOfTurn M a x y = some (wT W H op p x y) := by
  have hW := hy.2.2.1
  have h8 := WH_le hW
  unfold m_X1_wayOfTurn wT
  rw [openAt_g hy (x := x - 1) (y := y - 1) (by omega) (by omega) (by omega) (by omega), openAt_g hy (x := x) (y := y - 1) (by omega) (by omega) (by omega) (by omega), openAt_g hy (x := x - 1) (y := y) (by omega) (by omega) (by omega) (by omega), openAt_g hy (x := x) (y := y) (by omega) (by omega) (by omega) (by omega)]
  simp only [bd1_q, oAt_wr hW]
  by_cases z : q4 W H op x y = true
  · have hq := sq_of hW z
    have hi := hq.i hW
    have ho := hq.o hW
    obtain ⟨z1, z2, z3, z4⟩ := q4_t.mp z
    have e1 : oAt W H op (x - 1) (y - 1) = cq W x y := by unfold oAt; rw [if_pos z1]; rfl
    have e2 : oAt W H op x (y - 1) = cq W x y + 1 := by unfold oAt; rw [if_pos z2]; unfold cq; omega
    have e3 : oAt W H op (x - 1) y = cq W x y + W := by unfold oAt; rw [if_pos z3]; unfold cq; rw [Int.sub_mul]; omega
    have e4 : oAt W H op x y = cq W x y + W + 1 := by unfold oAt; rw [if_pos z4]; unfold cq; rw [Int.sub_mul]; omega
    rw [e1, e2, e3, e4, if_pos z]
    obtain ⟨⟨p0, p1, p2, p3⟩, ⟨c0, c1⟩, ⟨d1, d2, d3, d4, d5, d6⟩, o1, o2, o3, o4⟩ := hq
    generalize hc : cq W x y = c at *
    have a1 := hW.1
    rw [ha c hi.1, ha (c + 1) hi.2.1, ha (c + W) hi.2.2.1, ha (c + W + 1) hi.2.2.2]
    have r1 := stn_t hW (hp c hi.1).1
    have r2 := stn_t hW (hp (c + 1) hi.2.1).1
    have r3 := stn_t hW (hp (c + W) hi.2.2.1).1
    have r4 := stn_t hW (hp (c + W + 1) hi.2.2.2).1
    rw [wr_id (x := p c) (by omega) (by omega), wr_id (x := p (c + 1)) (by omega) (by omega), wr_id (x := p (c + W)) (by omega) (by omega), wr_id (x := p (c + W + 1)) (by omega) (by omega), if_neg (by omega), if_neg (by omega), if_neg (by omega), if_pos (by omega), if_pos (c := 0 ≤ c ∧ c < 64) (by omega), if_pos (c := 0 ≤ c + 1 ∧ c + 1 < 64) (by omega), iand1 (by omega) (by omega)]
    simp only [if_pos (show 0 ≤ c + W ∧ c + W < 64 by omega), if_pos (show 0 ≤ c + W + 1 ∧ c + W + 1 < 64 by omega)]
    have k1 := pv_e hW hp hi.1 hi.2.1 (by omega)
    have k2 := pv_e hW hp hi.2.2.1 hi.2.2.2 (by omega)
    have k3 := pv_o hW hp hi.1 hi.2.2.1 (by omega)
    have hi4 : iso W H op (c + 1 + W) = true := by rw [show c + 1 + W = c + W + 1 by omega]; exact hi.2.2.2
    have k4 := pv_o hW hp hi.2.1 hi4 (by omega)
    rw [show c + 1 + W = c + W + 1 by omega, show 2 * (c + 1) + 1 = 2 * c + 3 by omega] at k4
    by_cases w1 : p c = p (c + 1)
    · rw [if_pos w1]
      by_cases w2 : p (c + W) = p (c + W + 1)
      · rw [if_pos w2, if_pos ⟨k1.mp w1, k2.mp w2⟩]
      · rw [if_neg w2, if_neg (c := p c = p (c + W)) (fun q => by have := k1.mp w1; have := k3.mp q; omega), if_neg (fun q => w2 (k2.mpr q.2)), if_neg (fun q => by have := k1.mp w1; omega)]
    · rw [if_neg w1, if_neg (c := p c = 2 * c ∧ _) (fun q => w1 (k1.mpr q.1))]
      by_cases w3 : p c = p (c + W)
      · rw [if_pos w3]
        by_cases w4 : p (c + 1) = p (c + W + 1)
        · rw [if_pos w4, if_pos ⟨k3.mp w3, k4.mp w4⟩]
        · rw [if_neg w4, if_neg (fun q => w4 (k4.mpr q.2))]
      · rw [if_neg w3, if_neg (fun q => w3 (k3.mpr q.1))]
  · rw [if_neg z]
    by_cases z1 : opn W H op (x - 1) (y - 1) = true
    · rw [if_neg (by rw [oAt_lt hW]; simp [z1])]
      by_cases z2 : opn W H op x (y - 1) = true
      · rw [if_neg (by rw [oAt_lt hW]; simp [z2])]
        by_cases z3 : opn W H op (x - 1) y = true
        · rw [if_neg (by rw [oAt_lt hW]; simp [z3]), if_neg (by rw [oAt_ge hW]; exact fun q => z (q4_t.mpr ⟨z1, z2, z3, q⟩))]
        · rw [if_pos (by rw [oAt_lt hW]; simpa using z3)]
      · rw [if_pos (by rw [oAt_lt hW]; simpa using z2)]
    · rw [if_pos (by rw [oAt_lt hW]; simpa using z1)]
theorem wT_q {W H : Int} {op : Int → Bool} {p : Int → Int} (hW : WHr W H) {x y : Int} (h : wT W H op p x y ≠ -1) : q4 W H op x y = true ∧ SQ W H op (cq W x y) x y ∧ ((p (cq W x y) = 2 * cq W x y ∧ p (cq W x y + W) = 2 * (cq W x y + W) ∧ wT W H op p x y = (x + y) % 2) ∨ (p (cq W x y) = 2 * cq W x y + 1 ∧ p (cq W x y + 1) = 2 * cq W x y + 3 ∧ wT W H op p x y = 1 - (x + y) % 2)) := by
  by_cases z : q4 W H op x y = true
  · refine ⟨z, sq_of hW z, ?_⟩
    unfold wT at h ⊢
    rw [if_pos z] at h ⊢
    by_cases z1 : p (cq W x y) = 2 * cq W x y ∧ p (cq W x y + W) = 2 * (cq W x y + W)
    · rw [if_pos z1]; exact Or.inl ⟨z1.1, z1.2, rfl⟩
    · rw [if_neg z1] at h ⊢
      by_cases z2 : p (cq W x y) = 2 * cq W x y + 1 ∧ p (cq W x y + 1) = 2 * cq W x y + 3
      · rw [if_pos z2]; exact Or.inr ⟨z2.1, z2.2, rfl⟩
      · rw [if_neg z2] at h; exact absurd rfl h
  · unfold wT at h
    rw [if_neg z] at h; exact absurd rfl h
theorem tP_pav {W H : Int} {op : Int → Bool} {p : Int → Int} (hW : WHr W H) (hp : Pav W H op p) {x y : Int} (h : wT W H op p x y ≠ -1) : Pav W H op (tP W H p (cq W x y)) := by
  obtain ⟨hz, hq, hc⟩ := wT_q hW h
  have hi := hq.i hW
  have ho := hq.o hW
  generalize cq W x y = c at *
  obtain ⟨⟨p0, p1, p2, p3⟩, ⟨c0, c1⟩, -, -⟩ := hq
  obtain ⟨⟨o1, o2, o3, o4⟩, t1, t2, t3, t4⟩ := ho
  have a1 := hW.1
  intro d hd
  -- the square holds whole bricks
  have hsq : ∀ e, iso W H op e = true → e ≠ c → e ≠ c + 1 → e ≠ c + W → e ≠ c + W + 1 → (p e / 2 ≠ c ∧ p e / 2 ≠ c + 1 ∧ p e / 2 ≠ c + W ∧ p e / 2 ≠ c + W + 1) ∧ (oth W H (p e) ≠ c ∧ oth W H (p e) ≠ c + 1 ∧ oth W H (p e) ≠ c + W ∧ oth W H (p e) ≠ c + W + 1) := by
    intro e he n1 n2 n3 n4
    obtain ⟨s1, s2, s3, s4⟩ := hp e he
    rcases hc with ⟨w1, w2, -⟩ | ⟨w1, w2, -⟩
    · have v1 := (hp c hi.1).2.2.2
      have v2 := (hp (c + W) hi.2.2.1).2.2.2
      rw [w1, o1] at v1
      rw [w2, o4] at v2
      refine ⟨⟨fun z => ?_, fun z => ?_, fun z => ?_, fun z => ?_⟩, fun z => ?_, fun z => ?_, fun z => ?_, fun z => ?_⟩
      · rw [z, w1] at s3
        rw [← s3, o1] at s2; omega
      · rw [z, v1] at s3
        rw [← s3, o1] at s2; omega
      · rw [z, w2] at s3
        rw [← s3, o4] at s2; omega
      · rw [z, v2] at s3
        rw [← s3, o4] at s2; omega
      · rw [z, w1] at s4
        rw [← s4, o1] at s2; omega
      · rw [z, v1] at s4
        rw [← s4, o1] at s2; omega
      · rw [z, w2] at s4
        rw [← s4, o4] at s2; omega
      · rw [z, v2] at s4
        rw [← s4, o4] at s2; omega
    · have v1 := (hp c hi.1).2.2.2
      have v2 := (hp (c + 1) hi.2.1).2.2.2
      rw [w1, o2] at v1
      rw [w2, o3] at v2
      refine ⟨⟨fun z => ?_, fun z => ?_, fun z => ?_, fun z => ?_⟩, fun z => ?_, fun z => ?_, fun z => ?_, fun z => ?_⟩
      · rw [z, w1] at s3
        rw [← s3, o2] at s2; omega
      · rw [z, w2] at s3
        rw [← s3, o3] at s2; omega
      · rw [z, v1] at s3
        rw [← s3, o2] at s2; omega
      · rw [z, v2] at s3
        rw [← s3, o3] at s2; omega
      · rw [z, w1] at s4
        rw [← s4, o2] at s2; omega
      · rw [z, w2] at s4
        rw [← s4, o3] at s2; omega
      · rw [z, v1] at s4
        rw [← s4, o2] at s2; omega
      · rw [z, v2] at s4
        rw [← s4, o3] at s2; omega
  have hu : ∀ e, tP W H p c e = if p c = 2 * c then (if e = c + 1 ∨ e = c + W + 1 then 2 * c + 3 else if e = c ∨ e = c + W then 2 * c + 1 else p e) else (if e = c + W ∨ e = c + W + 1 then 2 * (c + W) else if e = c ∨ e = c + 1 then 2 * c else p e) := by
    intro e
    unfold tP
    by_cases z : p c = 2 * c
    · rw [if_pos z, if_pos z]; unfold puts
      rw [o2, o3, show (2 * c + 3) / 2 = c + 1 by omega, show (2 * c + 1) / 2 = c by omega]
    · rw [if_neg z, if_neg z]; unfold puts
      rw [o1, o4, show 2 * (c + W) / 2 = c + W by omega, show (2 * c) / 2 = c by omega]
  have hr := (iso_t.mp hd).1
  obtain ⟨s1, s2, s3, s4⟩ := hp d hd
  by_cases z : p c = 2 * c
  · simp only [if_pos z] at hu
    by_cases k1 : d = c + 1 ∨ d = c + W + 1
    · have e1 := hu d
      rw [if_pos k1] at e1
      rw [e1, o3, hu, hu, if_pos (by omega), if_pos (by omega)]
      exact ⟨t3, by omega, rfl, rfl⟩
    · by_cases k2 : d = c ∨ d = c + W
      · have e1 := hu d
        rw [if_neg k1, if_pos k2] at e1
        rw [e1, o2, hu, hu, if_neg (by omega), if_pos (by omega), if_neg (by omega), if_pos (by omega)]
        exact ⟨t2, by omega, rfl, rfl⟩
      · have e1 := hu d
        rw [if_neg k1, if_neg k2] at e1
        have g := hsq d hd (by omega) (by omega) (by omega) (by omega)
        rw [e1, hu, hu, if_neg (by omega), if_neg (by omega), if_neg (by omega), if_neg (by omega)]
        exact ⟨s1, s2, s3, s4⟩
  · simp only [if_neg z] at hu
    by_cases k1 : d = c + W ∨ d = c + W + 1
    · have e1 := hu d
      rw [if_pos k1] at e1
      rw [e1, o4, hu, hu, if_pos (by omega), if_pos (by omega)]
      exact ⟨t4, by omega, rfl, rfl⟩
    · by_cases k2 : d = c ∨ d = c + 1
      · have e1 := hu d
        rw [if_neg k1, if_pos k2] at e1
        rw [e1, o1, hu, hu, if_neg (by omega), if_pos (by omega), if_neg (by omega), if_pos (by omega)]
        exact ⟨t1, by omega, rfl, rfl⟩
      · have e1 := hu d
        rw [if_neg k1, if_neg k2] at e1
        have g := hsq d hd (by omega) (by omega) (by omega) (by omega)
        rw [e1, hu, hu, if_neg (by omega), if_neg (by omega), if_neg (by omega), if_neg (by omega)]
        exact ⟨s1, s2, s3, s4⟩
theorem puts_c {W H b q : Int} {f g : Int → Int} (h : f q = g q) : puts W H f b q = puts W H g b q := by
  unfold puts; rw [h]
theorem makeTurn_s {M : Mem} {W H : Int} {op : Int → Bool} {p : Int → Int} (hy : YC M W H op) (hp : Pav W H op p) {a : Nat} (la : 2 < a) (ha : ∀ q, iso W H op q = true → gI M (a + 1) q = p q) {x y : Int} (h : wT W H op p x y ≠ -1) : ∃ M2, m_X1_makeTurn M a x y = some M2 ∧ ∀ q, iso W H op q = true → gI M2 (a + 1) q = tP W H p (cq W x y) q := by
  have hW := hy.2.2.1
  have h8 := WH_le hW
  obtain ⟨a1, a2, a3, a4⟩ := hW
  have hW := hy.2.2.1
  obtain ⟨hz, hq, hc⟩ := wT_q hW h
  have hi := hq.i hW
  have ho := hq.o hW
  obtain ⟨z1, z2, z3, z4⟩ := q4_t.mp hz
  have e1 : oAt W H op (x - 1) (y - 1) = cq W x y := by unfold oAt; rw [if_pos z1]; rfl
  have e2 : oAt W H op x (y - 1) = cq W x y + 1 := by unfold oAt; rw [if_pos z2]; unfold cq; omega
  have e3 : oAt W H op (x - 1) y = cq W x y + W := by unfold oAt; rw [if_pos z3]; unfold cq; rw [Int.sub_mul]; omega
  obtain ⟨⟨p0, p1, p2, p3⟩, ⟨c0, c1⟩, hx, -⟩ := hq
  unfold m_X1_makeTurn
  rw [openAt_g hy (x := x - 1) (y := y - 1) (by omega) (by omega) (by omega) (by omega), openAt_g hy (x := x) (y := y - 1) (by omega) (by omega) (by omega) (by omega), openAt_g hy (x := x - 1) (y := y) (by omega) (by omega) (by omega) (by omega)]
  simp only [bd1_q, oAt_wr hW]
  rw [e1, e2, e3]
  clear h hc
  unfold tP
  generalize cq W x y = c at *
  obtain ⟨-, t1, t2, t3, t4⟩ := ho
  have r1 := stn_t hW (hp c hi.1).1
  have r2 := stn_t hW (hp (c + 1) hi.2.1).1
  rw [if_neg (by omega), if_neg (by omega), if_pos (by omega), if_pos (by omega), if_pos (by omega), ha c hi.1, ha (c + 1) hi.2.1, wr_id (x := p c) (by omega) (by omega), wr_id (x := p (c + 1)) (by omega) (by omega)]
  have k1 := pv_e hW hp hi.1 hi.2.1 (by omega)
  by_cases w : p c = p (c + 1)
  · rw [if_pos w, if_pos (k1.mp w)]
    obtain ⟨M2, m1, m2⟩ := put_s hy la t2
    have f2 := fr_X3_put m1
    have hy2 := hy.fr f2 (by simp; omega) (by simp; omega)
    obtain ⟨M3, n1, n2⟩ := put_s hy2 la t3
    refine ⟨M3, ?_, fun q hq => ?_⟩
    · rw [m1, bd1_q, show 2 * (c + 1) + 1 = 2 * c + 3 by omega, n1, bd1_q, bd1_q]
    · rw [n2]
      exact puts_c ((m2 q).trans (puts_c (ha q hq)))
  · rw [if_neg w, if_neg (fun z => w (k1.mpr z))]
    obtain ⟨M2, m1, m2⟩ := put_s hy la t1
    have f2 := fr_X3_put m1
    have hy2 := hy.fr f2 (by simp; omega) (by simp; omega)
    obtain ⟨M3, n1, n2⟩ := put_s hy2 la t4
    refine ⟨M3, ?_, fun q hq => ?_⟩
    · rw [m1, bd1_q, n1, bd1_q, bd1_q]
    · rw [n2]
      exact puts_c ((m2 q).trans (puts_c (ha q hq)))
theorem across_s {M : Mem} {W H : Int} {op : Int → Bool} {p : Int → Int} (hy : YR M W H op) (hp : Pav W H op p) {s : Int} (s0 : 0 ≤ s) (s1 : s < 4) (ha : ∀ q, iso W H op q = true → gI M 60 (64 * s + q) = p q) {x y : Int} (h : wT W H op p x y ≠ -1) : ∃ M2, m_X12_across M s x y = some M2 ∧ (∀ q, iso W H op q = true → gI M2 60 (64 * s + q) = tP W H p (cq W x y) q) ∧ (∀ j, ¬ (64 * s ≤ j ∧ j < 64 * s + 64) → gI M2 60 j = gI M 60 j) := by
  have hW := hy.2.2.1
  have h8 := WH_le hW
  obtain ⟨a1, a2, a3, a4⟩ := hW
  have hW := hy.2.2.1
  obtain ⟨hz, hq, hc⟩ := wT_q hW h
  have hi := hq.i hW
  have ho := hq.o hW
  obtain ⟨⟨p0, p1, p2, p3⟩, ⟨c0, c1⟩, hx, -⟩ := hq
  have e0 : W * (y - 1) + x - 1 = cq W x y := by unfold cq; rw [Int.mul_comm]; omega
  unfold m_X12_across
  rw [hy.1, e0]
  clear h hc
  unfold tP
  generalize cq W x y = c at *
  obtain ⟨-, t1, t2, t3, t4⟩ := ho
  have r1 := stn_t hW (hp c hi.1).1
  rw [wr_id (x := 64 * s + c) (by omega) (by omega), if_pos (by omega), ha c hi.1, wr_id (x := p c) (by omega) (by omega), wr_id (x := 2 * c) (by omega) (by omega)]
  simp only [lt_q]
  by_cases w : p c = 2 * c
  · rw [if_pos w, if_pos w, if_neg (by decide)]
    obtain ⟨M2, m1, m2, m3⟩ := lays_s hy s0 s1 t2
    have f2 := fr_X12_lays m1
    have hy2 := hy.fr f2 (by decide) (by decide)
    obtain ⟨M3, n1, n2, n3⟩ := lays_s hy2 s0 s1 t3
    refine ⟨M3, ?_, fun q hq => ?_, fun j hj => (n3 j hj).trans (m3 j hj)⟩
    · rw [m1, bd1_q, if_neg (by decide), n1, bd1_q]
    · have hr := (iso_t.mp hq).1
      rw [n2 q (by omega) (by omega)]
      exact puts_c ((m2 q (by omega) (by omega)).trans (puts_c (ha q hq)))
  · rw [if_neg w, if_neg w, if_pos (by decide)]
    obtain ⟨M2, m1, m2, m3⟩ := lays_s hy s0 s1 t1
    have f2 := fr_X12_lays m1
    have hy2 := hy.fr f2 (by decide) (by decide)
    obtain ⟨M3, n1, n2, n3⟩ := lays_s hy2 s0 s1 t4
    refine ⟨M3, ?_, fun q hq => ?_, fun j hj => (n3 j hj).trans (m3 j hj)⟩
    · rw [m1, bd1_q, if_pos (by decide), hy2.1, n1, bd1_q]
    · have hr := (iso_t.mp hq).1
      rw [n2 q (by omega) (by omega)]
      exact puts_c ((m2 q (by omega) (by omega)).trans (puts_c (ha q hq)))
def wR (v : Int) : Int := if v = -1 then -4 else v
theorem turnOf_s {M : Mem} {W H : Int} {op : Int → Bool} {p : Int → Int} (hy : YR M W H op) (hp : Pav W H op p) {s : Int} (s0 : 0 ≤ s) (s1 : s < 4) (ha : ∀ q, iso W H op q = true → gI M 60 (64 * s + q) = p q) {x y : Int} (x0 : 0 ≤ x) (x1 : x ≤ 9) (y0 : 0 ≤ y) (y1 : y ≤ 9) : m_X12_turnOf M s x y = some (wR (wT W H op p x y)) := by
  have hW := hy.2.2.1
  have h8 := WH_le hW
  obtain ⟨a1, a2, a3, a4⟩ := hW
  have hW := hy.2.2.1
  unfold m_X12_turnOf
  rw [hy.1, hy.2.1, l_1, in_s (a := x) (b := 1) (c := W - 1) (by omega) (by omega) (by omega) (by omega) (by omega) (by omega), in_s (a := y) (b := 1) (c := H - 1) (by omega) (by omega) (by omega) (by omega) (by omega) (by omega), bd1_q, bd1_q]
  simp only [wrb]
  by_cases b1 : 1 ≤ x ∧ x ≤ W - 1
  rotate_left
  · rw [decide_eq_false b1, if_pos rfl, wT_off hW (by omega)]; rfl
  by_cases b2 : 1 ≤ y ∧ y ≤ H - 1
  rotate_left
  · rw [decide_eq_true b1, decide_eq_false b2, if_tf, if_pos rfl, wT_off hW (by omega)]; rfl
  rw [decide_eq_true b1, decide_eq_true b2, if_tf, if_tf]
  have e0 : W * (y - 1) + x - 1 = cq W x y := by unfold cq; rw [Int.mul_comm]; omega
  rw [e0]
  have g1 := xy_c hW (x := x - 1) (y := y - 1) (by omega) (by omega) (by omega) (by omega)
  have g4 := xy_c hW (x := x) (y := y) (by omega) (by omega) (by omega) (by omega)
  have e3 : (y - 1) * W + x = cq W x y + 1 := by unfold cq; omega
  have e1 : y * W + (x - 1) = cq W x y + W := by unfold cq; rw [Int.sub_mul]; omega
  have e2 : y * W + x = cq W x y + W + 1 := by omega
  have eq : (q4 W H op x y = true) = (op (cq W x y) = true ∧ op (cq W x y + 1) = true ∧ op (cq W x y + W) = true ∧ op (cq W x y + W + 1) = true) := by
    rw [q4_t, opn_t, opn_t, opn_t, opn_t, e3, e1, e2]
    apply propext
    constructor
    · rintro ⟨⟨-, u1⟩, ⟨-, u2⟩, ⟨-, u3⟩, -, u4⟩; exact ⟨u1, u2, u3, u4⟩
    · rintro ⟨u1, u2, u3, u4⟩; exact ⟨⟨by omega, u1⟩, ⟨by omega, u2⟩, ⟨by omega, u3⟩, by omega, u4⟩
  have hz : q4 W H op x y = true → SQ W H op (cq W x y) x y := sq_of hW
  rw [e2] at g4
  unfold wT
  have hcd : cq W x y % W = x - 1 ∧ cq W x y / W = y - 1 := ⟨g1.2.2.1, g1.2.2.2⟩
  have hc0 : 0 ≤ cq W x y := g1.1
  have hc1 : cq W x y + W + 1 < W * H := g4.2.1
  clear e0 e1 e2 e3 g1 g4
  generalize cq W x y = c at *
  have hdk : drk W c = decide ((x + y) % 2 = 0) := by
    unfold drk; rw [hcd.1, hcd.2]
    by_cases k : (x + y) % 2 = 0
    · rw [decide_eq_true k, decide_eq_true (by omega)]
    · rw [decide_eq_false k, decide_eq_false (by omega)]
  rw [wr_id (x := c) (by omega) (by omega), wr_id (x := c + 1) (by omega) (by omega), wr_id (x := c + W) (by omega) (by omega), wr_id (x := c + W + 1) (by omega) (by omega), if_pos (c := 0 ≤ c ∧ c < 64) (by omega), if_pos (c := 0 ≤ c + 1 ∧ c + 1 < 64) (by omega), if_pos (c := 0 ≤ c + W ∧ c + W < 64) (by omega), if_pos (c := 0 ≤ c + W + 1 ∧ c + W + 1 < 64) (by omega), hy.2.2.2 c (by omega) (by omega), hy.2.2.2 (c + 1) (by omega) (by omega), hy.2.2.2 (c + W) (by omega) (by omega), hy.2.2.2 (c + W + 1) (by omega) (by omega)]
  simp only [wrb]
  have hv : (if op c = false then some (0 : Int) else if op (c + 1) = false then some 0 else if op (c + W) = false then some 0 else if op (c + W + 1) = false then some 0 else some 1) = some (bI (q4 W H op x y)) := by
    by_cases k : q4 W H op x y = true
    · have k' := k
      rw [eq] at k'
      rw [k, k'.1, k'.2.1, k'.2.2.1, k'.2.2.2]; rfl
    · have k' := k
      rw [eq] at k'
      rw [Bool.eq_false_iff.mpr k]
      cases z1 : op c
      · rfl
      · cases z2 : op (c + 1)
        · rfl
        · cases z3 : op (c + W)
          · rfl
          · cases z4 : op (c + W + 1)
            · rfl
            · exact absurd ⟨z1, z2, z3, z4⟩ k'
  rw [hv]
  by_cases k : q4 W H op x y = true
  rotate_left
  · rw [if_neg k, Bool.eq_false_iff.mpr k]
    rfl
  have hi := (hz k).i hW
  have r1 := stn_t hW (hp c hi.1).1
  have r2 := stn_t hW (hp (c + 1) hi.2.1).1
  have r3 := stn_t hW (hp (c + W) hi.2.2.1).1
  rw [if_pos k, k, bd1_q, show 64 * s + c + 1 = 64 * s + (c + 1) by omega, show 64 * s + c + W = 64 * s + (c + W) by omega, wr_id (x := 64 * s + c) (by omega) (by omega), wr_id (x := 64 * s + (c + 1)) (by omega) (by omega), wr_id (x := 64 * s + (c + W)) (by omega) (by omega), ha c hi.1, ha (c + 1) hi.2.1, ha (c + W) hi.2.2.1, wr_id (x := p c) (by omega) (by omega), wr_id (x := p (c + 1)) (by omega) (by omega), wr_id (x := p (c + W)) (by omega) (by omega), wr_id (x := 2 * c) (by omega) (by omega), wr_id (x := 2 * c + 1) (by omega) (by omega), wr_id (x := 2 * (c + W)) (by omega) (by omega), wr_id (x := 2 * c + 3) (by omega) (by omega)]
  simp only [wrb]
  simp only [if_tf, if_pos (show 0 ≤ 64 * s + c ∧ 64 * s + c < 256 by omega), if_pos (show 0 ≤ 64 * s + (c + 1) ∧ 64 * s + (c + 1) < 256 by omega), if_pos (show 0 ≤ 64 * s + (c + W) ∧ 64 * s + (c + W) < 256 by omega)]
  rw [isDarkCellR_s hy hc0 (by omega), hdk]
  by_cases w1 : p c = 2 * c
  · rw [if_pos w1]
    by_cases w2 : p (c + W) = 2 * (c + W)
    · rw [if_pos w2, if_neg (c := p c = 2 * c + 1) (by omega), if_pos (c := p c = 2 * c ∧ p (c + W) = 2 * (c + W)) ⟨w1, w2⟩]
      by_cases v : (x + y) % 2 = 0
      · rw [decide_eq_true v, v]; rfl
      · rw [decide_eq_false v, show (x + y) % 2 = 1 by omega]; rfl
    · rw [if_neg w2, if_neg (c := p c = 2 * c + 1) (by omega), if_neg (c := p c = 2 * c ∧ p (c + W) = 2 * (c + W)) (fun z => w2 z.2), if_neg (c := p c = 2 * c + 1 ∧ p (c + 1) = 2 * c + 3) (by omega)]
      rfl
  · rw [if_neg w1, if_neg (c := p c = 2 * c ∧ p (c + W) = 2 * (c + W)) (fun z => w1 z.1)]
    by_cases w3 : p c = 2 * c + 1
    · rw [if_pos w3]
      by_cases w4 : p (c + 1) = 2 * c + 3
      · rw [if_pos w4, if_pos (c := p c = 2 * c + 1 ∧ p (c + 1) = 2 * c + 3) ⟨w3, w4⟩]
        by_cases v : (x + y) % 2 = 0
        · rw [decide_eq_true v, v]; rfl
        · rw [decide_eq_false v, show (x + y) % 2 = 1 by omega]; rfl
      · rw [if_neg w4, if_neg (c := p c = 2 * c + 1 ∧ p (c + 1) = 2 * c + 3) (fun z => w4 z.2)]
        rfl
    · rw [if_neg w3, if_neg (c := p c = 2 * c + 1 ∧ p (c + 1) = 2 * c + 3) (fun z => w3 z.1)]
      rfl
