/-! pavings counted in any order of the cells -/
def sn : Nat → (Int → Nat) → Nat
  | 0, _ => 0
  | n + 1, h => sn n h + h n
theorem sn_congr {g h : Int → Nat} : ∀ n : Nat, (∀ i : Int, 0 ≤ i → i < n → g i = h i) → sn n g = sn n h := by
  intro n
  induction n with
  | zero => intro _; rfl
  | succ n ih =>
    intro e
    show sn n g + g n = sn n h + h n
    rw [ih (fun i a b => e i a (by omega)), e n (by omega) (by omega)]
theorem sn_0 {h : Int → Nat} : ∀ n : Nat, (∀ i : Int, 0 ≤ i → i < n → h i = 0) → sn n h = 0 := by
  intro n
  induction n with
  | zero => intro _; rfl
  | succ n ih =>
    intro e
    show sn n h + h n = 0
    rw [ih (fun i a b => e i a (by omega)), e n (by omega) (by omega)]
theorem sn_add (g h : Int → Nat) : ∀ n : Nat, sn n (fun x => g x + h x) = sn n g + sn n h := by
  intro n
  induction n with
  | zero => rfl
  | succ n ih =>
    show sn n (fun x => g x + h x) + (g n + h n) = sn n g + g n + (sn n h + h n)
    rw [ih]; omega
theorem sn_mul (a : Nat) (h : Int → Nat) : ∀ n : Nat, sn n (fun x => a * h x) = a * sn n h := by
  intro n
  induction n with
  | zero => rfl
  | succ n ih =>
    show sn n (fun x => a * h x) + a * h n = a * (sn n h + h n)
    rw [ih, Nat.mul_add]
theorem sn_swap (F : Int → Int → Nat) (m : Nat) : ∀ n : Nat, sn n (fun x => sn m (fun y => F x y)) = sn m (fun y => sn n (fun x => F x y)) := by
  intro n
  induction n with
  | zero => 
    show 0 = sn m (fun y => 0)
    rw [sn_0 m (fun _ _ _ => rfl)]
  | succ n ih =>
    show sn n (fun x => sn m (fun y => F x y)) + sn m (fun y => F n y) = sn m (fun y => sn n (fun x => F x y) + F n y)
    rw [ih, sn_add]
theorem sn_1 (h : Int → Nat) (c : Int) (c0 : 0 ≤ c) : ∀ n : Nat, sn n (fun x => if x = c then h x else 0) = if c < n then h c else 0 := by
  intro n
  induction n with
  | zero => rw [if_neg (by omega)]; rfl
  | succ n ih =>
    show sn n (fun x => if x = c then h x else 0) + (if (n : Int) = c then h n else 0) = _
    rw [ih]
    by_cases z : (n : Int) = c
    · rw [if_neg (by omega), if_pos z, if_pos (by omega), z, Nat.zero_add]
    · rw [if_neg z]
      by_cases y : c < n
      · rw [if_pos y, if_pos (by omega), Nat.add_zero]
      · rw [if_neg y, if_neg (by omega)]
theorem sn_pick (h : Int → Nat) (c : Int) (c0 : 0 ≤ c) (n : Nat) (c1 : c < n) : sn n h = h c + sn n (fun x => if x = c then 0 else h x) := by
  have e : sn n h = sn n (fun x => (if x = c then h x else 0) + (if x = c then 0 else h x)) := sn_congr n (fun i _ _ => by
    by_cases z : i = c
    · rw [if_pos z, if_pos z, Nat.add_zero]
    · rw [if_neg z, if_neg z, Nat.zero_add])
  rw [e, sn_add, sn_1 h c c0, if_pos c1]
theorem sn_perm {tr iv : Int → Int} {n : Nat} (h1 : ∀ x : Int, 0 ≤ x → x < n → 0 ≤ tr x ∧ tr x < n ∧ iv (tr x) = x) (h2 : ∀ x : Int, 0 ≤ x → x < n → 0 ≤ iv x ∧ iv x < n ∧ tr (iv x) = x) (h : Int → Nat) : sn n h = sn n (fun x => h (tr x)) := by
  have e1 : sn n (fun x => h (tr x)) = sn n (fun x => sn n (fun y => if y = tr x then h y else 0)) := sn_congr n (fun i i0 i1 => by
    rw [sn_1 h (tr i) (h1 i i0 i1).1, if_pos (h1 i i0 i1).2.1])
  have e2 : sn n h = sn n (fun y => sn n (fun x => if x = iv y then h y else 0)) := sn_congr n (fun i i0 i1 => by
    rw [sn_1 (fun _ => h i) (iv i) (h2 i i0 i1).1, if_pos (h2 i i0 i1).2.1])
  rw [e1, e2, sn_swap]
  refine sn_congr n (fun x x0 x1 => sn_congr n (fun y y0 y1 => ?_))
  by_cases z : x = iv y
  · rw [if_pos z, if_pos (by rw [z, (h2 y y0 y1).2.2])]
  · rw [if_neg z, if_neg (fun q => z (by rw [q, (h1 x x0 x1).2.2]))]
/-- a set without two of its cells -/
def dl (S : Int → Bool) (a b : Int) : Int → Bool := fun x => S x && decide (x ≠ a) && decide (x ≠ b)
theorem dl_t {S : Int → Bool} {a b x : Int} : dl S a b x = true ↔ S x = true ∧ x ≠ a ∧ x ≠ b := by
  unfold dl
  rw [Bool.and_eq_true, Bool.and_eq_true, decide_eq_true_iff, decide_eq_true_iff]
  constructor
  · rintro ⟨⟨q1, q2⟩, q3⟩; exact ⟨q1, q2, q3⟩
  · rintro ⟨q1, q2, q3⟩; exact ⟨⟨q1, q2⟩, q3⟩
theorem bx {a b : Bool} (h : a = true ↔ b = true) : a = b := by
  cases a <;> cases b <;> simp at h ⊢
def hs (w : Int → Int → Nat) (N : Nat) : Nat → (Int → Bool) → Nat
  | 0, _ => 1
  | k + 1, S => if S ((N : Int) - (k + 1)) = true then sn N (fun d => if (N : Int) - (k + 1) < d ∧ S d = true then w ((N : Int) - (k + 1)) d * hs w N k (dl S ((N : Int) - (k + 1)) d) else 0) else hs w N k S
theorem hs_in {w : Int → Int → Nat} {N k : Nat} {S : Int → Bool} {i : Int} (hi : i = (N : Int) - (k + 1)) (h : S i = true) : hs w N (k + 1) S = sn N (fun d => if i < d ∧ S d = true then w i d * hs w N k (dl S i d) else 0) := by
  subst hi
  show (if S ((N : Int) - (k + 1)) = true then _ else _) = _
  rw [if_pos h]
theorem hs_out {w : Int → Int → Nat} {N k : Nat} {S : Int → Bool} {i : Int} (hi : i = (N : Int) - (k + 1)) (h : ¬ S i = true) : hs w N (k + 1) S = hs w N k S := by
  subst hi
  show (if S ((N : Int) - (k + 1)) = true then _ else _) = _
  rw [if_neg h]
theorem hs_any {w : Int → Int → Nat} (hw : ∀ a b, w a b = w b a) {N : Nat} : ∀ (k : Nat) (S : Int → Bool) (c : Int), k ≤ N → (∀ x, S x = true → (N : Int) - k ≤ x ∧ x < N) → S c = true → hs w N k S = sn N (fun d => if d ≠ c ∧ S d = true then w c d * hs w N k (dl S c d) else 0) := by
  intro k
  induction k with
  | zero =>
    intro S c _ hS hc
    have := hS c hc
    omega
  | succ k ih =>
    intro S c hk hS hc
    obtain ⟨i, hi⟩ : ∃ i : Int, i = (N : Int) - (k + 1) := ⟨_, rfl⟩
    by_cases z : S i = true
    rotate_left
    · have hS' : ∀ x, S x = true → (N : Int) - k ≤ x ∧ x < N := fun x hx => by
        have h1 := hS x hx
        have h2 : x ≠ i := fun q => z (q ▸ hx)
        omega
      rw [hs_out hi z, ih S c (by omega) hS' hc]
      refine sn_congr N (fun d _ _ => ?_)
      rw [hs_out hi (fun q => z (dl_t.mp q).1)]
    · rw [hs_in hi z]
      have hSi : ∀ x, S x = true → i ≤ x ∧ x < N := fun x hx => by
        have h1 := hS x hx
        omega
      have hno : ∀ d, hs w N (k + 1) (dl S i d) = hs w N k (dl S i d) := fun d => hs_out hi (fun q => (dl_t.mp q).2.1 rfl)
      have hcr := hSi c hc
      by_cases y : c = i
      · subst y
        refine sn_congr N (fun d _ _ => ?_)
        rw [hno]
        by_cases t : S d = true
        · have := hSi d t
          by_cases t2 : d = c
          · rw [if_neg (by omega), if_neg (fun q => q.1 t2)]
          · rw [if_pos ⟨by omega, t⟩, if_pos ⟨t2, t⟩]
        · rw [if_neg (fun q => t q.2), if_neg (fun q => t q.2)]
      · have ic : i < c := by omega
        have i0 : 0 ≤ i := by omega
        rw [sn_pick _ c (by omega) N hcr.2, if_pos ⟨ic, hc⟩, sn_pick (fun d => if d ≠ c ∧ S d = true then w c d * hs w N (k + 1) (dl S c d) else 0) i i0 N (by omega), if_pos ⟨fun q => y q.symm, z⟩]
        have sy : dl S c i = dl S i c := by
          funext x
          apply bx
          rw [dl_t, dl_t]
          constructor <;> (rintro ⟨q1, q2, q3⟩; exact ⟨q1, q3, q2⟩)
        rw [sy, hno, hw c i]
        congr 1
        -- both double sums
        have L : ∀ d : Int, 0 ≤ d → d < N → (if d = c then 0 else if i < d ∧ S d = true then w i d * hs w N k (dl S i d) else 0) = sn N (fun e => if (d ≠ i ∧ d ≠ c ∧ S d = true) ∧ e ≠ i ∧ e ≠ c ∧ e ≠ d ∧ S e = true then w i d * (w c e * hs w N k (dl (dl S i d) c e)) else 0) := fun d d0 d1 => by
          by_cases t : d ≠ i ∧ d ≠ c ∧ S d = true
          · have := hSi d t.2.2
            have hd : dl S i d c = true := dl_t.mpr ⟨hc, y, fun q => t.2.1 q.symm⟩
            rw [if_neg t.2.1, if_pos ⟨by omega, t.2.2⟩, ih (dl S i d) c (by omega) (fun x hx => by
              obtain ⟨q1, q2, q3⟩ := dl_t.mp hx
              have := hSi x q1
              omega) hd, ← sn_mul]
            refine sn_congr N (fun e _ _ => ?_)
            by_cases u : e ≠ c ∧ dl S i d e = true
            · obtain ⟨q1, q2, q3⟩ := dl_t.mp u.2
              rw [if_pos u, if_pos ⟨t, q2, u.1, q3, q1⟩]
            · rw [if_neg u, if_neg (fun q => u ⟨q.2.2.1, dl_t.mpr ⟨q.2.2.2.2, q.2.1, q.2.2.2.1⟩⟩), Nat.mul_zero]
          · rw [sn_0 N (fun e _ _ => if_neg (fun q => t q.1))]
            by_cases u : d = c
            · rw [if_pos u]
            · rw [if_neg u, if_neg (fun q => t ⟨by omega, u, q.2⟩)]
        have R : ∀ e : Int, 0 ≤ e → e < N → (if e = i then 0 else if e ≠ c ∧ S e = true then w c e * hs w N (k + 1) (dl S c e) else 0) = sn N (fun d => if (d ≠ i ∧ d ≠ c ∧ S d = true) ∧ e ≠ i ∧ e ≠ c ∧ e ≠ d ∧ S e = true then w i d * (w c e * hs w N k (dl (dl S i d) c e)) else 0) := fun e e0 e1 => by
          by_cases t : e ≠ i ∧ e ≠ c ∧ S e = true
          · have hd : dl S c e i = true := dl_t.mpr ⟨z, fun q => y q.symm, fun q => t.1 q.symm⟩
            rw [if_neg t.1, if_pos ⟨t.2.1, t.2.2⟩, hs_in hi hd, ← sn_mul]
            refine sn_congr N (fun d _ _ => ?_)
            by_cases u : i < d ∧ dl S c e d = true
            · obtain ⟨q1, q2, q3⟩ := dl_t.mp u.2
              have sy2 : dl (dl S c e) i d = dl (dl S i d) c e := by
                funext x
                apply bx
                rw [dl_t, dl_t, dl_t, dl_t]
                constructor
                · rintro ⟨⟨p1, p2, p3⟩, p4, p5⟩; exact ⟨⟨p1, p4, p5⟩, p2, p3⟩
                · rintro ⟨⟨p1, p2, p3⟩, p4, p5⟩; exact ⟨⟨p1, p4, p5⟩, p2, p3⟩
              rw [if_pos u, if_pos ⟨⟨by omega, q2, q1⟩, t.1, t.2.1, fun q => q3 q.symm, t.2.2⟩, sy2, Nat.mul_left_comm]
            · rw [if_neg u, if_neg (fun q => u ⟨by have := hSi d q.1.2.2; omega, dl_t.mpr ⟨q.1.2.2, q.1.2.1, fun p => q.2.2.2.1 p.symm⟩⟩), Nat.mul_zero]
          · rw [sn_0 N (fun d _ _ => if_neg (fun q => t ⟨q.2.1, q.2.2.1, q.2.2.2.2⟩))]
            by_cases u : e = i
            · rw [if_pos u]
            · rw [if_neg u, if_neg (fun q => t ⟨u, q.1, q.2⟩)]
        rw [sn_congr N L, sn_congr N R, sn_swap]
/-- another order of the cells tells the same number -/
theorem hs_perm {w : Int → Int → Nat} (hw : ∀ a b, w a b = w b a) {N : Nat} {tr iv : Int → Int} (h1 : ∀ x : Int, 0 ≤ x → x < N → 0 ≤ tr x ∧ tr x < N ∧ iv (tr x) = x) (h2 : ∀ x : Int, 0 ≤ x → x < N → 0 ≤ iv x ∧ iv x < N ∧ tr (iv x) = x) : ∀ (k : Nat) (S T : Int → Bool), k ≤ N → (∀ x, S x = true → (N : Int) - k ≤ x ∧ x < N) → (∀ x, T x = true → 0 ≤ x ∧ x < N) → (∀ x : Int, 0 ≤ x → x < N → (T (tr x) = S x)) → hs (fun a b => w (tr a) (tr b)) N k S = hs w N N T := by
  intro k
  induction k with
  | zero =>
    intro S T _ hS hT he
    show 1 = _
    have : ∀ x, ¬ T x = true := fun x hx => by
      have r := hT x hx
      have q := h2 x r.1 r.2
      have := hS (iv x) (by rw [← he (iv x) q.1 q.2.1, q.2.2]; exact hx)
      omega
    clear he hS h1 h2 hT
    have key : ∀ m : Nat, hs w N m T = 1 := by
      intro m
      induction m with
      | zero => rfl
      | succ m ih => rw [hs_out rfl (this _)]; exact ih
    exact (key N).symm
  | succ k ih =>
    intro S T hk hS hT he
    obtain ⟨i, hi⟩ : ∃ i : Int, i = (N : Int) - (k + 1) := ⟨_, rfl⟩
    by_cases z : S i = true
    rotate_left
    · rw [hs_out hi z]
      exact ih S T (by omega) (fun x hx => by
        have h1 := hS x hx
        have h2 : x ≠ i := fun q => z (q ▸ hx)
        omega) hT he
    · have hTi : T (tr i) = true := by rw [he i (by omega) (by omega)]; exact z
      rw [hs_in hi z, hs_any hw N T (tr i) (Nat.le_refl _) (fun x hx => by have := hT x hx; omega) hTi, sn_perm h1 h2 (fun d => if d ≠ tr i ∧ T d = true then w (tr i) d * hs w N N (dl T (tr i) d) else 0)]
      refine sn_congr N (fun d d0 d1 => ?_)
      have inj : tr d = tr i ↔ d = i := ⟨fun q => by rw [← (h1 d d0 d1).2.2, q, (h1 i (by omega) (by omega)).2.2], fun q => by rw [q]⟩
      by_cases t : S d = true
      · have := hS d t
        by_cases u : d = i
        · rw [if_neg (by omega), if_neg (fun q => q.1 (inj.mpr u))]
        · rw [if_pos ⟨by omega, t⟩, if_pos ⟨fun q => u (inj.mp q), by rw [he d d0 d1]; exact t⟩]
          congr 1
          refine ih (dl S i d) (dl T (tr i) (tr d)) (by omega) (fun x hx => ?_) (fun x hx => hT x (dl_t.mp hx).1) (fun x x0 x1 => ?_)
          · obtain ⟨q1, q2, q3⟩ := dl_t.mp hx
            have := hS x q1
            omega
          · apply bx
            rw [dl_t, dl_t, he x x0 x1]
            have injx : ∀ y : Int, 0 ≤ y → y < N → (tr x = tr y ↔ x = y) := fun y y0 y1 => ⟨fun q => by rw [← (h1 x x0 x1).2.2, q, (h1 y y0 y1).2.2], fun q => by rw [q]⟩
            rw [Ne, injx i (by omega) (by omega), Ne, injx d d0 d1]
      · rw [if_neg (fun q => t q.2), if_neg (fun q => t (by rw [← he d d0 d1]; exact q.2))]
