/-! counted pavings, costs, shares: the numbers that both sides tell -/
def p2 (x : Int) : Int := (2 : Int) ^ x.toNat
def djt (W H : Int) (b d : Int) : Prop := b / 2 ≠ d / 2 ∧ b / 2 ≠ oth W H d ∧ oth W H b ≠ d / 2 ∧ oth W H b ≠ oth W H d
noncomputable def fit (W H : Int) (op : Int → Bool) (wa : Int → Int) (b : Int) : Bool := stn W H op b && decide (wa b ≠ 2) && bp (∀ d : Int, 0 ≤ d → d < 2 * (W * H) → wa d = 1 → d = b ∨ djt W H b d)
def wy (W : Int) (op f : Int → Bool) (N : Int) : Nat → Int → Nat
  | 0, m => if m = 0 then 1 else 0
  | k + 1, m =>
    if op (N - (k + 1)) = false then (if m % 2 = 1 then 0 else wy W op f N k (m / 2))
    else if m % 2 = 1 then wy W op f N k (m / 2)
    else (if f (2 * (N - (k + 1))) = true ∧ m / 2 % 2 = 0 then wy W op f N k (m / 2 + 1) else 0) + (if f (2 * (N - (k + 1)) + 1) = true then wy W op f N k (m / 2 + p2 (W - 1)) else 0)
def sby (f : Int → Bool) (pr : Int → Int) (b rest : Int) : Int := if f b = false ∨ 1000000 ≤ rest then 1000000 else pr b + rest
def lc (W : Int) (op f : Int → Bool) (pr : Int → Int) (N : Int) : Nat → Int → Int
  | 0, m => if m = 0 then 0 else 1000000
  | k + 1, m =>
    if op (N - (k + 1)) = false ∨ m % 2 = 1 then (if op (N - (k + 1)) = false ∧ m % 2 = 1 then 1000000 else lc W op f pr N k (m / 2))
    else
      if (if m / 2 % 2 = 0 then sby f pr (2 * (N - (k + 1))) (lc W op f pr N k (m / 2 + 1)) else 1000000) ≤ sby f pr (2 * (N - (k + 1)) + 1) (lc W op f pr N k (m / 2 + p2 (W - 1))) then
        (if m / 2 % 2 = 0 then sby f pr (2 * (N - (k + 1))) (lc W op f pr N k (m / 2 + 1)) else 1000000)
      else sby f pr (2 * (N - (k + 1)) + 1) (lc W op f pr N k (m / 2 + p2 (W - 1)))
/-- the class's mask, told as the reference tells it -/
def rot (W x u : Int) : Int := u / p2 x + u % p2 x * p2 (W - x)
/-- bricks that may lie beside a brick that must -/
noncomputable def fmu (W H : Int) (f : Int → Bool) (d b : Int) : Bool := f b && bp (b = d ∨ djt W H b d)
noncomputable def shN (W H : Int) (op f : Int → Bool) (b : Int) : Nat := if f b = true then wy W op (fmu W H f b) (W * H) (W * H).toNat 0 else 0
def FTc (M : Mem) (W H : Int) (f : Int → Bool) : Prop := ∀ b : Int, 0 ≤ b → b < 2 * (W * H) → gI M 11 b = bI (f b)
def WYc (M : Mem) (W H : Int) (op f : Int → Bool) : Prop := ∀ c u : Int, 0 ≤ c → c ≤ W * H → 0 ≤ u → u < p2 W → gL M 9 (256 * c + u) = lN (wy W op f (W * H) (W * H - c).toNat (rot W (c % W) u))
def nvr (v : Int) : Int64 := if 1000000 ≤ v then 1099511627776 else Int64.ofInt v
def LCc (M : Mem) (W H : Int) (op f : Int → Bool) (pr : Int → Int) : Prop := ∀ c u : Int, 0 ≤ c → c ≤ W * H → 0 ≤ u → u < p2 W → gL M 9 (256 * c + u) = nvr (lc W op f pr (W * H) (W * H - c).toNat (rot W (c % W) u))
def SRc (M : Mem) (W H : Int) (op f : Int → Bool) : Prop := ∀ b : Int, stn W H op b = true → gL M 10 b = lN (shN W H op f b)
noncomputable def SwC (M : Mem) (W H : Int) (op : Int → Bool) (wa pr : Int → Int) : Prop := (gI M 8 5 = 0 ∨ gI M 8 5 = 1 ∨ gI M 8 5 = 2) ∧ (gI M 8 6 = 0 ∨ gI M 8 6 = 1) ∧ (gI M 8 5 ≠ 0 → FTc M W H (fit W H op wa)) ∧ (gI M 8 5 = 1 → WYc M W H op (fit W H op wa)) ∧ (gI M 8 5 = 2 → LCc M W H op (fit W H op wa) pr) ∧ (gI M 8 6 = 1 → SRc M W H op (fit W H op wa))
theorem SwC.zero {M : Mem} (W H : Int) (op : Int → Bool) (wa pr : Int → Int) (h1 : gI M 8 5 = 0) (h2 : gI M 8 6 = 0) : SwC M W H op wa pr := by
  unfold SwC
  rw [h1, h2]
  refine ⟨Or.inl rfl, Or.inl rfl, fun h => absurd rfl h, fun h => ?_, fun h => ?_, fun h => ?_⟩ <;> exact absurd h (by decide)
theorem SwC.fr {M M2 : Mem} {W H : Int} {op : Int → Bool} {wa pr : Int → Int} (h : SwC M W H op wa pr) {ks : List Nat} (hF : Fr ks M M2) (h8 : 8 ∉ ks) (h9 : 9 ∉ ks) (h10 : 10 ∉ ks) (h11 : 11 ∉ ks) : SwC M2 W H op wa pr := by
  unfold SwC at h ⊢
  rw [fI hF h8, fI hF h8]
  obtain ⟨q1, q2, q3, q4, q5, q6⟩ := h
  exact ⟨q1, q2, fun e b x y => (fI hF h11 b).trans (q3 e b x y), fun e c u x y z w => (fL hF h9 _).trans (q4 e c u x y z w), fun e c u x y z w => (fL hF h9 _).trans (q5 e c u x y z w), fun e b x => (fL hF h10 b).trans (q6 e b x)⟩
/-- the whole invariant -/
noncomputable def ALL (M : Mem) (W H : Int) (op : Int → Bool) (wa pr : Int → Int) (hd : Int → Bool) (on : Int → Int → Int) (ts : Int) (tp : Int → Int) (ln sz : Int → Int) (it : Int → Int → Int) : Prop := CS M W H op wa pr hd on ts tp ln sz it ∧ RS M W H op wa pr hd on ts tp ln sz it ∧ WF W H op wa pr hd on ts tp ln sz it ∧ DRs M ∧ SwC M W H op wa pr
noncomputable def Inv (M : Mem) : Prop := ∃ (W H : Int) (op : Int → Bool) (wa pr : Int → Int) (hd : Int → Bool) (on : Int → Int → Int) (ts : Int) (tp : Int → Int) (ln sz : Int → Int) (it : Int → Int → Int), ALL M W H op wa pr hd on ts tp ln sz it
/-- a call that answers an int, on both sides -/
noncomputable def OpI (f g : Mem → Option (Int × Mem)) (M : Mem) : Prop := ∃ a M1 M2, f M = some (a, M1) ∧ g M1 = some (a, M2) ∧ Inv M2
noncomputable def OpL (f g : Mem → Option (Int64 × Mem)) (M : Mem) : Prop := ∃ a M1 M2, f M = some (a, M1) ∧ g M1 = some (a, M2) ∧ Inv M2
/-- nothing but rooms of no state has changed on either side -/
theorem ALL.quiet {M M1 M2 : Mem} {W H : Int} {op : Int → Bool} {wa pr : Int → Int} {hd : Int → Bool} {on : Int → Int → Int} {ts : Int} {tp : Int → Int} {ln sz : Int → Int} {it : Int → Int → Int} (h : ALL M W H op wa pr hd on ts tp ln sz it) {ks ks2 : List Nat} (hF : Fr ks M M1) (hF2 : Fr ks2 M1 M2) (hk : ks.all (fun k => ([7] ++ (List.range 25).map (· + 12)).contains k && !([14].contains k)) = true) (hk2 : ks2.all (fun k => rtmp.contains k) = true) : ALL M2 W H op wa pr hd on ts tp ln sz it := by
  obtain ⟨h1, h2, h3, h4, h5⟩ := h
  have a1 : ks.all (fun k => ([7, 12, 13] ++ (List.range 22).map (· + 15)).contains k) = true := by
    rw [List.all_eq_true] at hk ⊢
    intro k hk'
    have := hk k hk'
    simp only [Bool.and_eq_true, Bool.not_eq_true', List.contains_iff_mem, List.mem_append, List.mem_map, List.mem_range, List.mem_cons, List.not_mem_nil, or_false] at this ⊢
    obtain ⟨z1, z2⟩ := this
    have z3 : k ≠ 14 := by simpa using z2
    rcases z1 with rfl | ⟨a, ha, rfl⟩
    · simp
    · by_cases q : a < 3
      · left; omega
      · right; exact ⟨a - 3, by omega, by omega⟩
  have b1 : ks.all (fun k => (rtmp ++ List.range 55).contains k) = true := by
    rw [List.all_eq_true] at a1 ⊢
    intro k hk'
    have := a1 k hk'
    simp only [List.contains_iff_mem, List.mem_append, List.mem_map, List.mem_range, List.mem_cons, List.not_mem_nil, or_false] at this ⊢
    right
    rcases this with z | ⟨a, ha, rfl⟩ <;> omega
  have b2 : ks.all (fun k => (8 :: 14 :: ctmp ++ (List.range 25).map (· + 55)).contains k) = true := by
    rw [List.all_eq_true] at a1 ⊢
    intro k hk'
    have := a1 k hk'
    have key : ∀ k ∈ ([7, 12, 13] ++ (List.range 22).map (· + 15)), k ∈ (8 :: 14 :: ctmp ++ (List.range 25).map (· + 55)) := by decide
    exact List.contains_iff_mem.mpr (key k (List.contains_iff_mem.mp this))
  have b3 : ks2.all (fun k => (rtmp ++ List.range 55).contains k) = true := by
    rw [List.all_eq_true] at hk2 ⊢
    intro k hk'
    have := hk2 k hk'
    rw [List.contains_iff_mem] at this ⊢
    exact List.mem_append_left _ this
  have b4 : ks2.all (fun k => (8 :: 14 :: ctmp ++ (List.range 25).map (· + 55)).contains k) = true := by
    rw [List.all_eq_true] at hk2 ⊢
    intro k hk'
    have := hk2 k hk'
    have key : ∀ k ∈ rtmp, k ∈ (8 :: 14 :: ctmp ++ (List.range 25).map (· + 55)) := by decide
    exact List.contains_iff_mem.mpr (key k (List.contains_iff_mem.mp this))
  exact ⟨(h1.fr hF b2).fr hF2 b4, (h2.fr hF b1).fr hF2 b3, h3, (h4.fr hF (notin a1 (by decide)) (notin a1 (by decide))).fr hF2 (notin hk2 (by decide)) (notin hk2 (by decide)), (h5.fr hF (notin a1 (by decide)) (notin a1 (by decide)) (notin a1 (by decide)) (notin a1 (by decide))).fr hF2 (notin hk2 (by decide)) (notin hk2 (by decide)) (notin hk2 (by decide)) (notin hk2 (by decide))⟩
