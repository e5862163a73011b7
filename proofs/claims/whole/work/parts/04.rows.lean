/-! the light machine: Ex and a row an instruction -/
def gtb : List Cond := lw_tbl.filter goodWord
abbrev Gx : Type := (Program × Launch × Env × Room) × (State × MethodId × Array Value × List Frame × Method × Code) × (Nat × Nat) × (State → Prop) × va_G × (Nat → ClassId) × (Nat → Nat) × (Nat → Prop)
def nst : List (String × Nat × MethodName × String) := [("PavedYards", 18, ⟨"PavedYards$Tape", "<init>", "()V"⟩, "PavedYards"), ("PavedYards", 25, ⟨"PavedYards$Sweep", "<init>", "()V"⟩, "PavedYards"), ("PavedYards", 32, ⟨"PavedYards$Crossing", "<init>", "()V"⟩, "PavedYards"), ("PavedYards", 39, ⟨"PavedYards$Match", "<init>", "()V"⟩, "PavedYards"), ("PavedYards$Match", 23, ⟨"PavedYards$Wave", "<init>", "()V"⟩, "PavedYards"), ("PavedYards", 46, ⟨"PavedYards$Shape", "<init>", "()V"⟩, "PavedYards"), ("PavedYards$Shape", 11, ⟨"PavedYards$Wave", "<init>", "()V"⟩, "PavedYards"), ("PavedYards", 53, ⟨"PavedYards$Heights", "<init>", "()V"⟩, "PavedYards"), ("PavedYards$Heights", 20, ⟨"PavedYards$Wave", "<init>", "()V"⟩, "PavedYards"), ("PavedYards", 60, ⟨"PavedYards$Rings", "<init>", "()V"⟩, "PavedYards"), ("PavedYards", 77, ⟨"PavedYards$Paving", "<init>", "()V"⟩, "PavedYards"), ("PavedYards", 78, ⟨"PavedYards$Sheet", "<init>", "()V"⟩, "PavedYards"), ("PavedYards$Yard", 56, ⟨"PavedYards", "bit", "(Z)I"⟩, "PavedYards"), ("PavedYards$Sweep", 146, ⟨"PavedYards", "bit", "(Z)I"⟩, "PavedYards"), ("PavedYards$Match", 52, ⟨"PavedYards", "bit", "(Z)I"⟩, "PavedYards"), ("PavedYards$Heights", 91, ⟨"PavedYards", "bit", "(Z)I"⟩, "PavedYards"), ("PavedYards$Sheet", 32, ⟨"PavedYards", "bit", "(Z)I"⟩, "PavedYards")]
def NW (U : State) : Prop := ∀ q ∈ nst, va_Nw (.methodLinkNest q.1 q.2.1 q.2.2.1 q.2.2.2) U
theorem NW.warm {s U : State} (hW : s.WarmedH U.vm) (h : NW s) : NW U := fun q hq => va_Nw.warmM hW (h q hq)
theorem NW.same {u U : State} (hv : u.vm = U.vm) (h : NW u) : NW U := fun q hq => va_Nw.same rfl hv (h q hq)
def Fx (G : Gx) (n : Nat) (cc : ByteArray) (own : String) (nL : Nat) : Prop := match G with
  | ((p, _, _, R), (s, m, args, _, _, c), (cells, slots), _, D, cy, ad, A) =>
    p.tables.exec = Jvm.exec ∧ c.code = cc ∧ c.maxLocals = nL ∧ s.vm.findClass own = some m.cls ∧ (∀ w ∈ gtb, w.before args s = true) ∧ va_K D vwCl (tysL cy) s ∧ (n ≤ R.frames ∧ 40 * n ≤ R.locals ∧ cells ≤ R.cells ∧ slots ≤ R.slots ∧ NW s) ∧ (∀ k, k < NC → A (ad k)) ∧ (∀ i j, i < NC → j < NC → ad i = ad j → i = j)
def Ex (G : Gx) (n : Nat) (cc : ByteArray) (own : String) (nL : Nat) (pc : Nat) (lv : List (Nat × Mv)) (st : List Mv) (M : Mem) : Prop := match G with
  | ((p, l, e, R), (s, m, args, below, meth, c), (cells, slots), Q, D, cy, ad, A) =>
    Fx ((p, l, e, R), (s, m, args, below, meth, c), (cells, slots), Q, D, cy, ad, A) n cc own nL → ∀ (H : Heap) (locs : List Loc) (ls : Array Slot), va_P D vwCl (wld ad cy M) H → va_S A s.heap H locs → lv_has ls nL (lv.map fun q => (q.1, cv ad q.2)) → W p l e R s m args below meth c H locs cells slots Q (F0 m pc ls (st.map (cv ad)))
theorem wld_D {ad : Nat → Nat} {cy : Nat → ClassId} {M : Mem} {A : Nat → Prop} (hA : ∀ k, k < NC → A (ad k)) (hi : ∀ i j, i < NC → j < NC → ad i = ad j → i = j) : va_D A (wld ad cy M) := by
  refine ⟨fun i j p q hp hq h => ?_, fun k q hq => ?_⟩
  · obtain ⟨h1, rfl⟩ := wld_lt hp
    obtain ⟨h2, rfl⟩ := wld_lt hq
    exact hi i j h1 h2 h
  · obtain ⟨h1, rfl⟩ := wld_lt hq
    exact hA k h1
theorem lvm {lv : List (Nat × Mv)} {ad : Nat → Nat} {pos i : Nat} {v : Mv} (h : lv[pos]? = some (i, v)) : (lv.map fun q => (q.1, cv ad q.2))[pos]? = some (i, cv ad v) := by
  rw [List.getElem?_map, h]; rfl
def isL (v : Mv) : Bool := match v with
  | .inr (.inl _) => true
  | _ => false
theorem cv_cat (ad : Nat → Nat) (v : Mv) : (cv ad v).category = if isL v = true then 2 else 1 := by
  rcases v with a | x | r
  · rfl
  · rfl
  · cases r <;> rfl
theorem cv_cat2 (ad : Nat → Nat) (v : Mv) : ((cv ad v).category == 2) = isL v := by
  rw [cv_cat]; cases isL v <;> rfl
def kp1 (i : Nat) (q : Nat × Mv) : Bool := !(q.1 == i) && !(q.1 + 1 == i && isL q.2)
def kp2 (i : Nat) (q : Nat × Mv) : Bool := !(q.1 == i) && (!(q.1 == i + 1) && !(q.1 + 1 == i && isL q.2))
theorem kp1_map {lv : List (Nat × Mv)} {ad : Nat → Nat} {i : Nat} : (lv.map fun q => (q.1, cv ad q.2)).filter (fun q => !(q.1 == i) && !(q.1 + 1 == i && q.2.category == 2)) = (lv.filter (kp1 i)).map fun q => (q.1, cv ad q.2) := by
  rw [List.filter_map]
  congr 1
  congr 1
  funext q
  show (!(q.1 == i) && !(q.1 + 1 == i && (cv ad q.2).category == 2)) = _
  rw [cv_cat2]; rfl
theorem kp2_map {lv : List (Nat × Mv)} {ad : Nat → Nat} {i : Nat} : (lv.map fun q => (q.1, cv ad q.2)).filter (fun q => !(q.1 == i) && (!(q.1 == i + 1) && !(q.1 + 1 == i && q.2.category == 2))) = (lv.filter (kp2 i)).map fun q => (q.1, cv ad q.2) := by
  rw [List.filter_map]
  congr 1
  congr 1
  funext q
  show (!(q.1 == i) && (!(q.1 == i + 1) && !(q.1 + 1 == i && (cv ad q.2).category == 2))) = _
  rw [cv_cat2]; rfl
/-! numbers -/
def shl (a b : Int) : Int := (Int32.ofInt a <<< (Int32.ofInt b &&& 31)).toInt
def sar (a b : Int) : Int := (Int32.ofInt a >>> (Int32.ofInt b &&& 31)).toInt
def iand (a b : Int) : Int := (Int32.ofInt a &&& Int32.ofInt b).toInt
def ior (a b : Int) : Int := (Int32.ofInt a ||| Int32.ofInt b).toInt
def ixor (a b : Int) : Int := (Int32.ofInt a ^^^ Int32.ofInt b).toInt
def idv (a b : Int) : Int := Int.tdiv (wr a) (wr b)
def irm (a b : Int) : Int := Int.tmod (wr a) (wr b)
def i2b (a : Int) : Int := (Int32.ofInt a).toInt8.toInt32.toInt
def i2l (a : Int) : Int64 := (Int32.ofInt a).toInt64
def l2i (a : Int64) : Int := a.toInt32.toInt
def iab (a : Int) : Int := if 0 ≤ wr a then wr a else - wr a
def lshl (x : Int64) (b : Int) : Int64 := x <<< ((Int32.ofInt b).toInt64 &&& 63)
def lshr (x : Int64) (b : Int) : Int64 := x >>> ((Int32.ofInt b).toInt64 &&& 63)
def lushr (x : Int64) (b : Int) : Int64 := (x.toUInt64 >>> ((Int32.ofInt b).toInt64.toUInt64 &&& Int64.toUInt64 63)).toInt64
def lmn (x y : Int64) : Int64 := if y < x then y else x
theorem oI_div (a b : Int) : Int32.ofInt a / Int32.ofInt b = Int32.ofInt (idv a b) := by
  apply Int32.toInt_inj.mp
  rw [Int32.toInt_div, wr_toInt, wr_toInt, wr_toInt]
  rfl
theorem oI_rem (a b : Int) : Int32.ofInt a - Int32.ofInt a / Int32.ofInt b * Int32.ofInt b = Int32.ofInt (irm a b) := by
  rw [oI_div]
  unfold irm idv
  rw [Int.tmod_def, Int.mul_comm (wr b), Int32.ofInt_sub, Int32.ofInt_mul, of_wr, of_wr]
theorem oI_le (a b : Int) : Int32.ofInt a ≤ Int32.ofInt b ↔ wr a ≤ wr b := by
  rw [Int32.le_iff_toInt_le, wr_toInt, wr_toInt]
theorem oI_lt (a b : Int) : Int32.ofInt a < Int32.ofInt b ↔ wr a < wr b := by
  rw [Int32.lt_iff_toInt_lt, wr_toInt, wr_toInt]
theorem oI_eq (a b : Int) : Int32.ofInt a = Int32.ofInt b ↔ wr a = wr b := by
  rw [← Int32.toInt_inj, wr_toInt, wr_toInt]
theorem wr_0 : wr 0 = 0 := rfl
theorem oI_0 : Int32.ofInt 0 = 0 := rfl
theorem oI_lt0 (a : Int) : Int32.ofInt a < 0 ↔ wr a < 0 := oI_lt a 0
theorem oI_le0 (a : Int) : Int32.ofInt a ≤ 0 ↔ wr a ≤ 0 := oI_le a 0
theorem oI_gt0 (a : Int) : 0 < Int32.ofInt a ↔ 0 < wr a := oI_lt 0 a
theorem oI_ge0 (a : Int) : 0 ≤ Int32.ofInt a ↔ 0 ≤ wr a := oI_le 0 a
theorem oI_eq0 (a : Int) : Int32.ofInt a = 0 ↔ wr a = 0 := oI_eq a 0
theorem oI_cl {a : Int} (h : 0 ≤ wr a) : (((Int32.ofInt a).toNatClampNeg : Nat) : Int) = wr a := by
  show (((Int32.ofInt a).toInt.toNat : Nat) : Int) = wr a
  rw [wr_toInt]; omega
theorem oI_in {a : Int} {n : Nat} (h : 0 ≤ wr a ∧ wr a < (n : Int)) : vp_in (Int32.ofInt a) n := by
  rw [vp_in_iff, wr_toInt]; exact h
theorem oI_abs (a : Int) : (if 0 ≤ Int32.ofInt a then Int32.ofInt a else 0 - Int32.ofInt a) = Int32.ofInt (iab a) := by
  unfold iab
  by_cases h : 0 ≤ wr a
  · rw [if_pos h, if_pos ((oI_ge0 a).mpr h), of_wr]
  · rw [if_neg h, if_neg (fun q => h ((oI_ge0 a).mp q)), Int32.ofInt_neg, of_wr, Int32.zero_sub]

theorem r_iadd {G : Gx} {n : Nat} {cc : ByteArray} {own : String} {nL pc : Nat} {lv : List (Nat × Mv)} {st : List Mv} {M : Mem} {a b : Int} (hd : decode cc pc = .ok (.iadd, 1)) (k : Ex G n cc own nL (pc + 1) lv (vI (a + b) :: st) M) : Ex G n cc own nL pc lv (vI b :: vI a :: st) M := by
  obtain ⟨⟨p, l, e, R⟩, ⟨s, m, args, below, meth, c⟩, ⟨cells, slots⟩, Q, D, cy, ad, A⟩ := G
  intro hF H locs ls hP hS hl
  have hx := hF.1
  have hb := hF.2.1
  refine lv_iadd hx hb hd ?_
  rw [← Int32.ofInt_add]
  exact k hF H locs ls hP hS hl

theorem r_isub {G : Gx} {n : Nat} {cc : ByteArray} {own : String} {nL pc : Nat} {lv : List (Nat × Mv)} {st : List Mv} {M : Mem} {a b : Int} (hd : decode cc pc = .ok (.isub, 1)) (k : Ex G n cc own nL (pc + 1) lv (vI (a - b) :: st) M) : Ex G n cc own nL pc lv (vI b :: vI a :: st) M := by
  obtain ⟨⟨p, l, e, R⟩, ⟨s, m, args, below, meth, c⟩, ⟨cells, slots⟩, Q, D, cy, ad, A⟩ := G
  intro hF H locs ls hP hS hl
  have hx := hF.1
  have hb := hF.2.1
  refine lv_isub hx hb hd ?_
  rw [← Int32.ofInt_sub]
  exact k hF H locs ls hP hS hl

theorem r_imul {G : Gx} {n : Nat} {cc : ByteArray} {own : String} {nL pc : Nat} {lv : List (Nat × Mv)} {st : List Mv} {M : Mem} {a b : Int} (hd : decode cc pc = .ok (.imul, 1)) (k : Ex G n cc own nL (pc + 1) lv (vI (a * b) :: st) M) : Ex G n cc own nL pc lv (vI b :: vI a :: st) M := by
  obtain ⟨⟨p, l, e, R⟩, ⟨s, m, args, below, meth, c⟩, ⟨cells, slots⟩, Q, D, cy, ad, A⟩ := G
  intro hF H locs ls hP hS hl
  have hx := hF.1
  have hb := hF.2.1
  refine lv_imul hx hb hd ?_
  rw [← Int32.ofInt_mul]
  exact k hF H locs ls hP hS hl

theorem r_ishl {G : Gx} {n : Nat} {cc : ByteArray} {own : String} {nL pc : Nat} {lv : List (Nat × Mv)} {st : List Mv} {M : Mem} {a b : Int} (hd : decode cc pc = .ok (.ishl, 1)) (k : Ex G n cc own nL (pc + 1) lv (vI (shl a b) :: st) M) : Ex G n cc own nL pc lv (vI b :: vI a :: st) M := by
  obtain ⟨⟨p, l, e, R⟩, ⟨s, m, args, below, meth, c⟩, ⟨cells, slots⟩, Q, D, cy, ad, A⟩ := G
  intro hF H locs ls hP hS hl
  have hx := hF.1
  have hb := hF.2.1
  refine lv_ishl hx hb hd ?_
  have h9 := k hF H locs ls hP hS hl
  unfold shl at h9
  simp only [List.map_cons, cv, Int32.ofInt_toInt] at h9
  exact h9

theorem r_ishr {G : Gx} {n : Nat} {cc : ByteArray} {own : String} {nL pc : Nat} {lv : List (Nat × Mv)} {st : List Mv} {M : Mem} {a b : Int} (hd : decode cc pc = .ok (.ishr, 1)) (k : Ex G n cc own nL (pc + 1) lv (vI (sar a b) :: st) M) : Ex G n cc own nL pc lv (vI b :: vI a :: st) M := by
  obtain ⟨⟨p, l, e, R⟩, ⟨s, m, args, below, meth, c⟩, ⟨cells, slots⟩, Q, D, cy, ad, A⟩ := G
  intro hF H locs ls hP hS hl
  have hx := hF.1
  have hb := hF.2.1
  refine lv_ishr hx hb hd ?_
  have h9 := k hF H locs ls hP hS hl
  unfold sar at h9
  simp only [List.map_cons, cv, Int32.ofInt_toInt] at h9
  exact h9

theorem r_iand {G : Gx} {n : Nat} {cc : ByteArray} {own : String} {nL pc : Nat} {lv : List (Nat × Mv)} {st : List Mv} {M : Mem} {a b : Int} (hd : decode cc pc = .ok (.iand, 1)) (k : Ex G n cc own nL (pc + 1) lv (vI (iand a b) :: st) M) : Ex G n cc own nL pc lv (vI b :: vI a :: st) M := by
  obtain ⟨⟨p, l, e, R⟩, ⟨s, m, args, below, meth, c⟩, ⟨cells, slots⟩, Q, D, cy, ad, A⟩ := G
  intro hF H locs ls hP hS hl
  have hx := hF.1
  have hb := hF.2.1
  refine lv_iand hx hb hd ?_
  have h9 := k hF H locs ls hP hS hl
  unfold iand at h9
  simp only [List.map_cons, cv, Int32.ofInt_toInt] at h9
  exact h9

theorem r_ior {G : Gx} {n : Nat} {cc : ByteArray} {own : String} {nL pc : Nat} {lv : List (Nat × Mv)} {st : List Mv} {M : Mem} {a b : Int} (hd : decode cc pc = .ok (.ior, 1)) (k : Ex G n cc own nL (pc + 1) lv (vI (ior a b) :: st) M) : Ex G n cc own nL pc lv (vI b :: vI a :: st) M := by
  obtain ⟨⟨p, l, e, R⟩, ⟨s, m, args, below, meth, c⟩, ⟨cells, slots⟩, Q, D, cy, ad, A⟩ := G
  intro hF H locs ls hP hS hl
  have hx := hF.1
  have hb := hF.2.1
  refine lv_ior hx hb hd ?_
  have h9 := k hF H locs ls hP hS hl
  unfold ior at h9
  simp only [List.map_cons, cv, Int32.ofInt_toInt] at h9
  exact h9

theorem r_ixor {G : Gx} {n : Nat} {cc : ByteArray} {own : String} {nL pc : Nat} {lv : List (Nat × Mv)} {st : List Mv} {M : Mem} {a b : Int} (hd : decode cc pc = .ok (.ixor, 1)) (k : Ex G n cc own nL (pc + 1) lv (vI (ixor a b) :: st) M) : Ex G n cc own nL pc lv (vI b :: vI a :: st) M := by
  obtain ⟨⟨p, l, e, R⟩, ⟨s, m, args, below, meth, c⟩, ⟨cells, slots⟩, Q, D, cy, ad, A⟩ := G
  intro hF H locs ls hP hS hl
  have hx := hF.1
  have hb := hF.2.1
  refine lv_ixor hx hb hd ?_
  have h9 := k hF H locs ls hP hS hl
  unfold ixor at h9
  simp only [List.map_cons, cv, Int32.ofInt_toInt] at h9
  exact h9

theorem r_ineg {G : Gx} {n : Nat} {cc : ByteArray} {own : String} {nL pc : Nat} {lv : List (Nat × Mv)} {st : List Mv} {M : Mem} {a : Int} (hd : decode cc pc = .ok (.ineg, 1)) (k : Ex G n cc own nL (pc + 1) lv (vI (-a) :: st) M) : Ex G n cc own nL pc lv (vI a :: st) M := by
  obtain ⟨⟨p, l, e, R⟩, ⟨s, m, args, below, meth, c⟩, ⟨cells, slots⟩, Q, D, cy, ad, A⟩ := G
  intro hF H locs ls hP hS hl
  have hx := hF.1
  have hb := hF.2.1
  refine lv_ineg hx hb hd ?_
  rw [← Int32.ofInt_neg]
  exact k hF H locs ls hP hS hl

theorem r_idiv {G : Gx} {n : Nat} {cc : ByteArray} {own : String} {nL pc : Nat} {lv : List (Nat × Mv)} {st : List Mv} {M : Mem} {a b : Int} (hd : decode cc pc = .ok (.idiv, 1)) (h0 : ¬ wr b = 0) (k : Ex G n cc own nL (pc + 1) lv (vI (idv a b) :: st) M) : Ex G n cc own nL pc lv (vI b :: vI a :: st) M := by
  obtain ⟨⟨p, l, e, R⟩, ⟨s, m, args, below, meth, c⟩, ⟨cells, slots⟩, Q, D, cy, ad, A⟩ := G
  intro hF H locs ls hP hS hl
  have hx := hF.1
  have hb := hF.2.1
  refine lv_idiv hx hb hd (fun q => h0 ((oI_eq0 b).mp q)) ?_
  rw [oI_div]
  exact k hF H locs ls hP hS hl

theorem r_irem {G : Gx} {n : Nat} {cc : ByteArray} {own : String} {nL pc : Nat} {lv : List (Nat × Mv)} {st : List Mv} {M : Mem} {a b : Int} (hd : decode cc pc = .ok (.irem, 1)) (h0 : ¬ wr b = 0) (k : Ex G n cc own nL (pc + 1) lv (vI (irm a b) :: st) M) : Ex G n cc own nL pc lv (vI b :: vI a :: st) M := by
  obtain ⟨⟨p, l, e, R⟩, ⟨s, m, args, below, meth, c⟩, ⟨cells, slots⟩, Q, D, cy, ad, A⟩ := G
  intro hF H locs ls hP hS hl
  have hx := hF.1
  have hb := hF.2.1
  refine lv_irem hx hb hd (fun q => h0 ((oI_eq0 b).mp q)) ?_
  rw [oI_rem]
  exact k hF H locs ls hP hS hl

theorem r_ladd {G : Gx} {n : Nat} {cc : ByteArray} {own : String} {nL pc : Nat} {lv : List (Nat × Mv)} {st : List Mv} {M : Mem} {a b : Int64} (hd : decode cc pc = .ok (.ladd, 1)) (k : Ex G n cc own nL (pc + 1) lv (vL (a + b) :: st) M) : Ex G n cc own nL pc lv (vL b :: vL a :: st) M := by
  obtain ⟨⟨p, l, e, R⟩, ⟨s, m, args, below, meth, c⟩, ⟨cells, slots⟩, Q, D, cy, ad, A⟩ := G
  intro hF H locs ls hP hS hl
  have hx := hF.1
  have hb := hF.2.1
  refine lv_ladd hx hb hd ?_
  exact k hF H locs ls hP hS hl

theorem r_lsub {G : Gx} {n : Nat} {cc : ByteArray} {own : String} {nL pc : Nat} {lv : List (Nat × Mv)} {st : List Mv} {M : Mem} {a b : Int64} (hd : decode cc pc = .ok (.lsub, 1)) (k : Ex G n cc own nL (pc + 1) lv (vL (a - b) :: st) M) : Ex G n cc own nL pc lv (vL b :: vL a :: st) M := by
  obtain ⟨⟨p, l, e, R⟩, ⟨s, m, args, below, meth, c⟩, ⟨cells, slots⟩, Q, D, cy, ad, A⟩ := G
  intro hF H locs ls hP hS hl
  have hx := hF.1
  have hb := hF.2.1
  refine lv_lsub hx hb hd ?_
  exact k hF H locs ls hP hS hl

theorem r_lmul {G : Gx} {n : Nat} {cc : ByteArray} {own : String} {nL pc : Nat} {lv : List (Nat × Mv)} {st : List Mv} {M : Mem} {a b : Int64} (hd : decode cc pc = .ok (.lmul, 1)) (k : Ex G n cc own nL (pc + 1) lv (vL (a * b) :: st) M) : Ex G n cc own nL pc lv (vL b :: vL a :: st) M := by
  obtain ⟨⟨p, l, e, R⟩, ⟨s, m, args, below, meth, c⟩, ⟨cells, slots⟩, Q, D, cy, ad, A⟩ := G
  intro hF H locs ls hP hS hl
  have hx := hF.1
  have hb := hF.2.1
  refine lv_lmul hx hb hd ?_
  exact k hF H locs ls hP hS hl

theorem r_land {G : Gx} {n : Nat} {cc : ByteArray} {own : String} {nL pc : Nat} {lv : List (Nat × Mv)} {st : List Mv} {M : Mem} {a b : Int64} (hd : decode cc pc = .ok (.land, 1)) (k : Ex G n cc own nL (pc + 1) lv (vL (a &&& b) :: st) M) : Ex G n cc own nL pc lv (vL b :: vL a :: st) M := by
  obtain ⟨⟨p, l, e, R⟩, ⟨s, m, args, below, meth, c⟩, ⟨cells, slots⟩, Q, D, cy, ad, A⟩ := G
  intro hF H locs ls hP hS hl
  have hx := hF.1
  have hb := hF.2.1
  refine lv_land hx hb hd ?_
  exact k hF H locs ls hP hS hl

theorem r_lor {G : Gx} {n : Nat} {cc : ByteArray} {own : String} {nL pc : Nat} {lv : List (Nat × Mv)} {st : List Mv} {M : Mem} {a b : Int64} (hd : decode cc pc = .ok (.lor, 1)) (k : Ex G n cc own nL (pc + 1) lv (vL (a ||| b) :: st) M) : Ex G n cc own nL pc lv (vL b :: vL a :: st) M := by
  obtain ⟨⟨p, l, e, R⟩, ⟨s, m, args, below, meth, c⟩, ⟨cells, slots⟩, Q, D, cy, ad, A⟩ := G
  intro hF H locs ls hP hS hl
  have hx := hF.1
  have hb := hF.2.1
  refine lv_lor hx hb hd ?_
  exact k hF H locs ls hP hS hl

theorem r_lshl {G : Gx} {n : Nat} {cc : ByteArray} {own : String} {nL pc : Nat} {lv : List (Nat × Mv)} {st : List Mv} {M : Mem} {a : Int64} {b : Int} (hd : decode cc pc = .ok (.lshl, 1)) (k : Ex G n cc own nL (pc + 1) lv (vL (lshl a b) :: st) M) : Ex G n cc own nL pc lv (vI b :: vL a :: st) M := by
  obtain ⟨⟨p, l, e, R⟩, ⟨s, m, args, below, meth, c⟩, ⟨cells, slots⟩, Q, D, cy, ad, A⟩ := G
  intro hF H locs ls hP hS hl
  have hx := hF.1
  have hb := hF.2.1
  exact lv_lshl hx hb hd rfl (k hF H locs ls hP hS hl)

theorem r_lshr {G : Gx} {n : Nat} {cc : ByteArray} {own : String} {nL pc : Nat} {lv : List (Nat × Mv)} {st : List Mv} {M : Mem} {a : Int64} {b : Int} (hd : decode cc pc = .ok (.lshr, 1)) (k : Ex G n cc own nL (pc + 1) lv (vL (lshr a b) :: st) M) : Ex G n cc own nL pc lv (vI b :: vL a :: st) M := by
  obtain ⟨⟨p, l, e, R⟩, ⟨s, m, args, below, meth, c⟩, ⟨cells, slots⟩, Q, D, cy, ad, A⟩ := G
  intro hF H locs ls hP hS hl
  have hx := hF.1
  have hb := hF.2.1
  exact lv_lshr hx hb hd rfl (k hF H locs ls hP hS hl)

theorem r_lushr {G : Gx} {n : Nat} {cc : ByteArray} {own : String} {nL pc : Nat} {lv : List (Nat × Mv)} {st : List Mv} {M : Mem} {a : Int64} {b : Int} (hd : decode cc pc = .ok (.lushr, 1)) (k : Ex G n cc own nL (pc + 1) lv (vL (lushr a b) :: st) M) : Ex G n cc own nL pc lv (vI b :: vL a :: st) M := by
  obtain ⟨⟨p, l, e, R⟩, ⟨s, m, args, below, meth, c⟩, ⟨cells, slots⟩, Q, D, cy, ad, A⟩ := G
  intro hF H locs ls hP hS hl
  have hx := hF.1
  have hb := hF.2.1
  exact lv_lushr hx hb hd rfl (k hF H locs ls hP hS hl)

theorem r_i2l {G : Gx} {n : Nat} {cc : ByteArray} {own : String} {nL pc : Nat} {lv : List (Nat × Mv)} {st : List Mv} {M : Mem} {a : Int} (hd : decode cc pc = .ok (.i2l, 1)) (k : Ex G n cc own nL (pc + 1) lv (vL (i2l a) :: st) M) : Ex G n cc own nL pc lv (vI a :: st) M := by
  obtain ⟨⟨p, l, e, R⟩, ⟨s, m, args, below, meth, c⟩, ⟨cells, slots⟩, Q, D, cy, ad, A⟩ := G
  intro hF H locs ls hP hS hl
  have hx := hF.1
  have hb := hF.2.1
  exact lv_i2l hx hb hd rfl (k hF H locs ls hP hS hl)

theorem r_l2i {G : Gx} {n : Nat} {cc : ByteArray} {own : String} {nL pc : Nat} {lv : List (Nat × Mv)} {st : List Mv} {M : Mem} {a : Int64} (hd : decode cc pc = .ok (.l2i, 1)) (k : Ex G n cc own nL (pc + 1) lv (vI (l2i a) :: st) M) : Ex G n cc own nL pc lv (vL a :: st) M := by
  obtain ⟨⟨p, l, e, R⟩, ⟨s, m, args, below, meth, c⟩, ⟨cells, slots⟩, Q, D, cy, ad, A⟩ := G
  intro hF H locs ls hP hS hl
  have hx := hF.1
  have hb := hF.2.1
  refine lv_l2i hx hb hd rfl ?_
  have h9 := k hF H locs ls hP hS hl
  unfold l2i at h9
  simp only [List.map_cons, cv, Int32.ofInt_toInt] at h9
  exact h9

theorem r_i2b {G : Gx} {n : Nat} {cc : ByteArray} {own : String} {nL pc : Nat} {lv : List (Nat × Mv)} {st : List Mv} {M : Mem} {a : Int} (hd : decode cc pc = .ok (.i2b, 1)) (k : Ex G n cc own nL (pc + 1) lv (vI (i2b a) :: st) M) : Ex G n cc own nL pc lv (vI a :: st) M := by
  obtain ⟨⟨p, l, e, R⟩, ⟨s, m, args, below, meth, c⟩, ⟨cells, slots⟩, Q, D, cy, ad, A⟩ := G
  intro hF H locs ls hP hS hl
  have hx := hF.1
  have hb := hF.2.1
  refine lv_i2b hx hb hd rfl ?_
  have h9 := k hF H locs ls hP hS hl
  unfold i2b at h9
  simp only [List.map_cons, cv, Int32.ofInt_toInt] at h9
  exact h9

theorem r_iconst {G : Gx} {n : Nat} {cc : ByteArray} {own : String} {nL pc : Nat} {lv : List (Nat × Mv)} {st : List Mv} {M : Mem} {v : Int} (hd : decode cc pc = .ok (.iconst v, 1)) (k : Ex G n cc own nL (pc + 1) lv (vI v :: st) M) : Ex G n cc own nL pc lv st M := by
  obtain ⟨⟨p, l, e, R⟩, ⟨s, m, args, below, meth, c⟩, ⟨cells, slots⟩, Q, D, cy, ad, A⟩ := G
  intro hF H locs ls hP hS hl
  have hx := hF.1
  have hb := hF.2.1
  exact lv_iconst hx hb hd rfl (k hF H locs ls hP hS hl)

theorem r_bipush {G : Gx} {n : Nat} {cc : ByteArray} {own : String} {nL pc : Nat} {lv : List (Nat × Mv)} {st : List Mv} {M : Mem} {v : Int} (hd : decode cc pc = .ok (.bipush v, 2)) (hv : (Int8.ofInt v).toInt32 = Int32.ofInt v) (k : Ex G n cc own nL (pc + 2) lv (vI v :: st) M) : Ex G n cc own nL pc lv st M := by
  obtain ⟨⟨p, l, e, R⟩, ⟨s, m, args, below, meth, c⟩, ⟨cells, slots⟩, Q, D, cy, ad, A⟩ := G
  intro hF H locs ls hP hS hl
  have hx := hF.1
  have hb := hF.2.1
  exact lv_bipush hx hb hd hv (k hF H locs ls hP hS hl)

theorem r_sipush {G : Gx} {n : Nat} {cc : ByteArray} {own : String} {nL pc : Nat} {lv : List (Nat × Mv)} {st : List Mv} {M : Mem} {v : Int} (hd : decode cc pc = .ok (.sipush v, 3)) (hv : (Int16.ofInt v).toInt32 = Int32.ofInt v) (k : Ex G n cc own nL (pc + 3) lv (vI v :: st) M) : Ex G n cc own nL pc lv st M := by
  obtain ⟨⟨p, l, e, R⟩, ⟨s, m, args, below, meth, c⟩, ⟨cells, slots⟩, Q, D, cy, ad, A⟩ := G
  intro hF H locs ls hP hS hl
  have hx := hF.1
  have hb := hF.2.1
  exact lv_sipush hx hb hd hv (k hF H locs ls hP hS hl)

theorem r_ldc {G : Gx} {n : Nat} {cc : ByteArray} {own : String} {nL pc : Nat} {lv : List (Nat × Mv)} {st : List Mv} {M : Mem} {v : Int} {i : Nat} (hd : decode cc pc = .ok (.ldc i, 2)) (hv : Cond.constant own i (Int32.ofInt v) ∈ gtb) (k : Ex G n cc own nL (pc + 2) lv (vI v :: st) M) : Ex G n cc own nL pc lv st M := by
  obtain ⟨⟨p, l, e, R⟩, ⟨s, m, args, below, meth, c⟩, ⟨cells, slots⟩, Q, D, cy, ad, A⟩ := G
  intro hF H locs ls hP hS hl
  have hx := hF.1
  have hb := hF.2.1
  exact lv_ldc hx hb hF.2.2.2.1 (hF.2.2.2.2.1 _ hv) hd (k hF H locs ls hP hS hl)

theorem r_ldc2 {G : Gx} {n : Nat} {cc : ByteArray} {own : String} {nL pc : Nat} {lv : List (Nat × Mv)} {st : List Mv} {M : Mem} {v : Int64} {i : Nat} (hd : decode cc pc = .ok (.ldc2_w i, 3)) (hv : Cond.constantLong own i v ∈ gtb) (k : Ex G n cc own nL (pc + 3) lv (vL v :: st) M) : Ex G n cc own nL pc lv st M := by
  obtain ⟨⟨p, l, e, R⟩, ⟨s, m, args, below, meth, c⟩, ⟨cells, slots⟩, Q, D, cy, ad, A⟩ := G
  intro hF H locs ls hP hS hl
  have hx := hF.1
  have hb := hF.2.1
  exact lv_ldc2 hx hb hF.2.2.2.1 (hF.2.2.2.2.1 _ hv) hd (k hF H locs ls hP hS hl)

theorem r_lconst {G : Gx} {n : Nat} {cc : ByteArray} {own : String} {nL pc : Nat} {lv : List (Nat × Mv)} {st : List Mv} {M : Mem} {f : Fin 2} {v : Int64} (hd : decode cc pc = .ok (.lconst f, 1)) (hv : Int64.ofNat (f : Nat) = v) (k : Ex G n cc own nL (pc + 1) lv (vL v :: st) M) : Ex G n cc own nL pc lv st M := by
  obtain ⟨⟨p, l, e, R⟩, ⟨s, m, args, below, meth, c⟩, ⟨cells, slots⟩, Q, D, cy, ad, A⟩ := G
  intro hF H locs ls hP hS hl
  have hx := hF.1
  have hb := hF.2.1
  exact lv_lconst hx hb hd hv (k hF H locs ls hP hS hl)

theorem r_iload_n {G : Gx} {n : Nat} {cc : ByteArray} {own : String} {nL pc : Nat} {lv : List (Nat × Mv)} {st : List Mv} {M : Mem} {a : Int} {f : Fin 4} {i : Nat} (hd : decode cc pc = .ok (.iload_n f, 1)) (hi : (f : Nat) = i) (pos : Nat) (h : lv[pos]? = some (i, vI a)) (k : Ex G n cc own nL (pc + 1) lv (vI a :: st) M) : Ex G n cc own nL pc lv st M := by
  obtain ⟨⟨p, l, e, R⟩, ⟨s, m, args, below, meth, c⟩, ⟨cells, slots⟩, Q, D, cy, ad, A⟩ := G
  intro hF H locs ls hP hS hl
  have hx := hF.1
  have hb := hF.2.1
  exact lv_iload_n hx hb hd hi (lv_at hl pos (lvm h)) (k hF H locs ls hP hS hl)

theorem r_iload {G : Gx} {n : Nat} {cc : ByteArray} {own : String} {nL pc : Nat} {lv : List (Nat × Mv)} {st : List Mv} {M : Mem} {a : Int} {i : Nat} (hd : decode cc pc = .ok (.iload i, 2)) (pos : Nat) (h : lv[pos]? = some (i, vI a)) (k : Ex G n cc own nL (pc + 2) lv (vI a :: st) M) : Ex G n cc own nL pc lv st M := by
  obtain ⟨⟨p, l, e, R⟩, ⟨s, m, args, below, meth, c⟩, ⟨cells, slots⟩, Q, D, cy, ad, A⟩ := G
  intro hF H locs ls hP hS hl
  have hx := hF.1
  have hb := hF.2.1
  exact lv_iload hx hb hd (lv_at hl pos (lvm h)) (k hF H locs ls hP hS hl)

theorem r_istore_n {G : Gx} {n : Nat} {cc : ByteArray} {own : String} {nL pc : Nat} {lv : List (Nat × Mv)} {st : List Mv} {M : Mem} {a : Int} {f : Fin 4} {i : Nat} {lv2 : List (Nat × Mv)} (hd : decode cc pc = .ok (.istore_n f, 1)) (hi : (f : Nat) = i) (hn : i < nL) (h : (i, vI a) :: lv.filter (kp1 i) = lv2) (k : Ex G n cc own nL (pc + 1) lv2 st M) : Ex G n cc own nL pc lv (vI a :: st) M := by
  obtain ⟨⟨p, l, e, R⟩, ⟨s, m, args, below, meth, c⟩, ⟨cells, slots⟩, Q, D, cy, ad, A⟩ := G
  intro hF H locs ls hP hS hl
  have hx := hF.1
  have hb := hF.2.1
  subst h
  refine lv_istore_n hx hb hd hi hl hn rfl (fun ls2 h2 => ?_)
  rw [kp1_map] at h2
  exact k hF H locs ls2 hP hS h2

theorem r_istore {G : Gx} {n : Nat} {cc : ByteArray} {own : String} {nL pc : Nat} {lv : List (Nat × Mv)} {st : List Mv} {M : Mem} {a : Int} {i : Nat} {lv2 : List (Nat × Mv)} (hd : decode cc pc = .ok (.istore i, 2)) (hn : i < nL) (h : (i, vI a) :: lv.filter (kp1 i) = lv2) (k : Ex G n cc own nL (pc + 2) lv2 st M) : Ex G n cc own nL pc lv (vI a :: st) M := by
  obtain ⟨⟨p, l, e, R⟩, ⟨s, m, args, below, meth, c⟩, ⟨cells, slots⟩, Q, D, cy, ad, A⟩ := G
  intro hF H locs ls hP hS hl
  have hx := hF.1
  have hb := hF.2.1
  subst h
  refine lv_istore hx hb hd hl hn rfl (fun ls2 h2 => ?_)
  rw [kp1_map] at h2
  exact k hF H locs ls2 hP hS h2

theorem r_lload_n {G : Gx} {n : Nat} {cc : ByteArray} {own : String} {nL pc : Nat} {lv : List (Nat × Mv)} {st : List Mv} {M : Mem} {a : Int64} {f : Fin 4} {i : Nat} (hd : decode cc pc = .ok (.lload_n f, 1)) (hi : (f : Nat) = i) (pos : Nat) (h : lv[pos]? = some (i, vL a)) (k : Ex G n cc own nL (pc + 1) lv (vL a :: st) M) : Ex G n cc own nL pc lv st M := by
  obtain ⟨⟨p, l, e, R⟩, ⟨s, m, args, below, meth, c⟩, ⟨cells, slots⟩, Q, D, cy, ad, A⟩ := G
  intro hF H locs ls hP hS hl
  have hx := hF.1
  have hb := hF.2.1
  exact lv_lload_n hx hb hd hi (lv_at hl pos (lvm h)) (k hF H locs ls hP hS hl)

theorem r_lload {G : Gx} {n : Nat} {cc : ByteArray} {own : String} {nL pc : Nat} {lv : List (Nat × Mv)} {st : List Mv} {M : Mem} {a : Int64} {i : Nat} (hd : decode cc pc = .ok (.lload i, 2)) (pos : Nat) (h : lv[pos]? = some (i, vL a)) (k : Ex G n cc own nL (pc + 2) lv (vL a :: st) M) : Ex G n cc own nL pc lv st M := by
  obtain ⟨⟨p, l, e, R⟩, ⟨s, m, args, below, meth, c⟩, ⟨cells, slots⟩, Q, D, cy, ad, A⟩ := G
  intro hF H locs ls hP hS hl
  have hx := hF.1
  have hb := hF.2.1
  exact lv_lload hx hb hd (lv_at hl pos (lvm h)) (k hF H locs ls hP hS hl)

theorem r_lstore_n {G : Gx} {n : Nat} {cc : ByteArray} {own : String} {nL pc : Nat} {lv : List (Nat × Mv)} {st : List Mv} {M : Mem} {a : Int64} {f : Fin 4} {i : Nat} {lv2 : List (Nat × Mv)} (hd : decode cc pc = .ok (.lstore_n f, 1)) (hi : (f : Nat) = i) (hn : i + 1 < nL) (h : (i, vL a) :: lv.filter (kp2 i) = lv2) (k : Ex G n cc own nL (pc + 1) lv2 st M) : Ex G n cc own nL pc lv (vL a :: st) M := by
  obtain ⟨⟨p, l, e, R⟩, ⟨s, m, args, below, meth, c⟩, ⟨cells, slots⟩, Q, D, cy, ad, A⟩ := G
  intro hF H locs ls hP hS hl
  have hx := hF.1
  have hb := hF.2.1
  subst h
  refine lv_lstore_n hx hb hd hi hl hn rfl (fun ls2 h2 => ?_)
  rw [kp2_map] at h2
  exact k hF H locs ls2 hP hS h2

theorem r_lstore {G : Gx} {n : Nat} {cc : ByteArray} {own : String} {nL pc : Nat} {lv : List (Nat × Mv)} {st : List Mv} {M : Mem} {a : Int64} {i : Nat} {lv2 : List (Nat × Mv)} (hd : decode cc pc = .ok (.lstore i, 2)) (hn : i + 1 < nL) (h : (i, vL a) :: lv.filter (kp2 i) = lv2) (k : Ex G n cc own nL (pc + 2) lv2 st M) : Ex G n cc own nL pc lv (vL a :: st) M := by
  obtain ⟨⟨p, l, e, R⟩, ⟨s, m, args, below, meth, c⟩, ⟨cells, slots⟩, Q, D, cy, ad, A⟩ := G
  intro hF H locs ls hP hS hl
  have hx := hF.1
  have hb := hF.2.1
  subst h
  refine lv_lstore hx hb hd hl hn rfl (fun ls2 h2 => ?_)
  rw [kp2_map] at h2
  exact k hF H locs ls2 hP hS h2

theorem r_aload_n {G : Gx} {n : Nat} {cc : ByteArray} {own : String} {nL pc : Nat} {lv : List (Nat × Mv)} {st : List Mv} {M : Mem} {a : Nat} {f : Fin 4} {i : Nat} (hd : decode cc pc = .ok (.aload_n f, 1)) (hi : (f : Nat) = i) (pos : Nat) (h : lv[pos]? = some (i, vR a)) (k : Ex G n cc own nL (pc + 1) lv (vR a :: st) M) : Ex G n cc own nL pc lv st M := by
  obtain ⟨⟨p, l, e, R⟩, ⟨s, m, args, below, meth, c⟩, ⟨cells, slots⟩, Q, D, cy, ad, A⟩ := G
  intro hF H locs ls hP hS hl
  have hx := hF.1
  have hb := hF.2.1
  exact lv_aload_n hx hb hd hi (lv_at hl pos (lvm h)) (k hF H locs ls hP hS hl)

theorem r_aload {G : Gx} {n : Nat} {cc : ByteArray} {own : String} {nL pc : Nat} {lv : List (Nat × Mv)} {st : List Mv} {M : Mem} {a : Nat} {i : Nat} (hd : decode cc pc = .ok (.aload i, 2)) (pos : Nat) (h : lv[pos]? = some (i, vR a)) (k : Ex G n cc own nL (pc + 2) lv (vR a :: st) M) : Ex G n cc own nL pc lv st M := by
  obtain ⟨⟨p, l, e, R⟩, ⟨s, m, args, below, meth, c⟩, ⟨cells, slots⟩, Q, D, cy, ad, A⟩ := G
  intro hF H locs ls hP hS hl
  have hx := hF.1
  have hb := hF.2.1
  exact lv_aload hx hb hd (lv_at hl pos (lvm h)) (k hF H locs ls hP hS hl)

theorem r_astore_n {G : Gx} {n : Nat} {cc : ByteArray} {own : String} {nL pc : Nat} {lv : List (Nat × Mv)} {st : List Mv} {M : Mem} {a : Nat} {f : Fin 4} {i : Nat} {lv2 : List (Nat × Mv)} (hd : decode cc pc = .ok (.astore_n f, 1)) (hi : (f : Nat) = i) (hn : i < nL) (h : (i, vR a) :: lv.filter (kp1 i) = lv2) (k : Ex G n cc own nL (pc + 1) lv2 st M) : Ex G n cc own nL pc lv (vR a :: st) M := by
  obtain ⟨⟨p, l, e, R⟩, ⟨s, m, args, below, meth, c⟩, ⟨cells, slots⟩, Q, D, cy, ad, A⟩ := G
  intro hF H locs ls hP hS hl
  have hx := hF.1
  have hb := hF.2.1
  subst h
  refine lv_astore_n hx hb hd hi hl hn rfl (fun ls2 h2 => ?_)
  rw [kp1_map] at h2
  exact k hF H locs ls2 hP hS h2

theorem r_astore {G : Gx} {n : Nat} {cc : ByteArray} {own : String} {nL pc : Nat} {lv : List (Nat × Mv)} {st : List Mv} {M : Mem} {a : Nat} {i : Nat} {lv2 : List (Nat × Mv)} (hd : decode cc pc = .ok (.astore i, 2)) (hn : i < nL) (h : (i, vR a) :: lv.filter (kp1 i) = lv2) (k : Ex G n cc own nL (pc + 2) lv2 st M) : Ex G n cc own nL pc lv (vR a :: st) M := by
  obtain ⟨⟨p, l, e, R⟩, ⟨s, m, args, below, meth, c⟩, ⟨cells, slots⟩, Q, D, cy, ad, A⟩ := G
  intro hF H locs ls hP hS hl
  have hx := hF.1
  have hb := hF.2.1
  subst h
  refine lv_astore hx hb hd hl hn rfl (fun ls2 h2 => ?_)
  rw [kp1_map] at h2
  exact k hF H locs ls2 hP hS h2

theorem r_iinc {G : Gx} {n : Nat} {cc : ByteArray} {own : String} {nL pc : Nat} {lv : List (Nat × Mv)} {st : List Mv} {M : Mem} {a : Int} {v : Int} {i : Nat} {lv2 : List (Nat × Mv)} (hd : decode cc pc = .ok (.iinc i v, 3)) (pos : Nat) (h : lv[pos]? = some (i, vI a)) (hn : i < nL) (h2 : (i, vI (a + v)) :: lv.filter (kp1 i) = lv2) (k : Ex G n cc own nL (pc + 3) lv2 st M) : Ex G n cc own nL pc lv st M := by
  obtain ⟨⟨p, l, e, R⟩, ⟨s, m, args, below, meth, c⟩, ⟨cells, slots⟩, Q, D, cy, ad, A⟩ := G
  intro hF H locs ls hP hS hl
  have hx := hF.1
  have hb := hF.2.1
  subst h2
  refine lv_iinc hx hb hd hl (lvm h) (Int32.ofInt_add a v).symm hn rfl (fun ls2 h2 => ?_)
  rw [kp1_map] at h2
  exact k hF H locs ls2 hP hS h2

theorem r_sub {G : Gx} {n : Nat} {cc : ByteArray} {own : String} {nL pc : Nat} {lv : List (Nat × Mv)} {st : List Mv} {M : Mem} {lv2 : List (Nat × Mv)} (ks : List Nat) (h : ks.filterMap (fun i => lv[i]?) = lv2) (k : Ex G n cc own nL pc lv2 st M) : Ex G n cc own nL pc lv st M := by
  obtain ⟨⟨p, l, e, R⟩, ⟨s, m, args, below, meth, c⟩, ⟨cells, slots⟩, Q, D, cy, ad, A⟩ := G
  intro hF H locs ls hP hS hl
  have hx := hF.1
  have hb := hF.2.1
  refine k hF H locs ls hP hS (lv_sub hl ks ?_)
  subst h
  unfold lv_pick
  rw [List.map_filterMap]
  congr 1
  funext i
  rw [List.getElem?_map]

theorem r_dup {G : Gx} {n : Nat} {cc : ByteArray} {own : String} {nL pc : Nat} {lv : List (Nat × Mv)} {st : List Mv} {M : Mem} {v : Mv} (hd : decode cc pc = .ok (.dup, 1)) (h : isL v = false) (k : Ex G n cc own nL (pc + 1) lv (v :: v :: st) M) : Ex G n cc own nL pc lv (v :: st) M := by
  obtain ⟨⟨p, l, e, R⟩, ⟨s, m, args, below, meth, c⟩, ⟨cells, slots⟩, Q, D, cy, ad, A⟩ := G
  intro hF H locs ls hP hS hl
  have hx := hF.1
  have hb := hF.2.1
  exact lv_dup hx hb hd (by rw [cv_cat, h]; rfl) (k hF H locs ls hP hS hl)

theorem r_pop {G : Gx} {n : Nat} {cc : ByteArray} {own : String} {nL pc : Nat} {lv : List (Nat × Mv)} {st : List Mv} {M : Mem} {v : Mv} (hd : decode cc pc = .ok (.pop, 1)) (h : isL v = false) (k : Ex G n cc own nL (pc + 1) lv st M) : Ex G n cc own nL pc lv (v :: st) M := by
  obtain ⟨⟨p, l, e, R⟩, ⟨s, m, args, below, meth, c⟩, ⟨cells, slots⟩, Q, D, cy, ad, A⟩ := G
  intro hF H locs ls hP hS hl
  have hx := hF.1
  have hb := hF.2.1
  exact lv_pop hx hb hd (by rw [cv_cat, h]; rfl) (k hF H locs ls hP hS hl)

theorem r_dup2 {G : Gx} {n : Nat} {cc : ByteArray} {own : String} {nL pc : Nat} {lv : List (Nat × Mv)} {st : List Mv} {M : Mem} {v w : Mv} (hd : decode cc pc = .ok (.dup2, 1)) (h : isL v = false) (h2 : isL w = false) (k : Ex G n cc own nL (pc + 1) lv (v :: w :: v :: w :: st) M) : Ex G n cc own nL pc lv (v :: w :: st) M := by
  obtain ⟨⟨p, l, e, R⟩, ⟨s, m, args, below, meth, c⟩, ⟨cells, slots⟩, Q, D, cy, ad, A⟩ := G
  intro hF H locs ls hP hS hl
  have hx := hF.1
  have hb := hF.2.1
  exact lv_dup2_11 hx hb hd (by rw [cv_cat, h]; rfl) (by rw [cv_cat, h2]; rfl) (k hF H locs ls hP hS hl)

theorem r_dup_x1 {G : Gx} {n : Nat} {cc : ByteArray} {own : String} {nL pc : Nat} {lv : List (Nat × Mv)} {st : List Mv} {M : Mem} {v w : Mv} (hd : decode cc pc = .ok (.dup_x1, 1)) (h : isL v = false) (h2 : isL w = false) (k : Ex G n cc own nL (pc + 1) lv (v :: w :: v :: st) M) : Ex G n cc own nL pc lv (v :: w :: st) M := by
  obtain ⟨⟨p, l, e, R⟩, ⟨s, m, args, below, meth, c⟩, ⟨cells, slots⟩, Q, D, cy, ad, A⟩ := G
  intro hF H locs ls hP hS hl
  have hx := hF.1
  have hb := hF.2.1
  exact lv_dup_x1 hx hb hd (by rw [cv_cat, h]; rfl) (by rw [cv_cat, h2]; rfl) (k hF H locs ls hP hS hl)

theorem r_goto {G : Gx} {n : Nat} {cc : ByteArray} {own : String} {nL pc : Nat} {lv : List (Nat × Mv)} {st : List Mv} {M : Mem} {off : Int} {tgt : Nat} (hd : decode cc pc = .ok (.goto off, 3)) (ht : (pc : Int) + off = (tgt : Int)) (k : Ex G n cc own nL tgt lv st M) : Ex G n cc own nL pc lv st M := by
  obtain ⟨⟨p, l, e, R⟩, ⟨s, m, args, below, meth, c⟩, ⟨cells, slots⟩, Q, D, cy, ad, A⟩ := G
  intro hF H locs ls hP hS hl
  have hx := hF.1
  have hb := hF.2.1
  exact lv_goto hx hb hd ht (k hF H locs ls hP hS hl)

theorem r_icmp_ge {G : Gx} {n : Nat} {cc : ByteArray} {own : String} {nL pc : Nat} {lv : List (Nat × Mv)} {st : List Mv} {M : Mem} {a b : Int} {off : Int} {tgt : Nat} (hd : decode cc pc = .ok (.if_icmp .ge off, 3)) (ht : (pc : Int) + off = (tgt : Int)) (kt : (wr b ≤ wr a) → Ex G n cc own nL tgt lv st M) (kf : ¬ (wr b ≤ wr a) → Ex G n cc own nL (pc + 3) lv st M) : Ex G n cc own nL pc lv (vI b :: vI a :: st) M := by
  obtain ⟨⟨p, l, e, R⟩, ⟨s, m, args, below, meth, c⟩, ⟨cells, slots⟩, Q, D, cy, ad, A⟩ := G
  intro hF H locs ls hP hS hl
  have hx := hF.1
  have hb := hF.2.1
  exact lv_icmp_ge hx hb hd ht (fun q => kt ((oI_le b a).mp q) hF H locs ls hP hS hl) (fun q => kf (fun z => q ((oI_le b a).mpr z)) hF H locs ls hP hS hl)

theorem r_icmp_lt {G : Gx} {n : Nat} {cc : ByteArray} {own : String} {nL pc : Nat} {lv : List (Nat × Mv)} {st : List Mv} {M : Mem} {a b : Int} {off : Int} {tgt : Nat} (hd : decode cc pc = .ok (.if_icmp .lt off, 3)) (ht : (pc : Int) + off = (tgt : Int)) (kt : (wr a < wr b) → Ex G n cc own nL tgt lv st M) (kf : ¬ (wr a < wr b) → Ex G n cc own nL (pc + 3) lv st M) : Ex G n cc own nL pc lv (vI b :: vI a :: st) M := by
  obtain ⟨⟨p, l, e, R⟩, ⟨s, m, args, below, meth, c⟩, ⟨cells, slots⟩, Q, D, cy, ad, A⟩ := G
  intro hF H locs ls hP hS hl
  have hx := hF.1
  have hb := hF.2.1
  exact lv_icmp_lt hx hb hd ht (fun q => kt ((oI_lt a b).mp q) hF H locs ls hP hS hl) (fun q => kf (fun z => q ((oI_lt a b).mpr z)) hF H locs ls hP hS hl)

theorem r_icmp_gt {G : Gx} {n : Nat} {cc : ByteArray} {own : String} {nL pc : Nat} {lv : List (Nat × Mv)} {st : List Mv} {M : Mem} {a b : Int} {off : Int} {tgt : Nat} (hd : decode cc pc = .ok (.if_icmp .gt off, 3)) (ht : (pc : Int) + off = (tgt : Int)) (kt : (wr b < wr a) → Ex G n cc own nL tgt lv st M) (kf : ¬ (wr b < wr a) → Ex G n cc own nL (pc + 3) lv st M) : Ex G n cc own nL pc lv (vI b :: vI a :: st) M := by
  obtain ⟨⟨p, l, e, R⟩, ⟨s, m, args, below, meth, c⟩, ⟨cells, slots⟩, Q, D, cy, ad, A⟩ := G
  intro hF H locs ls hP hS hl
  have hx := hF.1
  have hb := hF.2.1
  exact lv_icmp_gt hx hb hd ht (fun q => kt ((oI_lt b a).mp q) hF H locs ls hP hS hl) (fun q => kf (fun z => q ((oI_lt b a).mpr z)) hF H locs ls hP hS hl)

theorem r_icmp_le {G : Gx} {n : Nat} {cc : ByteArray} {own : String} {nL pc : Nat} {lv : List (Nat × Mv)} {st : List Mv} {M : Mem} {a b : Int} {off : Int} {tgt : Nat} (hd : decode cc pc = .ok (.if_icmp .le off, 3)) (ht : (pc : Int) + off = (tgt : Int)) (kt : (wr a ≤ wr b) → Ex G n cc own nL tgt lv st M) (kf : ¬ (wr a ≤ wr b) → Ex G n cc own nL (pc + 3) lv st M) : Ex G n cc own nL pc lv (vI b :: vI a :: st) M := by
  obtain ⟨⟨p, l, e, R⟩, ⟨s, m, args, below, meth, c⟩, ⟨cells, slots⟩, Q, D, cy, ad, A⟩ := G
  intro hF H locs ls hP hS hl
  have hx := hF.1
  have hb := hF.2.1
  exact lv_icmp_le hx hb hd ht (fun q => kt ((oI_le a b).mp q) hF H locs ls hP hS hl) (fun q => kf (fun z => q ((oI_le a b).mpr z)) hF H locs ls hP hS hl)

theorem r_icmp_eq {G : Gx} {n : Nat} {cc : ByteArray} {own : String} {nL pc : Nat} {lv : List (Nat × Mv)} {st : List Mv} {M : Mem} {a b : Int} {off : Int} {tgt : Nat} (hd : decode cc pc = .ok (.if_icmp .eq off, 3)) (ht : (pc : Int) + off = (tgt : Int)) (kt : (wr a = wr b) → Ex G n cc own nL tgt lv st M) (kf : ¬ (wr a = wr b) → Ex G n cc own nL (pc + 3) lv st M) : Ex G n cc own nL pc lv (vI b :: vI a :: st) M := by
  obtain ⟨⟨p, l, e, R⟩, ⟨s, m, args, below, meth, c⟩, ⟨cells, slots⟩, Q, D, cy, ad, A⟩ := G
  intro hF H locs ls hP hS hl
  have hx := hF.1
  have hb := hF.2.1
  exact lv_icmp_eq hx hb hd ht (fun q => kt ((oI_eq a b).mp q) hF H locs ls hP hS hl) (fun q => kf (fun z => q ((oI_eq a b).mpr z)) hF H locs ls hP hS hl)

theorem r_icmp_ne {G : Gx} {n : Nat} {cc : ByteArray} {own : String} {nL pc : Nat} {lv : List (Nat × Mv)} {st : List Mv} {M : Mem} {a b : Int} {off : Int} {tgt : Nat} (hd : decode cc pc = .ok (.if_icmp .ne off, 3)) (ht : (pc : Int) + off = (tgt : Int)) (kt : ¬ (wr a = wr b) → Ex G n cc own nL tgt lv st M) (kf : (wr a = wr b) → Ex G n cc own nL (pc + 3) lv st M) : Ex G n cc own nL pc lv (vI b :: vI a :: st) M := by
  obtain ⟨⟨p, l, e, R⟩, ⟨s, m, args, below, meth, c⟩, ⟨cells, slots⟩, Q, D, cy, ad, A⟩ := G
  intro hF H locs ls hP hS hl
  have hx := hF.1
  have hb := hF.2.1
  exact lv_icmp_ne hx hb hd ht (fun q => kt (fun z => q ((oI_eq a b).mpr z)) hF H locs ls hP hS hl) (fun q => kf ((oI_eq a b).mp q) hF H locs ls hP hS hl)

theorem r_if_ge {G : Gx} {n : Nat} {cc : ByteArray} {own : String} {nL pc : Nat} {lv : List (Nat × Mv)} {st : List Mv} {M : Mem} {a : Int} {off : Int} {tgt : Nat} (hd : decode cc pc = .ok (.ifCond .ge off, 3)) (ht : (pc : Int) + off = (tgt : Int)) (kt : (0 ≤ wr a) → Ex G n cc own nL tgt lv st M) (kf : ¬ (0 ≤ wr a) → Ex G n cc own nL (pc + 3) lv st M) : Ex G n cc own nL pc lv (vI a :: st) M := by
  obtain ⟨⟨p, l, e, R⟩, ⟨s, m, args, below, meth, c⟩, ⟨cells, slots⟩, Q, D, cy, ad, A⟩ := G
  intro hF H locs ls hP hS hl
  have hx := hF.1
  have hb := hF.2.1
  exact lv_if_ge hx hb hd ht (fun q => kt ((oI_ge0 a).mp q) hF H locs ls hP hS hl) (fun q => kf (fun z => q ((oI_ge0 a).mpr z)) hF H locs ls hP hS hl)

theorem r_if_lt {G : Gx} {n : Nat} {cc : ByteArray} {own : String} {nL pc : Nat} {lv : List (Nat × Mv)} {st : List Mv} {M : Mem} {a : Int} {off : Int} {tgt : Nat} (hd : decode cc pc = .ok (.ifCond .lt off, 3)) (ht : (pc : Int) + off = (tgt : Int)) (kt : (wr a < 0) → Ex G n cc own nL tgt lv st M) (kf : ¬ (wr a < 0) → Ex G n cc own nL (pc + 3) lv st M) : Ex G n cc own nL pc lv (vI a :: st) M := by
  obtain ⟨⟨p, l, e, R⟩, ⟨s, m, args, below, meth, c⟩, ⟨cells, slots⟩, Q, D, cy, ad, A⟩ := G
  intro hF H locs ls hP hS hl
  have hx := hF.1
  have hb := hF.2.1
  exact lv_if_lt hx hb hd ht (fun q => kt ((oI_lt0 a).mp q) hF H locs ls hP hS hl) (fun q => kf (fun z => q ((oI_lt0 a).mpr z)) hF H locs ls hP hS hl)

theorem r_if_gt {G : Gx} {n : Nat} {cc : ByteArray} {own : String} {nL pc : Nat} {lv : List (Nat × Mv)} {st : List Mv} {M : Mem} {a : Int} {off : Int} {tgt : Nat} (hd : decode cc pc = .ok (.ifCond .gt off, 3)) (ht : (pc : Int) + off = (tgt : Int)) (kt : (0 < wr a) → Ex G n cc own nL tgt lv st M) (kf : ¬ (0 < wr a) → Ex G n cc own nL (pc + 3) lv st M) : Ex G n cc own nL pc lv (vI a :: st) M := by
  obtain ⟨⟨p, l, e, R⟩, ⟨s, m, args, below, meth, c⟩, ⟨cells, slots⟩, Q, D, cy, ad, A⟩ := G
  intro hF H locs ls hP hS hl
  have hx := hF.1
  have hb := hF.2.1
  exact lv_if_gt hx hb hd ht (fun q => kt ((oI_gt0 a).mp q) hF H locs ls hP hS hl) (fun q => kf (fun z => q ((oI_gt0 a).mpr z)) hF H locs ls hP hS hl)

theorem r_if_le {G : Gx} {n : Nat} {cc : ByteArray} {own : String} {nL pc : Nat} {lv : List (Nat × Mv)} {st : List Mv} {M : Mem} {a : Int} {off : Int} {tgt : Nat} (hd : decode cc pc = .ok (.ifCond .le off, 3)) (ht : (pc : Int) + off = (tgt : Int)) (kt : (wr a ≤ 0) → Ex G n cc own nL tgt lv st M) (kf : ¬ (wr a ≤ 0) → Ex G n cc own nL (pc + 3) lv st M) : Ex G n cc own nL pc lv (vI a :: st) M := by
  obtain ⟨⟨p, l, e, R⟩, ⟨s, m, args, below, meth, c⟩, ⟨cells, slots⟩, Q, D, cy, ad, A⟩ := G
  intro hF H locs ls hP hS hl
  have hx := hF.1
  have hb := hF.2.1
  exact lv_if_le hx hb hd ht (fun q => kt ((oI_le0 a).mp q) hF H locs ls hP hS hl) (fun q => kf (fun z => q ((oI_le0 a).mpr z)) hF H locs ls hP hS hl)

theorem r_if_eq {G : Gx} {n : Nat} {cc : ByteArray} {own : String} {nL pc : Nat} {lv : List (Nat × Mv)} {st : List Mv} {M : Mem} {a : Int} {off : Int} {tgt : Nat} (hd : decode cc pc = .ok (.ifCond .eq off, 3)) (ht : (pc : Int) + off = (tgt : Int)) (kt : (wr a = 0) → Ex G n cc own nL tgt lv st M) (kf : ¬ (wr a = 0) → Ex G n cc own nL (pc + 3) lv st M) : Ex G n cc own nL pc lv (vI a :: st) M := by
  obtain ⟨⟨p, l, e, R⟩, ⟨s, m, args, below, meth, c⟩, ⟨cells, slots⟩, Q, D, cy, ad, A⟩ := G
  intro hF H locs ls hP hS hl
  have hx := hF.1
  have hb := hF.2.1
  exact lv_if_eq hx hb hd ht (fun q => kt ((oI_eq0 a).mp q) hF H locs ls hP hS hl) (fun q => kf (fun z => q ((oI_eq0 a).mpr z)) hF H locs ls hP hS hl)

theorem r_if_ne {G : Gx} {n : Nat} {cc : ByteArray} {own : String} {nL pc : Nat} {lv : List (Nat × Mv)} {st : List Mv} {M : Mem} {a : Int} {off : Int} {tgt : Nat} (hd : decode cc pc = .ok (.ifCond .ne off, 3)) (ht : (pc : Int) + off = (tgt : Int)) (kt : ¬ (wr a = 0) → Ex G n cc own nL tgt lv st M) (kf : (wr a = 0) → Ex G n cc own nL (pc + 3) lv st M) : Ex G n cc own nL pc lv (vI a :: st) M := by
  obtain ⟨⟨p, l, e, R⟩, ⟨s, m, args, below, meth, c⟩, ⟨cells, slots⟩, Q, D, cy, ad, A⟩ := G
  intro hF H locs ls hP hS hl
  have hx := hF.1
  have hb := hF.2.1
  exact lv_if_ne hx hb hd ht (fun q => kt (fun z => q ((oI_eq0 a).mpr z)) hF H locs ls hP hS hl) (fun q => kf ((oI_eq0 a).mp q) hF H locs ls hP hS hl)

theorem r_lcmp_ge {G : Gx} {n : Nat} {cc : ByteArray} {own : String} {nL pc : Nat} {lv : List (Nat × Mv)} {st : List Mv} {M : Mem} {a b : Int64} {off : Int} {tgt : Nat} (hd0 : decode cc pc = .ok (.lcmp, 1)) (hd : decode cc (pc + 1) = .ok (.ifCond .ge off, 3)) (ht : ((pc + 1 : Nat) : Int) + off = (tgt : Int)) (kt : (b ≤ a) → Ex G n cc own nL tgt lv st M) (kf : ¬ (b ≤ a) → Ex G n cc own nL (pc + 4) lv st M) : Ex G n cc own nL pc lv (vL b :: vL a :: st) M := by
  obtain ⟨⟨p, l, e, R⟩, ⟨s, m, args, below, meth, c⟩, ⟨cells, slots⟩, Q, D, cy, ad, A⟩ := G
  intro hF H locs ls hP hS hl
  have hx := hF.1
  have hb := hF.2.1
  refine W.lcmp hx hb hd0 ?_
  exact lv_if_ge hx hb hd ht (fun q => kt ((lg_cmp_ge a b).mp q) hF H locs ls hP hS hl) (fun q => kf (fun z => q ((lg_cmp_ge a b).mpr z)) hF H locs ls hP hS hl)

theorem r_lcmp_lt {G : Gx} {n : Nat} {cc : ByteArray} {own : String} {nL pc : Nat} {lv : List (Nat × Mv)} {st : List Mv} {M : Mem} {a b : Int64} {off : Int} {tgt : Nat} (hd0 : decode cc pc = .ok (.lcmp, 1)) (hd : decode cc (pc + 1) = .ok (.ifCond .lt off, 3)) (ht : ((pc + 1 : Nat) : Int) + off = (tgt : Int)) (kt : (a < b) → Ex G n cc own nL tgt lv st M) (kf : ¬ (a < b) → Ex G n cc own nL (pc + 4) lv st M) : Ex G n cc own nL pc lv (vL b :: vL a :: st) M := by
  obtain ⟨⟨p, l, e, R⟩, ⟨s, m, args, below, meth, c⟩, ⟨cells, slots⟩, Q, D, cy, ad, A⟩ := G
  intro hF H locs ls hP hS hl
  have hx := hF.1
  have hb := hF.2.1
  refine W.lcmp hx hb hd0 ?_
  exact lv_if_lt hx hb hd ht (fun q => kt ((lg_cmp_lt a b).mp q) hF H locs ls hP hS hl) (fun q => kf (fun z => q ((lg_cmp_lt a b).mpr z)) hF H locs ls hP hS hl)

theorem r_lcmp_gt {G : Gx} {n : Nat} {cc : ByteArray} {own : String} {nL pc : Nat} {lv : List (Nat × Mv)} {st : List Mv} {M : Mem} {a b : Int64} {off : Int} {tgt : Nat} (hd0 : decode cc pc = .ok (.lcmp, 1)) (hd : decode cc (pc + 1) = .ok (.ifCond .gt off, 3)) (ht : ((pc + 1 : Nat) : Int) + off = (tgt : Int)) (kt : (b < a) → Ex G n cc own nL tgt lv st M) (kf : ¬ (b < a) → Ex G n cc own nL (pc + 4) lv st M) : Ex G n cc own nL pc lv (vL b :: vL a :: st) M := by
  obtain ⟨⟨p, l, e, R⟩, ⟨s, m, args, below, meth, c⟩, ⟨cells, slots⟩, Q, D, cy, ad, A⟩ := G
  intro hF H locs ls hP hS hl
  have hx := hF.1
  have hb := hF.2.1
  refine W.lcmp hx hb hd0 ?_
  exact lv_if_gt hx hb hd ht (fun q => kt ((lg_cmp_gt a b).mp q) hF H locs ls hP hS hl) (fun q => kf (fun z => q ((lg_cmp_gt a b).mpr z)) hF H locs ls hP hS hl)

theorem r_lcmp_le {G : Gx} {n : Nat} {cc : ByteArray} {own : String} {nL pc : Nat} {lv : List (Nat × Mv)} {st : List Mv} {M : Mem} {a b : Int64} {off : Int} {tgt : Nat} (hd0 : decode cc pc = .ok (.lcmp, 1)) (hd : decode cc (pc + 1) = .ok (.ifCond .le off, 3)) (ht : ((pc + 1 : Nat) : Int) + off = (tgt : Int)) (kt : (a ≤ b) → Ex G n cc own nL tgt lv st M) (kf : ¬ (a ≤ b) → Ex G n cc own nL (pc + 4) lv st M) : Ex G n cc own nL pc lv (vL b :: vL a :: st) M := by
  obtain ⟨⟨p, l, e, R⟩, ⟨s, m, args, below, meth, c⟩, ⟨cells, slots⟩, Q, D, cy, ad, A⟩ := G
  intro hF H locs ls hP hS hl
  have hx := hF.1
  have hb := hF.2.1
  refine W.lcmp hx hb hd0 ?_
  exact lv_if_le hx hb hd ht (fun q => kt ((lg_cmp_le a b).mp q) hF H locs ls hP hS hl) (fun q => kf (fun z => q ((lg_cmp_le a b).mpr z)) hF H locs ls hP hS hl)

theorem r_lcmp_eq {G : Gx} {n : Nat} {cc : ByteArray} {own : String} {nL pc : Nat} {lv : List (Nat × Mv)} {st : List Mv} {M : Mem} {a b : Int64} {off : Int} {tgt : Nat} (hd0 : decode cc pc = .ok (.lcmp, 1)) (hd : decode cc (pc + 1) = .ok (.ifCond .eq off, 3)) (ht : ((pc + 1 : Nat) : Int) + off = (tgt : Int)) (kt : (a = b) → Ex G n cc own nL tgt lv st M) (kf : ¬ (a = b) → Ex G n cc own nL (pc + 4) lv st M) : Ex G n cc own nL pc lv (vL b :: vL a :: st) M := by
  obtain ⟨⟨p, l, e, R⟩, ⟨s, m, args, below, meth, c⟩, ⟨cells, slots⟩, Q, D, cy, ad, A⟩ := G
  intro hF H locs ls hP hS hl
  have hx := hF.1
  have hb := hF.2.1
  refine W.lcmp hx hb hd0 ?_
  exact lv_if_eq hx hb hd ht (fun q => kt ((lg_cmp_eq a b).mp q) hF H locs ls hP hS hl) (fun q => kf (fun z => q ((lg_cmp_eq a b).mpr z)) hF H locs ls hP hS hl)

theorem r_lcmp_ne {G : Gx} {n : Nat} {cc : ByteArray} {own : String} {nL pc : Nat} {lv : List (Nat × Mv)} {st : List Mv} {M : Mem} {a b : Int64} {off : Int} {tgt : Nat} (hd0 : decode cc pc = .ok (.lcmp, 1)) (hd : decode cc (pc + 1) = .ok (.ifCond .ne off, 3)) (ht : ((pc + 1 : Nat) : Int) + off = (tgt : Int)) (kt : ¬ (a = b) → Ex G n cc own nL tgt lv st M) (kf : (a = b) → Ex G n cc own nL (pc + 4) lv st M) : Ex G n cc own nL pc lv (vL b :: vL a :: st) M := by
  obtain ⟨⟨p, l, e, R⟩, ⟨s, m, args, below, meth, c⟩, ⟨cells, slots⟩, Q, D, cy, ad, A⟩ := G
  intro hF H locs ls hP hS hl
  have hx := hF.1
  have hb := hF.2.1
  refine W.lcmp hx hb hd0 ?_
  exact lv_if_ne hx hb hd ht (fun q => kt (fun z => q ((lg_cmp_eq a b).mpr z)) hF H locs ls hP hS hl) (fun q => kf ((lg_cmp_eq a b).mp q) hF H locs ls hP hS hl)

theorem r_tabIn {G : Gx} {n : Nat} {cc : ByteArray} {own : String} {nL pc : Nat} {lv : List (Nat × Mv)} {st : List Mv} {M : Mem} {a : Int} {dflt lo hi : Int} {offs : Array Int} {len : Nat} {off : Int} {tgt : Nat} (hd : decode cc pc = .ok (.tableswitch dflt lo hi offs, len)) (i : Nat) (h : wr a = lo + i) (h2 : lo + i ≤ hi) (ho : offs[i]? = some off) (ht : (pc : Int) + off = (tgt : Int)) (k : Ex G n cc own nL tgt lv st M) : Ex G n cc own nL pc lv (vI a :: st) M := by
  obtain ⟨⟨p, l, e, R⟩, ⟨s, m, args, below, meth, c⟩, ⟨cells, slots⟩, Q, D, cy, ad, A⟩ := G
  intro hF H locs ls hP hS hl
  have hx := hF.1
  have hb := hF.2.1
  exact lv_tableIn hx hb hd (by rw [wr_toInt]; omega) (by rw [wr_toInt]; omega) (by rw [wr_toInt, show (wr a - lo).toNat = i by omega]; exact ho) ht (k hF H locs ls hP hS hl)

theorem r_tabOut {G : Gx} {n : Nat} {cc : ByteArray} {own : String} {nL pc : Nat} {lv : List (Nat × Mv)} {st : List Mv} {M : Mem} {a : Int} {dflt lo hi : Int} {offs : Array Int} {len : Nat} {tgt : Nat} (hd : decode cc pc = .ok (.tableswitch dflt lo hi offs, len)) (h : wr a < lo ∨ hi < wr a) (ht : (pc : Int) + dflt = (tgt : Int)) (k : Ex G n cc own nL tgt lv st M) : Ex G n cc own nL pc lv (vI a :: st) M := by
  obtain ⟨⟨p, l, e, R⟩, ⟨s, m, args, below, meth, c⟩, ⟨cells, slots⟩, Q, D, cy, ad, A⟩ := G
  intro hF H locs ls hP hS hl
  have hx := hF.1
  have hb := hF.2.1
  exact lv_tableOut hx hb hd (by rw [wr_toInt]; exact h) ht (k hF H locs ls hP hS hl)
