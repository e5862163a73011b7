/-! my picture of the memory: cells by number, ints as whole numbers modulo 2^32, longs, references by number -/
abbrev Mv : Type := Int ⊕ (Int64 ⊕ Option Nat)
abbrev vI (a : Int) : Mv := Sum.inl a
abbrev vL (a : Int64) : Mv := Sum.inr (Sum.inl a)
abbrev vR (k : Nat) : Mv := Sum.inr (Sum.inr (some k))
def cv (ad : Nat → Nat) (v : Mv) : Value := match v with
  | .inl a => .int (Int32.ofInt a)
  | .inr (.inl x) => .long x
  | .inr (.inr r) => va_rf (r.map ad)
abbrev Mem : Type := (Nat → Int → Int) × (Nat → Int → Int64) × (Nat → Nat → Nat)
def gI (M : Mem) (k : Nat) (j : Int) : Int := M.1 k j
def gL (M : Mem) (k : Nat) (j : Int) : Int64 := M.2.1 k j
def sI (M : Mem) (k : Nat) (j v : Int) : Mem := (fun a b => if a = k ∧ b = j then v else M.1 a b, M.2)
def sL (M : Mem) (k : Nat) (j : Int) (v : Int64) : Mem := (M.1, fun a b => if a = k ∧ b = j then v else M.2.1 a b, M.2.2)
def sR (M : Mem) (k j v : Nat) : Mem := (M.1, M.2.1, fun a b => if a = k ∧ b = j then v else M.2.2 a b)
def cpI (M : Mem) (k0 : Nat) (sp : Int) (k1 : Nat) (dp n : Int) : Mem := (fun a b => if a = k1 ∧ dp ≤ b ∧ b < dp + n then M.1 k0 (sp + (b - dp)) else M.1 a b, M.2)
def lyL : List (Nat × Nat) := [(16, 0), (15, 0), (1, 64), (0, 128), (0, 128), (13, 0), (0, 90), (1, 64), (12, 0), (2, 16640), (2, 128), (1, 128), (2, 256), (2, 256), (5, 0), (2, 256), (2, 256), (7, 0), (0, 64), (0, 64), (0, 64), (14, 0), (1, 100), (0, 100), (10, 0), (14, 0), (1, 100), (0, 100), (6, 0), (0, 81), (0, 81), (14, 0), (1, 100), (0, 100), (9, 0), (0, 64), (0, 64), (3, 4), (4, 4), (8, 0), (0, 64), (8, 0), (0, 64), (8, 0), (0, 64), (8, 0), (0, 64), (11, 0), (0, 64), (11, 0), (0, 64), (11, 0), (0, 64), (11, 0), (0, 64), (17, 0), (1, 64), (0, 128), (0, 128), (1, 4), (0, 256), (0, 90), (1, 64), (1, 128), (2, 16640), (0, 16640), (1, 64), (0, 64), (0, 64), (0, 64), (0, 64), (1, 100), (0, 100), (0, 81), (0, 81), (0, 64), (0, 4), (0, 4), (0, 256), (0, 64)]
def ly (k : Nat) : Nat × Nat := lyL.getD k (99, 0)
def rfL : List (List (Option Nat)) := [[some 1, some 5, some 8, some 14, some 17, some 24, some 28, some 34, some 37, some 38], [none, none, some 2, some 3, some 4], [], [], [], [some 6, some 7, none, none, none], [], [], [some 9, some 10, some 11, some 12, some 13, none, none], [], [], [], [], [], [some 15, some 16], [], [], [some 18, some 19, some 20, some 21], [], [], [], [some 22, some 23, none], [], [], [some 25], [some 26, some 27, none], [], [], [some 29, some 30, some 31], [], [], [some 32, some 33, none], [], [], [some 35, some 36], [], [], [some 39, some 41, some 43, some 45], [some 47, some 49, some 51, some 53], [none, some 40], [], [none, some 42], [], [none, some 44], [], [none, some 46], [], [none, none, none, some 48], [], [none, none, none, some 50], [], [none, none, none, some 52], [], [none, none, none, some 54], [], [none, none, some 56, some 57, some 58, some 59, some 60, some 61, none, none, some 62, some 63, some 64, some 65, some 66, some 67, some 68, some 69, some 70, some 71, some 72, some 73, some 74, some 75, some 76, some 77, some 78, some 79], [], [], [], [], [], [], [], [], [], [], [], [], [], [], [], [], [], [], [], [], [], [], [], []]
def dynR (k j : Nat) : Bool := (k == 8 && (j == 3 || j == 4)) || (k == 14 && (j == 0 || j == 1))
def gR (M : Mem) (k j : Nat) : Option Nat := if dynR k j = true then some (M.2.2 k j) else (rfL.getD k []).getD j none
def irL : List (List Bool) := [[true, true], [true, true, true], [true, true, true, true], [false, true], [true, true], [true], [false, false, false, true], [true, true, true, true, true, false, false], [true, true, false, false, false], [true, true, false], [false, false, true, true, true], [true, true, true, true, true, true, true, true, true, true], [false, false, true, true, true, true, true, true, false, false, true, true, true, true, true, true, true, true, true, true, true, true, true, true, true, true, true, true]]
def irq (ci j : Nat) : Bool := (irL.getD ci []).getD j false
def nfq (ci : Nat) : Nat := (irL.getD ci []).length
def NC : Nat := 80
def fv (ad : Nat → Nat) (M : Mem) (k ci j : Nat) : Value := if irq ci j = true then va_rf ((gR M k j).map ad) else .int (Int32.ofInt (gI M k (j : Int)))
def flds (ad : Nat → Nat) (M : Mem) (k ci : Nat) : List Value := (List.range (nfq ci)).map (fv ad M k ci)
def cE (ad : Nat → Nat) (cy : Nat → ClassId) (M : Mem) (k : Nat) : va_E :=
  if (ly k).1 < 2 then .inl (cy (ly k).1, (ly k).2, .inl (fun j => Int32.ofInt (gI M k (j : Int))))
  else if (ly k).1 = 2 then .inl (cy 2, (ly k).2, .inr (.inl (fun j => gL M k (j : Int))))
  else if (ly k).1 < 5 then .inl (cy (ly k).1, (ly k).2, .inr (.inr (.inr (.inr (fun j => (gR M k j).map ad)))))
  else .inr ((ly k).1 - 5, flds ad M k ((ly k).1 - 5))
def wld (ad : Nat → Nat) (cy : Nat → ClassId) (M : Mem) : va_W := (List.range NC).map (fun k => (ad k, cE ad cy M k))
def tysL (cy : Nat → ClassId) : List (ClassId × FieldType) := [(cy 0, .int), (cy 1, .boolean), (cy 2, .long), (cy 3, .object RX3), (cy 4, .object RX6)]
def wr (x : Int) : Int := x.bmod 4294967296
theorem gI_sI (M : Mem) (k : Nat) (j v : Int) (a : Nat) (b : Int) : gI (sI M k j v) a b = if a = k ∧ b = j then v else gI M a b := rfl
theorem gL_sI (M : Mem) (k : Nat) (j v : Int) (a : Nat) (b : Int) : gL (sI M k j v) a b = gL M a b := rfl
theorem gR_sI (M : Mem) (k : Nat) (j v : Int) (a b : Nat) : gR (sI M k j v) a b = gR M a b := rfl
theorem gI_sL (M : Mem) (k : Nat) (j : Int) (v : Int64) (a : Nat) (b : Int) : gI (sL M k j v) a b = gI M a b := rfl
theorem gL_sL (M : Mem) (k : Nat) (j : Int) (v : Int64) (a : Nat) (b : Int) : gL (sL M k j v) a b = if a = k ∧ b = j then v else gL M a b := rfl
theorem gR_sL (M : Mem) (k : Nat) (j : Int) (v : Int64) (a b : Nat) : gR (sL M k j v) a b = gR M a b := rfl
theorem gI_sR (M : Mem) (k j v a : Nat) (b : Int) : gI (sR M k j v) a b = gI M a b := rfl
theorem gL_sR (M : Mem) (k j v a : Nat) (b : Int) : gL (sR M k j v) a b = gL M a b := rfl
theorem gR_sR (M : Mem) (k j v a b : Nat) : gR (sR M k j v) a b = if dynR a b = true ∧ a = k ∧ b = j then some v else gR M a b := by
  unfold gR
  by_cases h : dynR a b = true
  · rw [if_pos h, if_pos h]
    by_cases h2 : a = k ∧ b = j
    · rw [if_pos ⟨h, h2⟩]
      show some (if a = k ∧ b = j then v else M.2.2 a b) = _
      rw [if_pos h2]
    · rw [if_neg (fun q => h2 q.2)]
      show some (if a = k ∧ b = j then v else M.2.2 a b) = _
      rw [if_neg h2]
  · rw [if_neg h, if_neg h, if_neg (fun q => h q.1)]
theorem gI_cpI (M : Mem) (k0 : Nat) (sp : Int) (k1 : Nat) (dp n : Int) (a : Nat) (b : Int) : gI (cpI M k0 sp k1 dp n) a b = if a = k1 ∧ dp ≤ b ∧ b < dp + n then gI M k0 (sp + (b - dp)) else gI M a b := rfl
theorem gL_cpI (M : Mem) (k0 : Nat) (sp : Int) (k1 : Nat) (dp n : Int) (a : Nat) (b : Int) : gL (cpI M k0 sp k1 dp n) a b = gL M a b := rfl
theorem gR_cpI (M : Mem) (k0 : Nat) (sp : Int) (k1 : Nat) (dp n : Int) (a b : Nat) : gR (cpI M k0 sp k1 dp n) a b = gR M a b := rfl
theorem wr_id {x : Int} (h : -2147483648 ≤ x) (h2 : x ≤ 2147483647) : wr x = x := by
  unfold wr
  rw [Int.bmod_def]
  have : x % 4294967296 = if 0 ≤ x then x else x + 4294967296 := by
    split <;> omega
  omega
theorem wr_toInt (x : Int) : (Int32.ofInt x).toInt = wr x := Int32.toInt_ofInt
theorem wr_lo (x : Int) : -2147483648 ≤ wr x := by
  rw [← wr_toInt]; exact Int32.le_toInt _
theorem wr_hi (x : Int) : wr x ≤ 2147483647 := by
  rw [← wr_toInt]; have := Int32.toInt_lt (Int32.ofInt x); omega
theorem wr_wr (x : Int) : wr (wr x) = wr x := wr_id (wr_lo x) (wr_hi x)
theorem of_wr (x : Int) : Int32.ofInt (wr x) = Int32.ofInt x := by
  rw [← wr_toInt, Int32.ofInt_toInt]
theorem oI_inj {a b : Int} (h : wr a = wr b) : Int32.ofInt a = Int32.ofInt b := by
  rw [← of_wr a, h, of_wr]
theorem wld_at {ad : Nat → Nat} {cy : Nat → ClassId} {M : Mem} {k : Nat} (h : k < NC) : (wld ad cy M)[k]? = some (ad k, cE ad cy M k) := by
  unfold wld
  rw [List.getElem?_map, List.getElem?_range h]
  rfl
theorem wld_lt {ad : Nat → Nat} {cy : Nat → ClassId} {M : Mem} {k : Nat} {q : Nat × va_E} (h : (wld ad cy M)[k]? = some q) : k < NC ∧ q = (ad k, cE ad cy M k) := by
  have h1 : k < NC := by
    have := (List.getElem?_eq_some_iff.mp h).1
    simpa [wld] using this
  exact ⟨h1, (Option.some.inj ((wld_at h1).symm.trans h)).symm⟩
theorem wld_set {ad : Nat → Nat} {cy : Nat → ClassId} {M M' : Mem} {k : Nat} (hM : ∀ i, i ≠ k → cE ad cy M' i = cE ad cy M i) : (wld ad cy M).set k (ad k, cE ad cy M' k) = wld ad cy M' := by
  apply List.ext_getElem?
  intro i
  rw [List.getElem?_set]
  by_cases hi : k = i
  · subst hi
    rw [if_pos rfl]
    by_cases hk : k < NC
    · rw [if_pos (by simpa [wld] using hk), wld_at hk]
    · rw [if_neg (by simpa [wld] using hk)]
      unfold wld
      rw [List.getElem?_eq_none (by simpa using hk)]
  · rw [if_neg hi]
    by_cases hk : i < NC
    · rw [wld_at hk, wld_at hk, hM i (fun e => hi e.symm)]
    · unfold wld
      rw [List.getElem?_eq_none (by simpa using hk), List.getElem?_eq_none (by simpa using hk)]
theorem gI_sI_ne {M : Mem} {k i : Nat} {j v b : Int} (h : i ≠ k) : gI (sI M k j v) i b = gI M i b := if_neg (fun q => h q.1)
theorem gI_sI_nj {M : Mem} {k i : Nat} {j v b : Int} (h : b ≠ j) : gI (sI M k j v) i b = gI M i b := if_neg (fun q => h q.2)
theorem gI_sI_eq {M : Mem} {k : Nat} {j v : Int} : gI (sI M k j v) k j = v := if_pos ⟨rfl, rfl⟩
theorem gI_cpI_ne {M : Mem} {k0 k i : Nat} {sp dp n b : Int} (h : i ≠ k) : gI (cpI M k0 sp k dp n) i b = gI M i b := if_neg (fun q => h q.1)
theorem gL_sL_ne {M : Mem} {k i : Nat} {j b : Int} {v : Int64} (h : i ≠ k) : gL (sL M k j v) i b = gL M i b := if_neg (fun q => h q.1)
theorem gL_sL_eq {M : Mem} {k : Nat} {j : Int} {v : Int64} : gL (sL M k j v) k j = v := if_pos ⟨rfl, rfl⟩
theorem gR_sR_ne {M : Mem} {k i j v b : Nat} (h : i ≠ k) : gR (sR M k j v) i b = gR M i b := (gR_sR M k j v i b).trans (if_neg (fun q => h q.2.1))
theorem gR_sR_nj {M : Mem} {k i j v b : Nat} (h : b ≠ j) : gR (sR M k j v) i b = gR M i b := (gR_sR M k j v i b).trans (if_neg (fun q => h q.2.2))
theorem fv_sI {ad : Nat → Nat} {M : Mem} {k i : Nat} {j v : Int} (h : i ≠ k) (ci a : Nat) : fv ad (sI M k j v) i ci a = fv ad M i ci a := by
  unfold fv
  rw [gR_sI, gI_sI_ne h]
theorem cE_sI {ad : Nat → Nat} {cy : Nat → ClassId} {M : Mem} {k i : Nat} {j v : Int} (h : i ≠ k) : cE ad cy (sI M k j v) i = cE ad cy M i := by
  unfold cE flds
  have e1 : (fun a : Nat => Int32.ofInt (gI (sI M k j v) i (a : Int))) = (fun a : Nat => Int32.ofInt (gI M i (a : Int))) := by
    funext a; rw [gI_sI_ne h]
  have e2 : fv ad (sI M k j v) i ((ly i).1 - 5) = fv ad M i ((ly i).1 - 5) := by funext a; exact fv_sI h _ a
  rw [e1, e2]
  rfl
theorem cE_cpI {ad : Nat → Nat} {cy : Nat → ClassId} {M : Mem} {k0 k i : Nat} {sp dp n : Int} (h : i ≠ k) : cE ad cy (cpI M k0 sp k dp n) i = cE ad cy M i := by
  unfold cE flds
  have e1 : (fun a : Nat => Int32.ofInt (gI (cpI M k0 sp k dp n) i (a : Int))) = (fun a : Nat => Int32.ofInt (gI M i (a : Int))) := by
    funext a; rw [gI_cpI_ne h]
  have e2 : fv ad (cpI M k0 sp k dp n) i ((ly i).1 - 5) = fv ad M i ((ly i).1 - 5) := by
    funext a; unfold fv; rw [gR_cpI, gI_cpI_ne h]
  rw [e1, e2]
  rfl
theorem cE_sL {ad : Nat → Nat} {cy : Nat → ClassId} {M : Mem} {k i : Nat} {j : Int} {v : Int64} (h : i ≠ k) : cE ad cy (sL M k j v) i = cE ad cy M i := by
  unfold cE flds
  have e1 : (fun a : Nat => gL (sL M k j v) i (a : Int)) = (fun a : Nat => gL M i (a : Int)) := by
    funext a; rw [gL_sL, if_neg (fun q => h q.1)]
  rw [e1]
  rfl
theorem cE_sR {ad : Nat → Nat} {cy : Nat → ClassId} {M : Mem} {k i j v : Nat} (h : i ≠ k) : cE ad cy (sR M k j v) i = cE ad cy M i := by
  unfold cE flds
  have e1 : (fun a : Nat => (gR (sR M k j v) i a).map ad) = (fun a : Nat => (gR M i a).map ad) := by
    funext a; rw [gR_sR_ne h]
  have e2 : fv ad (sR M k j v) i ((ly i).1 - 5) = fv ad M i ((ly i).1 - 5) := by
    funext a; unfold fv; rw [gR_sR_ne h]; rfl
  rw [e1, e2]
  rfl
theorem cE_int {ad : Nat → Nat} {cy : Nat → ClassId} {M : Mem} {k t n : Nat} (h : ly k = (t, n)) (ht : t < 2) : cE ad cy M k = .inl (cy t, n, .inl (fun j => Int32.ofInt (gI M k (j : Int)))) := by
  unfold cE; rw [h]; exact if_pos ht
theorem cE_long {ad : Nat → Nat} {cy : Nat → ClassId} {M : Mem} {k n : Nat} (h : ly k = (2, n)) : cE ad cy M k = .inl (cy 2, n, .inr (.inl (fun j => gL M k (j : Int)))) := by
  unfold cE; rw [h]; rfl
theorem cE_ref {ad : Nat → Nat} {cy : Nat → ClassId} {M : Mem} {k t n : Nat} (h : ly k = (t, n)) (h1 : 2 < t) (h2 : t < 5) : cE ad cy M k = .inl (cy t, n, .inr (.inr (.inr (.inr (fun j => (gR M k j).map ad))))) := by
  unfold cE; rw [h]
  show (if t < 2 then _ else if t = 2 then _ else if t < 5 then _ else _) = _
  rw [if_neg (by omega), if_neg (by omega), if_pos h2]
theorem cE_obj {ad : Nat → Nat} {cy : Nat → ClassId} {M : Mem} {k ci n : Nat} (h : ly k = (ci + 5, n)) : cE ad cy M k = .inr (ci, flds ad M k ci) := by
  unfold cE; rw [h]
  show (if ci + 5 < 2 then _ else if ci + 5 = 2 then _ else if ci + 5 < 5 then _ else _) = _
  rw [if_neg (by omega), if_neg (by omega), if_neg (by omega)]
  rfl
theorem ly_lt {k t n : Nat} (h : ly k = (t, n)) (ht : t < 99) : k < NC := by
  by_cases hk : k < NC
  · exact hk
  · have : ly k = (99, 0) := by
      unfold ly
      rw [List.getD_eq_getElem?_getD, List.getElem?_eq_none (by exact Nat.not_lt.mp hk)]
      rfl
    rw [h] at this
    cases this
    omega
theorem flds_at {ad : Nat → Nat} {M : Mem} {k ci j : Nat} (h : j < nfq ci) : (flds ad M k ci)[j]? = some (fv ad M k ci j) := by
  unfold flds
  rw [List.getElem?_map, List.getElem?_range h]
  rfl
theorem flds_len {ad : Nat → Nat} {M : Mem} {k ci : Nat} : (flds ad M k ci).length = nfq ci := by
  simp [flds]
theorem flds_sI {ad : Nat → Nat} {M : Mem} {k ci j : Nat} {v : Int} (h : irq ci j = false) : (flds ad M k ci).set j (.int (Int32.ofInt v)) = flds ad (sI M k (j : Int) v) k ci := by
  apply List.ext_getElem?
  intro i
  rw [List.getElem?_set]
  by_cases hi : j = i
  · subst hi
    rw [if_pos rfl]
    by_cases hk : j < nfq ci
    · rw [if_pos (by rw [flds_len]; exact hk), flds_at hk]
      unfold fv
      rw [if_neg (by rw [h]; decide), gI_sI_eq]
    · rw [if_neg (by rw [flds_len]; exact hk), List.getElem?_eq_none (by rw [flds_len]; omega)]
  · rw [if_neg hi]
    by_cases hk : i < nfq ci
    · rw [flds_at hk, flds_at hk]
      unfold fv
      rw [gR_sI, gI_sI_nj (by omega)]
    · rw [List.getElem?_eq_none (by rw [flds_len]; omega), List.getElem?_eq_none (by rw [flds_len]; omega)]
theorem flds_sR {ad : Nat → Nat} {M : Mem} {k ci j v : Nat} (h : irq ci j = true) (hd : dynR k j = true) : (flds ad M k ci).set j (.ref (ad v)) = flds ad (sR M k j v) k ci := by
  apply List.ext_getElem?
  intro i
  rw [List.getElem?_set]
  by_cases hi : j = i
  · subst hi
    rw [if_pos rfl]
    by_cases hk : j < nfq ci
    · rw [if_pos (by rw [flds_len]; exact hk), flds_at hk]
      unfold fv
      rw [if_pos h, gR_sR, if_pos ⟨hd, rfl, rfl⟩]
      rfl
    · rw [if_neg (by rw [flds_len]; exact hk), List.getElem?_eq_none (by rw [flds_len]; omega)]
  · rw [if_neg hi]
    by_cases hk : i < nfq ci
    · rw [flds_at hk, flds_at hk]
      unfold fv
      rw [gR_sR_nj (fun q => hi q.symm)]
      rfl
    · rw [List.getElem?_eq_none (by rw [flds_len]; omega), List.getElem?_eq_none (by rw [flds_len]; omega)]
