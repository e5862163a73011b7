/-! contracts in my words, and calls -/
def AW (ad : Nat → Nat) : Nat → Prop := fun q => ∃ k, k < NC ∧ q = ad k
def rmL (n : Nat) : Room := { frames := n, cells := 0, slots := 0, locals := 40 * n }
def wsY (y : MethodName) (cc : ByteArray) (mL : Nat) (rt : Option FieldType) : List Cond := .code y cc mL rt :: gtb
def PcM (D : va_G) (cy : Nat → ClassId) (ad : Nat → Nat) (M : Mem) : State → Prop := fun U => va_P D vwCl (wld ad cy M) U.heap ∧ va_K D vwCl (tysL cy) U ∧ (∀ i j, i < NC → j < NC → ad i = ad j → i = j) ∧ NW U
def BqM (D : va_G) (cy : Nat → ClassId) (ad : Nat → Nat) (M : Mem) : Unit → State → Prop := fun _ t => va_P D vwCl (wld ad cy M) t.heap ∧ va_K D vwCl (tysL cy) t
theorem tbl_good : gtb.all goodWord = true := by
  rw [List.all_eq_true]
  intro w hw
  exact (List.mem_filter.mp hw).2
theorem ws_good {y : MethodName} {cc : ByteArray} {mL : Nat} {rt : Option FieldType} (h : Cond.code y cc mL rt ∈ gtb) : GoodIn gtb (wsY y cc mL rt) := by
  intro w hw
  rcases List.mem_cons.mp hw with rfl | hw
  · exact ⟨h, good_of_word (List.all_eq_true.mp tbl_good _ h)⟩
  · exact ⟨hw, good_of_word (List.all_eq_true.mp tbl_good _ hw)⟩
def Dsc (y : MethodName) (np : Nat) : Prop := y.cls ≠ "java/lang/invoke/MethodHandle" ∧ y.cls ≠ "java/lang/invoke/VarHandle" ∧ (parseMethodDescriptor y.desc).map (fun d => d.parameters.length) = some np
def MV (own : String) (idx : Nat) (y : MethodName) (cc : ByteArray) (mL : Nat) (rt : Option FieldType) (np ci : Nat) : Prop :=
  Cond.methodLink own idx y ∈ gtb ∧ Cond.instanceMethod y ∈ gtb ∧ Cond.selects y.cls y y ∈ gtb ∧ Cond.initialized y.cls ∈ gtb ∧ Cond.code y cc mL rt ∈ gtb ∧ Dsc y np ∧ ∃ (T : u_T) (N : Nat), vwCl[ci]? = some (y.cls, T, N)
def MS (own : String) (idx : Nat) (y : MethodName) (cc : ByteArray) (mL : Nat) (rt : Option FieldType) (np : Nat) : Prop :=
  Cond.methodLink own idx y ∈ gtb ∧ Cond.static y ∈ gtb ∧ Cond.initialized y.cls ∈ gtb ∧ Cond.code y cc mL rt ∈ gtb ∧ Dsc y np
def MN (own : String) (idx : Nat) (y : MethodName) (host : String) (cc : ByteArray) (mL : Nat) (rt : Option FieldType) (np : Nat) : Prop :=
  (own, idx, y, host) ∈ nst ∧ Cond.static y ∈ gtb ∧ Cond.initialized y.cls ∈ gtb ∧ Cond.code y cc mL rt ∈ gtb ∧ Dsc y np
theorem cat_map (ad : Nat → Nat) (st : List Mv) : ((st.map (cv ad)).map fun v => v.category) = st.map fun v => if isL v = true then 2 else 1 := by
  rw [List.map_map]; congr 1; funext v; exact cv_cat ad v
theorem PcM_blind {D : va_G} {cy : Nat → ClassId} {ad : Nat → Nat} {M : Mem} {av : List Value} : FrameBlind (va_Pc av (PcM D cy ad M)) := fun a U g mk q => by
  obtain ⟨q0, qP, qK, qD, qN⟩ := q
  exact ⟨q0, qP, va_K.moved (u := U) (U := U.calling g mk a) (Vm.Alike.refl U.vm) qK, qD, qN.same rfl⟩

def QxI (D : va_G) (cy : Nat → ClassId) (ad : Nat → Nat) (r : Int) (M : Mem) : Array Value → State → Outcome → State → Prop := va_Qi (fun (r9 : Int32) (_ : Unit) => r9 = Int32.ofInt r) (BqM D cy ad M) (AW ad)
def RunI (n : Nat) (y : MethodName) (cc : ByteArray) (mL : Nat) (rt : Option FieldType) (av : List Mv) (M : Mem) (r : Int) (M2 : Mem) : Prop := ∀ (l : Launch) (D : va_G) (cy : Nat → ClassId) (ad : Nat → Nat), Met l y (wsY y cc mL rt) (rmL n) (va_Pc (av.map (cv ad)) (PcM D cy ad M)) (QxI D cy ad r M2) 0 0 (AW ad)
def RetI (G : Gx) (n : Nat) (cc : ByteArray) (own : String) (nL : Nat) (r : Int) (M2 : Mem) : Prop := ∀ (pc : Nat) (lv : List (Nat × Mv)), decode cc pc = .ok (.ireturn, 1) → Ex G n cc own nL pc lv [vI r] M2

def QxL (D : va_G) (cy : Nat → ClassId) (ad : Nat → Nat) (r : Int64) (M : Mem) : Array Value → State → Outcome → State → Prop := va_Ql (fun (r9 : Int64) (_ : Unit) => r9 = r) (BqM D cy ad M) (AW ad)
def RunL (n : Nat) (y : MethodName) (cc : ByteArray) (mL : Nat) (rt : Option FieldType) (av : List Mv) (M : Mem) (r : Int64) (M2 : Mem) : Prop := ∀ (l : Launch) (D : va_G) (cy : Nat → ClassId) (ad : Nat → Nat), Met l y (wsY y cc mL rt) (rmL n) (va_Pc (av.map (cv ad)) (PcM D cy ad M)) (QxL D cy ad r M2) 0 0 (AW ad)
def RetL (G : Gx) (n : Nat) (cc : ByteArray) (own : String) (nL : Nat) (r : Int64) (M2 : Mem) : Prop := ∀ (pc : Nat) (lv : List (Nat × Mv)), decode cc pc = .ok (.lreturn, 1) → Ex G n cc own nL pc lv [vL r] M2

def QxV (D : va_G) (cy : Nat → ClassId) (ad : Nat → Nat)  (M : Mem) : Array Value → State → Outcome → State → Prop := va_Qv (fun (_ : Unit) => True) (BqM D cy ad M) (AW ad)
def RunV (n : Nat) (y : MethodName) (cc : ByteArray) (mL : Nat) (rt : Option FieldType) (av : List Mv) (M : Mem)  (M2 : Mem) : Prop := ∀ (l : Launch) (D : va_G) (cy : Nat → ClassId) (ad : Nat → Nat), Met l y (wsY y cc mL rt) (rmL n) (va_Pc (av.map (cv ad)) (PcM D cy ad M)) (QxV D cy ad  M2) 0 0 (AW ad)
def RetV (G : Gx) (n : Nat) (cc : ByteArray) (own : String) (nL : Nat)  (M2 : Mem) : Prop := ∀ (pc : Nat) (lv : List (Nat × Mv)), decode cc pc = .ok (.return_, 1) → Ex G n cc own nL pc lv [] M2

set_option maxRecDepth 10000 in
theorem r_callVI {G : Gx} {n : Nat} {cc : ByteArray} {own : String} {nL pc : Nat} {lv : List (Nat × Mv)} {st : List Mv} {M : Mem} {idx mL np nb : Nat} {k ci : Nat} {y : MethodName} {cc2 : ByteArray} {rt : Option FieldType} {avs st0 : List Mv} {r : Int} {M2 : Mem} (hd : decode cc pc = .ok (.invokevirtual idx, 3)) (hm : MV own idx y cc2 mL rt np ci) (hrun : RunI nb y cc2 mL rt (vR k :: avs) M r M2) (hn : nb + 1 ≤ n) (hmL : mL ≤ 21) (hk : (ly k).1 = ci + 5) (hnp : avs.length = np) (hst : (st.map fun v => if isL v = true then 2 else 1).sum ≤ 8) (hs : st0 = avs.reverse ++ vR k :: st) (kk : Ex G n cc own nL (pc + 3) lv (vI r :: st) M2) : Ex G n cc own nL pc lv st0 M := by
  obtain ⟨⟨p, l, e, R⟩, ⟨s, m, args, below, meth, c⟩, ⟨cells, slots⟩, Q, D, cy, ad, A⟩ := G
  intro hF H locs ls hP hS hl
  have hx := hF.1
  have hb := hF.2.1
  subst hs
  have hts := hF.2.2.2.2.1
  have hrm : (rmL nb).frames + 1 ≤ R.frames ∧ 8 + (mL + 11) + (rmL nb).locals ≤ R.locals := by
    have h1 := hF.2.2.2.2.2.2.1.1
    have h2 := hF.2.2.2.2.2.2.1.2.1
    refine ⟨?_, ?_⟩
    · show nb + 1 ≤ R.frames
      omega
    · show 8 + (mL + 11) + 40 * nb ≤ R.locals
      omega
  have hroom : cells + 0 ≤ R.cells ∧ slots + 0 ≤ R.slots := ⟨hF.2.2.2.2.2.2.1.2.2.1, hF.2.2.2.2.2.2.1.2.2.2.1⟩
  obtain ⟨g1, g2, g3, g4, g5, g6, T, N, g7⟩ := hm
  have hci : ci < 13 := (List.getElem?_eq_some_iff.mp g7).1
  have hrc := va_recv hF.2.2.2.2.2.1 hP g7 (wld_obj (ad := ad) (cy := cy) (M := M) hk hci)
  have hcw : CallW R s args own y.cls idx y cc2 mL rt (wsY y cc2 mL rt) (rmL nb) 0 0 np := ⟨callB_of np hts (ws_good g5) rfl rfl rfl (hts _ g4) (hts _ g1) g6 hrm, hts _ g2, hts _ g3⟩
  have hr := va_runV (e := e) (below := below) (meth := meth) (H := H) (locs := locs) (cells := cells) (slots := slots) (g := F0 m pc ls ((avs.reverse ++ vR k :: st).map (cv ad))) (b := ad k) (As := avs.map (cv ad)) (rest := st.map (cv ad)) ⟨hx, hb, hF.2.2.1, hF.2.2.2.1, hts⟩ (hrun l D cy ad) hcw ⟨PcM_blind, hrc, fun U hU hW => ⟨rfl, by rw [hU]; exact hP, va_K.moved hW.alike hF.2.2.2.2.2.1, hF.2.2.2.2.2.2.2.2, hF.2.2.2.2.2.2.1.2.2.2.2.warm hW⟩⟩ rfl (by rw [List.length_map]; exact hnp) hl.1 (by simp [cv, va_rf]) (by rw [cat_map]; show 2 * 0 + _ ≤ 8; omega) hd hroom
  refine va_calli hr hS (fun q _ h => ?_) (fun q h => ?_) (fun r9 u t H1 locs1 ht hvm hw hB hz1 hk1 hS1 => ?_)
  · obtain ⟨j, h1, rfl⟩ := h
    exact hF.2.2.2.2.2.2.2.1 j h1
  · obtain ⟨j, h1, rfl⟩ := h
    exact hF.2.2.2.2.2.2.2.1 j h1
  · obtain ⟨hP1, hK1⟩ := hB
    rw [ht] at hP1
    subst hw
    exact kk hF H1 locs1 ls hP1 hS1 hl
set_option maxRecDepth 10000 in
theorem r_callSI {G : Gx} {n : Nat} {cc : ByteArray} {own : String} {nL pc : Nat} {lv : List (Nat × Mv)} {st : List Mv} {M : Mem} {idx mL np nb : Nat} {y : MethodName} {cc2 : ByteArray} {rt : Option FieldType} {avs st0 : List Mv} {r : Int} {M2 : Mem} (hd : decode cc pc = .ok (.invokestatic idx, 3)) (hm : MS own idx y cc2 mL rt np) (hrun : RunI nb y cc2 mL rt avs M r M2) (hn : nb + 1 ≤ n) (hmL : mL ≤ 21) (hnp : avs.length = np) (hst : (st.map fun v => if isL v = true then 2 else 1).sum ≤ 8) (hs : st0 = avs.reverse ++ st) (kk : Ex G n cc own nL (pc + 3) lv (vI r :: st) M2) : Ex G n cc own nL pc lv st0 M := by
  obtain ⟨⟨p, l, e, R⟩, ⟨s, m, args, below, meth, c⟩, ⟨cells, slots⟩, Q, D, cy, ad, A⟩ := G
  intro hF H locs ls hP hS hl
  have hx := hF.1
  have hb := hF.2.1
  subst hs
  have hts := hF.2.2.2.2.1
  have hrm : (rmL nb).frames + 1 ≤ R.frames ∧ 8 + (mL + 11) + (rmL nb).locals ≤ R.locals := by
    have h1 := hF.2.2.2.2.2.2.1.1
    have h2 := hF.2.2.2.2.2.2.1.2.1
    refine ⟨?_, ?_⟩
    · show nb + 1 ≤ R.frames
      omega
    · show 8 + (mL + 11) + 40 * nb ≤ R.locals
      omega
  have hroom : cells + 0 ≤ R.cells ∧ slots + 0 ≤ R.slots := ⟨hF.2.2.2.2.2.2.1.2.2.1, hF.2.2.2.2.2.2.1.2.2.2.1⟩
  obtain ⟨g1, g2, g4, g5, g6⟩ := hm
  have hcw : CallB R s args own idx y cc2 mL rt (wsY y cc2 mL rt) (rmL nb) 0 0 np ∧ (Cond.static y).before args s = true := ⟨callB_of np hts (ws_good g5) rfl rfl rfl (hts _ g4) (hts _ g1) g6 hrm, hts _ g2⟩
  have hr := va_runS (e := e) (below := below) (meth := meth) (H := H) (locs := locs) (cells := cells) (slots := slots) (g := F0 m pc ls ((avs.reverse ++ st).map (cv ad))) (As := avs.map (cv ad)) (rest := st.map (cv ad)) ⟨hx, hb, hF.2.2.1, hF.2.2.2.1, hts⟩ (hrun l D cy ad) hcw ⟨PcM_blind, fun U hU hW => ⟨rfl, by rw [hU]; exact hP, va_K.moved hW.alike hF.2.2.2.2.2.1, hF.2.2.2.2.2.2.2.2, hF.2.2.2.2.2.2.1.2.2.2.2.warm hW⟩⟩ rfl (by rw [List.length_map]; exact hnp) hl.1 (by simp) (by rw [cat_map]; show 2 * 0 + _ ≤ 8; omega) hd hroom
  refine va_calli hr hS (fun q _ h => ?_) (fun q h => ?_) (fun r9 u t H1 locs1 ht hvm hw hB hz1 hk1 hS1 => ?_)
  · obtain ⟨j, h1, rfl⟩ := h
    exact hF.2.2.2.2.2.2.2.1 j h1
  · obtain ⟨j, h1, rfl⟩ := h
    exact hF.2.2.2.2.2.2.2.1 j h1
  · obtain ⟨hP1, hK1⟩ := hB
    rw [ht] at hP1
    subst hw
    exact kk hF H1 locs1 ls hP1 hS1 hl
set_option maxRecDepth 10000 in
theorem r_callNI {G : Gx} {n : Nat} {cc : ByteArray} {own : String} {nL pc : Nat} {lv : List (Nat × Mv)} {st : List Mv} {M : Mem} {idx mL np nb : Nat} {host : String} {y : MethodName} {cc2 : ByteArray} {rt : Option FieldType} {avs st0 : List Mv} {r : Int} {M2 : Mem} (hd : decode cc pc = .ok (.invokestatic idx, 3)) (hm : MN own idx y host cc2 mL rt np) (hrun : RunI nb y cc2 mL rt avs M r M2) (hn : nb + 1 ≤ n) (hmL : mL ≤ 21) (hnp : avs.length = np) (hst : (st.map fun v => if isL v = true then 2 else 1).sum ≤ 8) (hs : st0 = avs.reverse ++ st) (kk : Ex G n cc own nL (pc + 3) lv (vI r :: st) M2) : Ex G n cc own nL pc lv st0 M := by
  obtain ⟨⟨p, l, e, R⟩, ⟨s, m, args, below, meth, c⟩, ⟨cells, slots⟩, Q, D, cy, ad, A⟩ := G
  intro hF H locs ls hP hS hl
  have hx := hF.1
  have hb := hF.2.1
  subst hs
  have hts := hF.2.2.2.2.1
  have hrm : (rmL nb).frames + 1 ≤ R.frames ∧ 8 + (mL + 11) + (rmL nb).locals ≤ R.locals := by
    have h1 := hF.2.2.2.2.2.2.1.1
    have h2 := hF.2.2.2.2.2.2.1.2.1
    refine ⟨?_, ?_⟩
    · show nb + 1 ≤ R.frames
      omega
    · show 8 + (mL + 11) + 40 * nb ≤ R.locals
      omega
  have hroom : cells + 0 ≤ R.cells ∧ slots + 0 ≤ R.slots := ⟨hF.2.2.2.2.2.2.1.2.2.1, hF.2.2.2.2.2.2.1.2.2.2.1⟩
  obtain ⟨g1, g2, g4, g5, g6⟩ := hm
  have hcw : va_CN R s args own idx y host cc2 mL rt (wsY y cc2 mL rt) (rmL nb) 0 0 np ∧ (Cond.static y).before args s = true ∧ True := ⟨va_cnB np hts (ws_good g5) rfl rfl rfl (hF.2.2.2.2.2.2.1.2.2.2.2 _ g1) (hts _ g4) g6 hrm, hts _ g2, trivial⟩
  have hr := va_runSN (e := e) (below := below) (meth := meth) (H := H) (locs := locs) (cells := cells) (slots := slots) (g := F0 m pc ls ((avs.reverse ++ st).map (cv ad))) (As := avs.map (cv ad)) (rest := st.map (cv ad)) ⟨hx, hb, hF.2.2.1, hF.2.2.2.1, hts⟩ (hrun l D cy ad) hcw ⟨PcM_blind, fun U hU hW => ⟨rfl, by rw [hU]; exact hP, va_K.moved hW.alike hF.2.2.2.2.2.1, hF.2.2.2.2.2.2.2.2, hF.2.2.2.2.2.2.1.2.2.2.2.warm hW⟩⟩ rfl (by rw [List.length_map]; exact hnp) hl.1 (by simp) (by rw [cat_map]; show 2 * 0 + _ ≤ 8; omega) hd hroom
  refine va_calli hr hS (fun q _ h => ?_) (fun q h => ?_) (fun r9 u t H1 locs1 ht hvm hw hB hz1 hk1 hS1 => ?_)
  · obtain ⟨j, h1, rfl⟩ := h
    exact hF.2.2.2.2.2.2.2.1 j h1
  · obtain ⟨j, h1, rfl⟩ := h
    exact hF.2.2.2.2.2.2.2.1 j h1
  · obtain ⟨hP1, hK1⟩ := hB
    rw [ht] at hP1
    subst hw
    exact kk hF H1 locs1 ls hP1 hS1 hl
set_option maxRecDepth 10000 in
theorem r_callVL {G : Gx} {n : Nat} {cc : ByteArray} {own : String} {nL pc : Nat} {lv : List (Nat × Mv)} {st : List Mv} {M : Mem} {idx mL np nb : Nat} {k ci : Nat} {y : MethodName} {cc2 : ByteArray} {rt : Option FieldType} {avs st0 : List Mv} {r : Int64} {M2 : Mem} (hd : decode cc pc = .ok (.invokevirtual idx, 3)) (hm : MV own idx y cc2 mL rt np ci) (hrun : RunL nb y cc2 mL rt (vR k :: avs) M r M2) (hn : nb + 1 ≤ n) (hmL : mL ≤ 21) (hk : (ly k).1 = ci + 5) (hnp : avs.length = np) (hst : (st.map fun v => if isL v = true then 2 else 1).sum ≤ 8) (hs : st0 = avs.reverse ++ vR k :: st) (kk : Ex G n cc own nL (pc + 3) lv (vL r :: st) M2) : Ex G n cc own nL pc lv st0 M := by
  obtain ⟨⟨p, l, e, R⟩, ⟨s, m, args, below, meth, c⟩, ⟨cells, slots⟩, Q, D, cy, ad, A⟩ := G
  intro hF H locs ls hP hS hl
  have hx := hF.1
  have hb := hF.2.1
  subst hs
  have hts := hF.2.2.2.2.1
  have hrm : (rmL nb).frames + 1 ≤ R.frames ∧ 8 + (mL + 11) + (rmL nb).locals ≤ R.locals := by
    have h1 := hF.2.2.2.2.2.2.1.1
    have h2 := hF.2.2.2.2.2.2.1.2.1
    refine ⟨?_, ?_⟩
    · show nb + 1 ≤ R.frames
      omega
    · show 8 + (mL + 11) + 40 * nb ≤ R.locals
      omega
  have hroom : cells + 0 ≤ R.cells ∧ slots + 0 ≤ R.slots := ⟨hF.2.2.2.2.2.2.1.2.2.1, hF.2.2.2.2.2.2.1.2.2.2.1⟩
  obtain ⟨g1, g2, g3, g4, g5, g6, T, N, g7⟩ := hm
  have hci : ci < 13 := (List.getElem?_eq_some_iff.mp g7).1
  have hrc := va_recv hF.2.2.2.2.2.1 hP g7 (wld_obj (ad := ad) (cy := cy) (M := M) hk hci)
  have hcw : CallW R s args own y.cls idx y cc2 mL rt (wsY y cc2 mL rt) (rmL nb) 0 0 np := ⟨callB_of np hts (ws_good g5) rfl rfl rfl (hts _ g4) (hts _ g1) g6 hrm, hts _ g2, hts _ g3⟩
  have hr := va_runV (e := e) (below := below) (meth := meth) (H := H) (locs := locs) (cells := cells) (slots := slots) (g := F0 m pc ls ((avs.reverse ++ vR k :: st).map (cv ad))) (b := ad k) (As := avs.map (cv ad)) (rest := st.map (cv ad)) ⟨hx, hb, hF.2.2.1, hF.2.2.2.1, hts⟩ (hrun l D cy ad) hcw ⟨PcM_blind, hrc, fun U hU hW => ⟨rfl, by rw [hU]; exact hP, va_K.moved hW.alike hF.2.2.2.2.2.1, hF.2.2.2.2.2.2.2.2, hF.2.2.2.2.2.2.1.2.2.2.2.warm hW⟩⟩ rfl (by rw [List.length_map]; exact hnp) hl.1 (by simp [cv, va_rf]) (by rw [cat_map]; show 2 * 0 + _ ≤ 8; omega) hd hroom
  refine va_calll hr hS (fun q _ h => ?_) (fun q h => ?_) (fun r9 u t H1 locs1 ht hvm hw hB hz1 hk1 hS1 => ?_)
  · obtain ⟨j, h1, rfl⟩ := h
    exact hF.2.2.2.2.2.2.2.1 j h1
  · obtain ⟨j, h1, rfl⟩ := h
    exact hF.2.2.2.2.2.2.2.1 j h1
  · obtain ⟨hP1, hK1⟩ := hB
    rw [ht] at hP1
    subst hw
    exact kk hF H1 locs1 ls hP1 hS1 hl
set_option maxRecDepth 10000 in
theorem r_callSL {G : Gx} {n : Nat} {cc : ByteArray} {own : String} {nL pc : Nat} {lv : List (Nat × Mv)} {st : List Mv} {M : Mem} {idx mL np nb : Nat} {y : MethodName} {cc2 : ByteArray} {rt : Option FieldType} {avs st0 : List Mv} {r : Int64} {M2 : Mem} (hd : decode cc pc = .ok (.invokestatic idx, 3)) (hm : MS own idx y cc2 mL rt np) (hrun : RunL nb y cc2 mL rt avs M r M2) (hn : nb + 1 ≤ n) (hmL : mL ≤ 21) (hnp : avs.length = np) (hst : (st.map fun v => if isL v = true then 2 else 1).sum ≤ 8) (hs : st0 = avs.reverse ++ st) (kk : Ex G n cc own nL (pc + 3) lv (vL r :: st) M2) : Ex G n cc own nL pc lv st0 M := by
  obtain ⟨⟨p, l, e, R⟩, ⟨s, m, args, below, meth, c⟩, ⟨cells, slots⟩, Q, D, cy, ad, A⟩ := G
  intro hF H locs ls hP hS hl
  have hx := hF.1
  have hb := hF.2.1
  subst hs
  have hts := hF.2.2.2.2.1
  have hrm : (rmL nb).frames + 1 ≤ R.frames ∧ 8 + (mL + 11) + (rmL nb).locals ≤ R.locals := by
    have h1 := hF.2.2.2.2.2.2.1.1
    have h2 := hF.2.2.2.2.2.2.1.2.1
    refine ⟨?_, ?_⟩
    · show nb + 1 ≤ R.frames
      omega
    · show 8 + (mL + 11) + 40 * nb ≤ R.locals
      omega
  have hroom : cells + 0 ≤ R.cells ∧ slots + 0 ≤ R.slots := ⟨hF.2.2.2.2.2.2.1.2.2.1, hF.2.2.2.2.2.2.1.2.2.2.1⟩
  obtain ⟨g1, g2, g4, g5, g6⟩ := hm
  have hcw : CallB R s args own idx y cc2 mL rt (wsY y cc2 mL rt) (rmL nb) 0 0 np ∧ (Cond.static y).before args s = true := ⟨callB_of np hts (ws_good g5) rfl rfl rfl (hts _ g4) (hts _ g1) g6 hrm, hts _ g2⟩
  have hr := va_runS (e := e) (below := below) (meth := meth) (H := H) (locs := locs) (cells := cells) (slots := slots) (g := F0 m pc ls ((avs.reverse ++ st).map (cv ad))) (As := avs.map (cv ad)) (rest := st.map (cv ad)) ⟨hx, hb, hF.2.2.1, hF.2.2.2.1, hts⟩ (hrun l D cy ad) hcw ⟨PcM_blind, fun U hU hW => ⟨rfl, by rw [hU]; exact hP, va_K.moved hW.alike hF.2.2.2.2.2.1, hF.2.2.2.2.2.2.2.2, hF.2.2.2.2.2.2.1.2.2.2.2.warm hW⟩⟩ rfl (by rw [List.length_map]; exact hnp) hl.1 (by simp) (by rw [cat_map]; show 2 * 0 + _ ≤ 8; omega) hd hroom
  refine va_calll hr hS (fun q _ h => ?_) (fun q h => ?_) (fun r9 u t H1 locs1 ht hvm hw hB hz1 hk1 hS1 => ?_)
  · obtain ⟨j, h1, rfl⟩ := h
    exact hF.2.2.2.2.2.2.2.1 j h1
  · obtain ⟨j, h1, rfl⟩ := h
    exact hF.2.2.2.2.2.2.2.1 j h1
  · obtain ⟨hP1, hK1⟩ := hB
    rw [ht] at hP1
    subst hw
    exact kk hF H1 locs1 ls hP1 hS1 hl
set_option maxRecDepth 10000 in
theorem r_callNL {G : Gx} {n : Nat} {cc : ByteArray} {own : String} {nL pc : Nat} {lv : List (Nat × Mv)} {st : List Mv} {M : Mem} {idx mL np nb : Nat} {host : String} {y : MethodName} {cc2 : ByteArray} {rt : Option FieldType} {avs st0 : List Mv} {r : Int64} {M2 : Mem} (hd : decode cc pc = .ok (.invokestatic idx, 3)) (hm : MN own idx y host cc2 mL rt np) (hrun : RunL nb y cc2 mL rt avs M r M2) (hn : nb + 1 ≤ n) (hmL : mL ≤ 21) (hnp : avs.length = np) (hst : (st.map fun v => if isL v = true then 2 else 1).sum ≤ 8) (hs : st0 = avs.reverse ++ st) (kk : Ex G n cc own nL (pc + 3) lv (vL r :: st) M2) : Ex G n cc own nL pc lv st0 M := by
  obtain ⟨⟨p, l, e, R⟩, ⟨s, m, args, below, meth, c⟩, ⟨cells, slots⟩, Q, D, cy, ad, A⟩ := G
  intro hF H locs ls hP hS hl
  have hx := hF.1
  have hb := hF.2.1
  subst hs
  have hts := hF.2.2.2.2.1
  have hrm : (rmL nb).frames + 1 ≤ R.frames ∧ 8 + (mL + 11) + (rmL nb).locals ≤ R.locals := by
    have h1 := hF.2.2.2.2.2.2.1.1
    have h2 := hF.2.2.2.2.2.2.1.2.1
    refine ⟨?_, ?_⟩
    · show nb + 1 ≤ R.frames
      omega
    · show 8 + (mL + 11) + 40 * nb ≤ R.locals
      omega
  have hroom : cells + 0 ≤ R.cells ∧ slots + 0 ≤ R.slots := ⟨hF.2.2.2.2.2.2.1.2.2.1, hF.2.2.2.2.2.2.1.2.2.2.1⟩
  obtain ⟨g1, g2, g4, g5, g6⟩ := hm
  have hcw : va_CN R s args own idx y host cc2 mL rt (wsY y cc2 mL rt) (rmL nb) 0 0 np ∧ (Cond.static y).before args s = true ∧ True := ⟨va_cnB np hts (ws_good g5) rfl rfl rfl (hF.2.2.2.2.2.2.1.2.2.2.2 _ g1) (hts _ g4) g6 hrm, hts _ g2, trivial⟩
  have hr := va_runSN (e := e) (below := below) (meth := meth) (H := H) (locs := locs) (cells := cells) (slots := slots) (g := F0 m pc ls ((avs.reverse ++ st).map (cv ad))) (As := avs.map (cv ad)) (rest := st.map (cv ad)) ⟨hx, hb, hF.2.2.1, hF.2.2.2.1, hts⟩ (hrun l D cy ad) hcw ⟨PcM_blind, fun U hU hW => ⟨rfl, by rw [hU]; exact hP, va_K.moved hW.alike hF.2.2.2.2.2.1, hF.2.2.2.2.2.2.2.2, hF.2.2.2.2.2.2.1.2.2.2.2.warm hW⟩⟩ rfl (by rw [List.length_map]; exact hnp) hl.1 (by simp) (by rw [cat_map]; show 2 * 0 + _ ≤ 8; omega) hd hroom
  refine va_calll hr hS (fun q _ h => ?_) (fun q h => ?_) (fun r9 u t H1 locs1 ht hvm hw hB hz1 hk1 hS1 => ?_)
  · obtain ⟨j, h1, rfl⟩ := h
    exact hF.2.2.2.2.2.2.2.1 j h1
  · obtain ⟨j, h1, rfl⟩ := h
    exact hF.2.2.2.2.2.2.2.1 j h1
  · obtain ⟨hP1, hK1⟩ := hB
    rw [ht] at hP1
    subst hw
    exact kk hF H1 locs1 ls hP1 hS1 hl
set_option maxRecDepth 10000 in
theorem r_callVV {G : Gx} {n : Nat} {cc : ByteArray} {own : String} {nL pc : Nat} {lv : List (Nat × Mv)} {st : List Mv} {M : Mem} {idx mL np nb : Nat} {k ci : Nat} {y : MethodName} {cc2 : ByteArray} {rt : Option FieldType} {avs st0 : List Mv}  {M2 : Mem} (hd : decode cc pc = .ok (.invokevirtual idx, 3)) (hm : MV own idx y cc2 mL rt np ci) (hrun : RunV nb y cc2 mL rt (vR k :: avs) M  M2) (hn : nb + 1 ≤ n) (hmL : mL ≤ 21) (hk : (ly k).1 = ci + 5) (hnp : avs.length = np) (hst : (st.map fun v => if isL v = true then 2 else 1).sum ≤ 8) (hs : st0 = avs.reverse ++ vR k :: st) (kk : Ex G n cc own nL (pc + 3) lv (st) M2) : Ex G n cc own nL pc lv st0 M := by
  obtain ⟨⟨p, l, e, R⟩, ⟨s, m, args, below, meth, c⟩, ⟨cells, slots⟩, Q, D, cy, ad, A⟩ := G
  intro hF H locs ls hP hS hl
  have hx := hF.1
  have hb := hF.2.1
  subst hs
  have hts := hF.2.2.2.2.1
  have hrm : (rmL nb).frames + 1 ≤ R.frames ∧ 8 + (mL + 11) + (rmL nb).locals ≤ R.locals := by
    have h1 := hF.2.2.2.2.2.2.1.1
    have h2 := hF.2.2.2.2.2.2.1.2.1
    refine ⟨?_, ?_⟩
    · show nb + 1 ≤ R.frames
      omega
    · show 8 + (mL + 11) + 40 * nb ≤ R.locals
      omega
  have hroom : cells + 0 ≤ R.cells ∧ slots + 0 ≤ R.slots := ⟨hF.2.2.2.2.2.2.1.2.2.1, hF.2.2.2.2.2.2.1.2.2.2.1⟩
  obtain ⟨g1, g2, g3, g4, g5, g6, T, N, g7⟩ := hm
  have hci : ci < 13 := (List.getElem?_eq_some_iff.mp g7).1
  have hrc := va_recv hF.2.2.2.2.2.1 hP g7 (wld_obj (ad := ad) (cy := cy) (M := M) hk hci)
  have hcw : CallW R s args own y.cls idx y cc2 mL rt (wsY y cc2 mL rt) (rmL nb) 0 0 np := ⟨callB_of np hts (ws_good g5) rfl rfl rfl (hts _ g4) (hts _ g1) g6 hrm, hts _ g2, hts _ g3⟩
  have hr := va_runV (e := e) (below := below) (meth := meth) (H := H) (locs := locs) (cells := cells) (slots := slots) (g := F0 m pc ls ((avs.reverse ++ vR k :: st).map (cv ad))) (b := ad k) (As := avs.map (cv ad)) (rest := st.map (cv ad)) ⟨hx, hb, hF.2.2.1, hF.2.2.2.1, hts⟩ (hrun l D cy ad) hcw ⟨PcM_blind, hrc, fun U hU hW => ⟨rfl, by rw [hU]; exact hP, va_K.moved hW.alike hF.2.2.2.2.2.1, hF.2.2.2.2.2.2.2.2, hF.2.2.2.2.2.2.1.2.2.2.2.warm hW⟩⟩ rfl (by rw [List.length_map]; exact hnp) hl.1 (by simp [cv, va_rf]) (by rw [cat_map]; show 2 * 0 + _ ≤ 8; omega) hd hroom
  refine va_callv hr hS (fun q _ h => ?_) (fun q h => ?_) (fun u t H1 locs1 ht hvm hw hB hz1 hk1 hS1 => ?_)
  · obtain ⟨j, h1, rfl⟩ := h
    exact hF.2.2.2.2.2.2.2.1 j h1
  · obtain ⟨j, h1, rfl⟩ := h
    exact hF.2.2.2.2.2.2.2.1 j h1
  · obtain ⟨hP1, hK1⟩ := hB
    rw [ht] at hP1
    exact kk hF H1 locs1 ls hP1 hS1 hl
set_option maxRecDepth 10000 in
theorem r_callSV {G : Gx} {n : Nat} {cc : ByteArray} {own : String} {nL pc : Nat} {lv : List (Nat × Mv)} {st : List Mv} {M : Mem} {idx mL np nb : Nat} {y : MethodName} {cc2 : ByteArray} {rt : Option FieldType} {avs st0 : List Mv}  {M2 : Mem} (hd : decode cc pc = .ok (.invokestatic idx, 3)) (hm : MS own idx y cc2 mL rt np) (hrun : RunV nb y cc2 mL rt avs M  M2) (hn : nb + 1 ≤ n) (hmL : mL ≤ 21) (hnp : avs.length = np) (hst : (st.map fun v => if isL v = true then 2 else 1).sum ≤ 8) (hs : st0 = avs.reverse ++ st) (kk : Ex G n cc own nL (pc + 3) lv (st) M2) : Ex G n cc own nL pc lv st0 M := by
  obtain ⟨⟨p, l, e, R⟩, ⟨s, m, args, below, meth, c⟩, ⟨cells, slots⟩, Q, D, cy, ad, A⟩ := G
  intro hF H locs ls hP hS hl
  have hx := hF.1
  have hb := hF.2.1
  subst hs
  have hts := hF.2.2.2.2.1
  have hrm : (rmL nb).frames + 1 ≤ R.frames ∧ 8 + (mL + 11) + (rmL nb).locals ≤ R.locals := by
    have h1 := hF.2.2.2.2.2.2.1.1
    have h2 := hF.2.2.2.2.2.2.1.2.1
    refine ⟨?_, ?_⟩
    · show nb + 1 ≤ R.frames
      omega
    · show 8 + (mL + 11) + 40 * nb ≤ R.locals
      omega
  have hroom : cells + 0 ≤ R.cells ∧ slots + 0 ≤ R.slots := ⟨hF.2.2.2.2.2.2.1.2.2.1, hF.2.2.2.2.2.2.1.2.2.2.1⟩
  obtain ⟨g1, g2, g4, g5, g6⟩ := hm
  have hcw : CallB R s args own idx y cc2 mL rt (wsY y cc2 mL rt) (rmL nb) 0 0 np ∧ (Cond.static y).before args s = true := ⟨callB_of np hts (ws_good g5) rfl rfl rfl (hts _ g4) (hts _ g1) g6 hrm, hts _ g2⟩
  have hr := va_runS (e := e) (below := below) (meth := meth) (H := H) (locs := locs) (cells := cells) (slots := slots) (g := F0 m pc ls ((avs.reverse ++ st).map (cv ad))) (As := avs.map (cv ad)) (rest := st.map (cv ad)) ⟨hx, hb, hF.2.2.1, hF.2.2.2.1, hts⟩ (hrun l D cy ad) hcw ⟨PcM_blind, fun U hU hW => ⟨rfl, by rw [hU]; exact hP, va_K.moved hW.alike hF.2.2.2.2.2.1, hF.2.2.2.2.2.2.2.2, hF.2.2.2.2.2.2.1.2.2.2.2.warm hW⟩⟩ rfl (by rw [List.length_map]; exact hnp) hl.1 (by simp) (by rw [cat_map]; show 2 * 0 + _ ≤ 8; omega) hd hroom
  refine va_callv hr hS (fun q _ h => ?_) (fun q h => ?_) (fun u t H1 locs1 ht hvm hw hB hz1 hk1 hS1 => ?_)
  · obtain ⟨j, h1, rfl⟩ := h
    exact hF.2.2.2.2.2.2.2.1 j h1
  · obtain ⟨j, h1, rfl⟩ := h
    exact hF.2.2.2.2.2.2.2.1 j h1
  · obtain ⟨hP1, hK1⟩ := hB
    rw [ht] at hP1
    exact kk hF H1 locs1 ls hP1 hS1 hl
set_option maxRecDepth 10000 in
theorem r_callNV {G : Gx} {n : Nat} {cc : ByteArray} {own : String} {nL pc : Nat} {lv : List (Nat × Mv)} {st : List Mv} {M : Mem} {idx mL np nb : Nat} {host : String} {y : MethodName} {cc2 : ByteArray} {rt : Option FieldType} {avs st0 : List Mv}  {M2 : Mem} (hd : decode cc pc = .ok (.invokestatic idx, 3)) (hm : MN own idx y host cc2 mL rt np) (hrun : RunV nb y cc2 mL rt avs M  M2) (hn : nb + 1 ≤ n) (hmL : mL ≤ 21) (hnp : avs.length = np) (hst : (st.map fun v => if isL v = true then 2 else 1).sum ≤ 8) (hs : st0 = avs.reverse ++ st) (kk : Ex G n cc own nL (pc + 3) lv (st) M2) : Ex G n cc own nL pc lv st0 M := by
  obtain ⟨⟨p, l, e, R⟩, ⟨s, m, args, below, meth, c⟩, ⟨cells, slots⟩, Q, D, cy, ad, A⟩ := G
  intro hF H locs ls hP hS hl
  have hx := hF.1
  have hb := hF.2.1
  subst hs
  have hts := hF.2.2.2.2.1
  have hrm : (rmL nb).frames + 1 ≤ R.frames ∧ 8 + (mL + 11) + (rmL nb).locals ≤ R.locals := by
    have h1 := hF.2.2.2.2.2.2.1.1
    have h2 := hF.2.2.2.2.2.2.1.2.1
    refine ⟨?_, ?_⟩
    · show nb + 1 ≤ R.frames
      omega
    · show 8 + (mL + 11) + 40 * nb ≤ R.locals
      omega
  have hroom : cells + 0 ≤ R.cells ∧ slots + 0 ≤ R.slots := ⟨hF.2.2.2.2.2.2.1.2.2.1, hF.2.2.2.2.2.2.1.2.2.2.1⟩
  obtain ⟨g1, g2, g4, g5, g6⟩ := hm
  have hcw : va_CN R s args own idx y host cc2 mL rt (wsY y cc2 mL rt) (rmL nb) 0 0 np ∧ (Cond.static y).before args s = true ∧ True := ⟨va_cnB np hts (ws_good g5) rfl rfl rfl (hF.2.2.2.2.2.2.1.2.2.2.2 _ g1) (hts _ g4) g6 hrm, hts _ g2, trivial⟩
  have hr := va_runSN (e := e) (below := below) (meth := meth) (H := H) (locs := locs) (cells := cells) (slots := slots) (g := F0 m pc ls ((avs.reverse ++ st).map (cv ad))) (As := avs.map (cv ad)) (rest := st.map (cv ad)) ⟨hx, hb, hF.2.2.1, hF.2.2.2.1, hts⟩ (hrun l D cy ad) hcw ⟨PcM_blind, fun U hU hW => ⟨rfl, by rw [hU]; exact hP, va_K.moved hW.alike hF.2.2.2.2.2.1, hF.2.2.2.2.2.2.2.2, hF.2.2.2.2.2.2.1.2.2.2.2.warm hW⟩⟩ rfl (by rw [List.length_map]; exact hnp) hl.1 (by simp) (by rw [cat_map]; show 2 * 0 + _ ≤ 8; omega) hd hroom
  refine va_callv hr hS (fun q _ h => ?_) (fun q h => ?_) (fun u t H1 locs1 ht hvm hw hB hz1 hk1 hS1 => ?_)
  · obtain ⟨j, h1, rfl⟩ := h
    exact hF.2.2.2.2.2.2.2.1 j h1
  · obtain ⟨j, h1, rfl⟩ := h
    exact hF.2.2.2.2.2.2.2.1 j h1
  · obtain ⟨hP1, hK1⟩ := hB
    rw [ht] at hP1
    exact kk hF H1 locs1 ls hP1 hS1 hl
def lvA : Nat → List Mv → List (Nat × Mv)
  | _, [] => []
  | i, v :: vs => (i, v) :: lvA (if isL v = true then i + 2 else i + 1) vs
def szA : List Mv → Nat
  | [] => 0
  | v :: vs => (if isL v = true then 2 else 1) + szA vs
theorem lvA_map (ad : Nat → Nat) : ∀ (av : List Mv) (i : Nat), lv_args i (av.map (cv ad)) = (lvA i av).map fun q => (q.1, cv ad q.2)
  | [], _ => rfl
  | v :: vs, i => by
    show (i, cv ad v) :: lv_args (if (cv ad v).category = 2 then i + 2 else i + 1) (vs.map (cv ad)) = (i, cv ad v) :: _
    rw [lvA_map ad vs, cv_cat]
    cases isL v <;> rfl
theorem szA_len (ad : Nat → Nat) : ∀ (av : List Mv), (lg_sl (av.map (cv ad))).length = szA av
  | [] => rfl
  | v :: vs => by
    have h := szA_len ad vs
    show (((cv ad v) :: vs.map (cv ad)).flatMap fun v => if v.category = 2 then [Slot.val v, Slot.second] else [Slot.val v]).length = _
    rw [List.flatMap_cons, List.length_append]
    have h2 : (List.flatMap (fun v => if v.category = 2 then [Slot.val v, Slot.second] else [Slot.val v]) (vs.map (cv ad))).length = szA vs := h
    rw [h2, cv_cat]
    cases h3 : isL v <;> simp [szA, h3]

theorem runI_of {n : Nat} {y : MethodName} {cc : ByteArray} {mL : Nat} {rt : Option FieldType} {av : List Mv} {M : Mem} {r : Int} {M2 : Mem} {lv : List (Nat × Mv)} (hy : plainName y.cls = true) (hrt : rt = some .int ∨ (rt = some .boolean ∧ (r = 0 ∨ r = 1))) (hsz : szA av ≤ mL) (hlv : lvA 0 av = lv) (h : ∀ G : Gx, RetI G n cc y.cls mL r M2 → Ex G n cc y.cls mL 0 lv [] M) : RunI n y cc mL rt av M r M2 := by
  intro l D cy ad
  refine Met.ofW (cc := cc) (maxL := mL) (ret := rt) hy rfl ?_
  intro p e s m args below meth c s₁ B hml hv
  obtain ⟨rfl, hP, hK, hinj, hNW⟩ := hv
  have hts : ∀ w ∈ gtb, w.before _ s = true := fun w hw => atoms_spec (ws := wsY y cc mL rt) B.pre w (List.mem_cons_of_mem _ hw)
  have hown : s.vm.findClass y.cls = some m.cls := findClass_of_methodNamed B.named
  have hF : Fx ((p, l, e, (headSpec (wsY y cc mL rt) (rmL n)).room), (s, m, (av.map (cv ad)).toArray, below, meth, c), (0, 0), MQ below (QxI D cy ad r M2) (av.map (cv ad)).toArray s 0 0 (AW ad), D, cy, ad, AW ad) n cc y.cls mL := ⟨B.exec, B.bytes, hml, hown, hts, hK, ⟨Nat.le_refl _, Nat.le_refl _, Nat.zero_le _, Nat.zero_le _, hNW⟩, fun k hk => ⟨k, hk, rfl⟩, hinj⟩
  have hR : RetI ((p, l, e, (headSpec (wsY y cc mL rt) (rmL n)).room), (s, m, (av.map (cv ad)).toArray, below, meth, c), (0, 0), MQ below (QxI D cy ad r M2) (av.map (cv ad)).toArray s 0 0 (AW ad), D, cy, ad, AW ad) n cc y.cls mL r M2 := by
    intro pc lv2 hd hF1 H1 locs1 ls1 hP1 hS1 hl1
    have hx1 := B.exec
    have hb1 := B.bytes
    have hlocks := B.notSynchronized
    rcases hrt with rfl | ⟨rfl, h01⟩
    · exact W.iret hx1 hb1 B.returns (fun t ht hW => ⟨⟨_, (), rfl, rfl, by rw [ht]; exact hP1, va_K.moved hW.alike hK⟩, hS1.F ht⟩) hS1.2.2 hd
    · refine W.zret hx1 hb1 B.returns ?_ (fun t ht hW => ⟨⟨_, (), rfl, rfl, by rw [ht]; exact hP1, va_K.moved hW.alike hK⟩, hS1.F ht⟩) hS1.2.2 hd
      rcases h01 with rfl | rfl <;> rfl
  have hl := lv_entry (av.map (cv ad)) (n := mL) (by rw [szA_len]; exact hsz)
  rw [lg_entry_eq]
  rw [lvA_map, hlv] at hl
  exact h _ hR hF s.heap [] _ hP va_S.rf hl

theorem runL_of {n : Nat} {y : MethodName} {cc : ByteArray} {mL : Nat} {rt : Option FieldType} {av : List Mv} {M : Mem} {r : Int64} {M2 : Mem} {lv : List (Nat × Mv)} (hy : plainName y.cls = true) (hrt : rt = some .long) (hsz : szA av ≤ mL) (hlv : lvA 0 av = lv) (h : ∀ G : Gx, RetL G n cc y.cls mL r M2 → Ex G n cc y.cls mL 0 lv [] M) : RunL n y cc mL rt av M r M2 := by
  intro l D cy ad
  refine Met.ofW (cc := cc) (maxL := mL) (ret := rt) hy rfl ?_
  intro p e s m args below meth c s₁ B hml hv
  obtain ⟨rfl, hP, hK, hinj, hNW⟩ := hv
  have hts : ∀ w ∈ gtb, w.before _ s = true := fun w hw => atoms_spec (ws := wsY y cc mL rt) B.pre w (List.mem_cons_of_mem _ hw)
  have hown : s.vm.findClass y.cls = some m.cls := findClass_of_methodNamed B.named
  have hF : Fx ((p, l, e, (headSpec (wsY y cc mL rt) (rmL n)).room), (s, m, (av.map (cv ad)).toArray, below, meth, c), (0, 0), MQ below (QxL D cy ad r M2) (av.map (cv ad)).toArray s 0 0 (AW ad), D, cy, ad, AW ad) n cc y.cls mL := ⟨B.exec, B.bytes, hml, hown, hts, hK, ⟨Nat.le_refl _, Nat.le_refl _, Nat.zero_le _, Nat.zero_le _, hNW⟩, fun k hk => ⟨k, hk, rfl⟩, hinj⟩
  have hR : RetL ((p, l, e, (headSpec (wsY y cc mL rt) (rmL n)).room), (s, m, (av.map (cv ad)).toArray, below, meth, c), (0, 0), MQ below (QxL D cy ad r M2) (av.map (cv ad)).toArray s 0 0 (AW ad), D, cy, ad, AW ad) n cc y.cls mL r M2 := by
    intro pc lv2 hd hF1 H1 locs1 ls1 hP1 hS1 hl1
    have hx1 := B.exec
    have hb1 := B.bytes
    have hlocks := B.notSynchronized
    subst hrt
    exact W.lret hx1 hb1 B.returns (fun t ht hW => ⟨⟨_, (), rfl, rfl, by rw [ht]; exact hP1, va_K.moved hW.alike hK⟩, hS1.F ht⟩) hS1.2.2 hd
  have hl := lv_entry (av.map (cv ad)) (n := mL) (by rw [szA_len]; exact hsz)
  rw [lg_entry_eq]
  rw [lvA_map, hlv] at hl
  exact h _ hR hF s.heap [] _ hP va_S.rf hl

theorem runV_of {n : Nat} {y : MethodName} {cc : ByteArray} {mL : Nat} {rt : Option FieldType} {av : List Mv} {M : Mem}  {M2 : Mem} {lv : List (Nat × Mv)} (hy : plainName y.cls = true) (hrt : rt = none) (hsz : szA av ≤ mL) (hlv : lvA 0 av = lv) (h : ∀ G : Gx, RetV G n cc y.cls mL M2 → Ex G n cc y.cls mL 0 lv [] M) : RunV n y cc mL rt av M M2 := by
  intro l D cy ad
  refine Met.ofW (cc := cc) (maxL := mL) (ret := rt) hy rfl ?_
  intro p e s m args below meth c s₁ B hml hv
  obtain ⟨rfl, hP, hK, hinj, hNW⟩ := hv
  have hts : ∀ w ∈ gtb, w.before _ s = true := fun w hw => atoms_spec (ws := wsY y cc mL rt) B.pre w (List.mem_cons_of_mem _ hw)
  have hown : s.vm.findClass y.cls = some m.cls := findClass_of_methodNamed B.named
  have hF : Fx ((p, l, e, (headSpec (wsY y cc mL rt) (rmL n)).room), (s, m, (av.map (cv ad)).toArray, below, meth, c), (0, 0), MQ below (QxV D cy ad M2) (av.map (cv ad)).toArray s 0 0 (AW ad), D, cy, ad, AW ad) n cc y.cls mL := ⟨B.exec, B.bytes, hml, hown, hts, hK, ⟨Nat.le_refl _, Nat.le_refl _, Nat.zero_le _, Nat.zero_le _, hNW⟩, fun k hk => ⟨k, hk, rfl⟩, hinj⟩
  have hR : RetV ((p, l, e, (headSpec (wsY y cc mL rt) (rmL n)).room), (s, m, (av.map (cv ad)).toArray, below, meth, c), (0, 0), MQ below (QxV D cy ad M2) (av.map (cv ad)).toArray s 0 0 (AW ad), D, cy, ad, AW ad) n cc y.cls mL M2 := by
    intro pc lv2 hd hF1 H1 locs1 ls1 hP1 hS1 hl1
    have hx1 := B.exec
    have hb1 := B.bytes
    have hlocks := B.notSynchronized
    subst hrt
    exact W.vret hx1 hb1 B.returns (fun t ht hW => ⟨⟨(), rfl, trivial, by rw [ht]; exact hP1, va_K.moved hW.alike hK⟩, hS1.F ht⟩) hS1.2.2 hd
  have hl := lv_entry (av.map (cv ad)) (n := mL) (by rw [szA_len]; exact hsz)
  rw [lg_entry_eq]
  rw [lvA_map, hlv] at hl
  exact h _ hR hF s.heap [] _ hP va_S.rf hl
