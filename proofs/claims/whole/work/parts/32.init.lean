/-! constructors -/
theorem vz_boolean (n : Nat) (cA : ClassId) : vp_cell cA (n, .inl (fun _ => 0)) = arrV cA n (fun _ => defaultValue .boolean) := rfl
theorem vz_int (n : Nat) (cA : ClassId) : vp_cell cA (n, .inl (fun _ => 0)) = arrV cA n (fun _ => defaultValue .int) := rfl
theorem vz_long (n : Nat) (cA : ClassId) : vp_cell cA (n, .inr (.inl (fun _ => 0))) = arrV cA n (fun _ => defaultValue .long) := rfl
theorem vp_arr_ext {cA : ClassId} {n : Nat} {f g : Nat → Int32} (h : ∀ j, j < n → f j = g j) : vp_cell cA (n, .inl f) = vp_cell cA (n, .inl g) := by
  show arrV cA n (fun j => .int (f j)) = arrV cA n (fun j => .int (g j))
  unfold arrV
  congr 2
  funext j
  show Value.int (f j.val) = Value.int (g j.val)
  rw [h j.val j.isLt]
theorem va_P_ext {D : va_G} {cl : List vw_C} {ws : va_W} {H : Heap} {k a n : Nat} {cA : ClassId} {f g : Nat → Int32} (hP : va_P D cl ws H) (hk : ws[k]? = some (a, .inl (cA, n, .inl f))) (h : ∀ j, j < n → f j = g j) : va_P D cl (ws.set k (a, .inl (cA, n, .inl g))) H := by
  intro i q hq
  rw [List.getElem?_set] at hq
  by_cases e : k = i
  · subst e
    rw [if_pos rfl] at hq
    have h1 := hP k _ hk
    have hl : k < ws.length := (List.getElem?_eq_some_iff.mp hk).1
    rw [if_pos hl] at hq
    cases hq
    show H[a]? = some (vp_cell cA (n, .inl g))
    rw [← vp_arr_ext h]
    exact h1
  · rw [if_neg e] at hq
    exact hP i q hq
def rmI (n mc ms : Nat) : Room := { frames := n, cells := mc, slots := ms, locals := 40 * n }
def KIp (D : va_G) (cy : Nat → ClassId) (w : va_W) (sz : Nat) : State → Prop := fun U => U.heap.size = sz ∧ va_P D vwCl w U.heap ∧ va_K D vwCl (tysL cy) U ∧ NW U ∧ va_AO RX3 U ∧ va_AO RX6 U ∧ va_D (fun _ => True) w
theorem KI_blind {D : va_G} {cy : Nat → ClassId} {w : va_W} {sz : Nat} {av : List Value} {a : Array Value} {U : State} {g : JFrame} {mk : MethodId} (q : va_Pc av (KIp D cy w sz) a U) : va_Pc av (KIp D cy w sz) a (U.calling g mk a) := by
  obtain ⟨q0, q1, qP, qK, qN, qA, qB, qD⟩ := q
  exact ⟨q0, q1, qP, va_K.moved (u := U) (U := U.calling g mk a) (Vm.Alike.refl U.vm) qK, qN.same rfl, va_AO.moved (u := U) (U := U.calling g mk a) (Vm.Alike.refl U.vm) qA, va_AO.moved (u := U) (U := U.calling g mk a) (Vm.Alike.refl U.vm) qB, qD⟩
theorem arr_boolean {D : va_G} {cy : Nat → ClassId} {s : State} {cA : ClassId} (hK : va_K D vwCl (tysL cy) s) (hK9 : va_K D vwCl (tysL cy ++ [(cA, .boolean)]) s) : cA = cy 1 := by
  have h1 : s.vm.findClass ("[" ++ FieldType.toString .boolean) = some (cy 1) := (hK.2 1 (cy 1, .boolean) rfl).2
  have h2 : s.vm.findClass ("[" ++ FieldType.toString .boolean) = some cA := (hK9.2 5 (cA, .boolean) rfl).2
  rw [h1] at h2
  exact (Option.some.inj h2).symm
theorem arr_int {D : va_G} {cy : Nat → ClassId} {s : State} {cA : ClassId} (hK : va_K D vwCl (tysL cy) s) (hK9 : va_K D vwCl (tysL cy ++ [(cA, .int)]) s) : cA = cy 0 := by
  have h1 : s.vm.findClass ("[" ++ FieldType.toString .int) = some (cy 0) := (hK.2 0 (cy 0, .int) rfl).2
  have h2 : s.vm.findClass ("[" ++ FieldType.toString .int) = some cA := (hK9.2 5 (cA, .int) rfl).2
  rw [h1] at h2
  exact (Option.some.inj h2).symm
theorem arr_long {D : va_G} {cy : Nat → ClassId} {s : State} {cA : ClassId} (hK : va_K D vwCl (tysL cy) s) (hK9 : va_K D vwCl (tysL cy ++ [(cA, .long)]) s) : cA = cy 2 := by
  have h1 : s.vm.findClass ("[" ++ FieldType.toString .long) = some (cy 2) := (hK.2 2 (cy 2, .long) rfl).2
  have h2 : s.vm.findClass ("[" ++ FieldType.toString .long) = some cA := (hK9.2 5 (cA, .long) rfl).2
  rw [h1] at h2
  exact (Option.some.inj h2).symm
theorem arr_sameR {D : va_G} {cy : Nat → ClassId} {s : State} {cA : ClassId} {C : String} {t : Nat} {c0 : ClassId} (hK : va_K D vwCl (tysL cy) s) (hK9 : va_K D vwCl (tysL cy ++ [(cA, .object C)]) s) (ht : (tysL cy)[t]? = some (c0, .object C)) (hp : True = True) : cA = c0 := by
  obtain ⟨_, _, _, _, _, h1⟩ := (hK.2 t _ ht).2
  obtain ⟨_, _, _, _, _, h2⟩ := (hK9.2 5 (cA, .object C) rfl).2
  exact Option.some.inj (h2.symm.trans h1)

theorem ac_boolean : Cond.arrayClass .boolean ∈ gtb := (in_1 (i := 68) rfl rfl)
theorem ac_int : Cond.arrayClass .int ∈ gtb := (in_1 (i := 69) rfl rfl)
theorem ac_long : Cond.arrayClass .long ∈ gtb := (in_1 (i := 124) rfl rfl)
set_option maxHeartbeats 4000000 in
set_option maxRecDepth 100000 in
theorem ci_X9_init (l : Launch) (D : va_G) (cy : Nat → ClassId) (h0 : Nat) (sz : Nat) : Met l yX9_init (wsY yX9_init cX9_init 1 none) (rmI 1 2 200) (va_Pc [.ref h0] (KIp D cy [(h0, .inr (9, [.null, .null, .int 0]))] sz)) (va_Qv (S := Nat → Nat) (fun _ => True) (fun u t => va_P D vwCl [(h0, .inr (9, [.ref (u 1), .ref (u 2), .int 0])), ((u 1), .inl (cy 1, 100, .inl (fun _ => 0))), ((u 2), .inl (cy 0, 100, .inl (fun _ => 0)))] t.heap ∧ va_K D vwCl (tysL cy) t ∧ va_D (va_A [(h0, .inr (9, [.null, .null, .int 0]))] sz) [(h0, .inr (9, [.ref (u 1), .ref (u 2), .int 0])), ((u 1), .inl (cy 1, 100, .inl (fun _ => 0))), ((u 2), .inl (cy 0, 100, .inl (fun _ => 0)))]) (va_A [(h0, .inr (9, [.null, .null, .int 0]))] sz)) 2 200 (va_A [(h0, .inr (9, [.null, .null, .int 0]))] sz) := by
  refine Met.ofW (cc := cX9_init) (maxL := 1) (ret := none) (by decide +kernel) rfl ?_
  intro p e s m args below meth c s₁ B hml hv
  obtain ⟨rfl, hsz, hP, hK, hNW, hAO3, hAO4, hD0⟩ := hv
  have hx := B.exec
  have hb := B.bytes
  have hr := B.returns
  have hts : ∀ w ∈ gtb, w.before _ s = true := fun w hw => atoms_spec (ws := wsY yX9_init cX9_init 1 none) B.pre w (List.mem_cons_of_mem _ hw)
  have hts : ∀ (w : Cond), w ∈ gtb → w.before _ s = true := hts
  have hown : s.vm.findClass RX9 = some m.cls := findClass_of_methodNamed B.named
  have hlocks := B.notSynchronized
  have hin : meth.name = "<init>" := (name_of_methodNamed B.named B.method).1
  subst hsz
  have hD := hD0.self (sz := s.heap.size)
  generalize hAe : va_A [(h0, .inr (9, [.null, .null, .int 0]))] s.heap.size = A at hD ⊢
  have hA : ∀ q : Nat, s.heap.size ≤ q → A q := fun q h => by rw [← hAe]; exact Or.inr h
  have hS : va_S A s.heap s.heap [] := va_S.rf
  have hP : va_P D vwCl [(h0, .inr (9, [.null, .null, .int 0]))] s.heap := hP
  have hl := lv_entry ([.ref h0]) (n := 1) (Nat.le_of_ble_eq_true rfl)
  rw [lg_entry_eq]
  generalize (lg_sl ([.ref h0]) ++ List.replicate (1 - (lg_sl ([.ref h0])).length) Slot.unset).toArray = ls at hl ⊢
  have hl : lv_has ls 1 [(0, .ref h0)] := hl
  refine lv_aload_n hx hb dX9_init_0 rfl (lv_at hl 0 rfl) ?_
  refine W.objInit hx hb hown (hts (.methodLink RX9 3 objectInit) (in_1 (i := 149) rfl rfl)) (hts (.instanceMethod objectInit) (in_1 (i := 23) rfl rfl)) (hts (.code objectInit ⟨#[0xb1]⟩ 1 none) (in_1 (i := 24) rfl rfl)) rfl (by rw [hml]; exact hl.1) rfl dX9_init_1 (Nat.le_of_ble_eq_true rfl) (Nat.le_of_ble_eq_true rfl) ?_
  refine W.eq (g2 := F0 m 4 _ []) rfl ?_
  refine lv_aload_n hx hb dX9_init_4 rfl (lv_at hl 0 rfl) ?_
  refine lv_bipush (v := 100) hx hb dX9_init_5 (by decide) ?_
  refine va_newa (atype := .boolean) (a0 := (100, .inl (fun _ => 0))) (N' := 100) hx hb (hts (.arrayClass .boolean) ac_boolean) (ty := .boolean) rfl hK hP hD hS hA (vz_boolean 100) (by decide) (by decide) (by decide) (Nat.le_of_ble_eq_true rfl) (Nat.le_of_ble_eq_true rfl) dX9_init_7 (fun q1 cA H hK9 hP hD hS => ?_)
  obtain rfl : cA = cy 1 := arr_boolean hK hK9
  clear hK9
  have hP : va_P D vwCl [(h0, .inr (9, [.null, .null, .int 0])), (q1, .inl (cy 1, 100, .inl (fun _ => 0)))] H := hP
  have hD : va_D A [(h0, .inr (9, [.null, .null, .int 0])), (q1, .inl (cy 1, 100, .inl (fun _ => 0)))] := hD
  refine va_putF (D := D) (ci := 9) (v := .ref q1) (ty := .array .boolean) (C := RX9) (T := TX9) (N := 3) hx hb hts iw_9 tyX9 tyX9_ok nmX9 hown hK hP hD hS 0 rfl rfl 0 (by decide) (hts (.fieldLink RX9 9 "PavedYards$Wave" "seen" "[Z") (in_1 (i := 150) rfl rfl)) (fun _ h9 => h9) rfl hin rfl rfl rfl rfl (Nat.le_of_ble_eq_true rfl) dX9_init_9 (fun H locs hP hD hS => ?_)
  have hP : va_P D vwCl [(h0, .inr (9, [.ref q1, .null, .int 0])), (q1, .inl (cy 1, 100, .inl (fun _ => 0)))] H := hP
  have hD : va_D A [(h0, .inr (9, [.ref q1, .null, .int 0])), (q1, .inl (cy 1, 100, .inl (fun _ => 0)))] := hD
  refine lv_aload_n hx hb dX9_init_12 rfl (lv_at hl 0 rfl) ?_
  refine lv_bipush (v := 100) hx hb dX9_init_13 (by decide) ?_
  refine va_newa (atype := .int) (a0 := (100, .inl (fun _ => 0))) (N' := 100) hx hb (hts (.arrayClass .int) ac_int) (ty := .int) rfl hK hP hD hS hA (vz_int 100) (by decide) (by decide) (by decide) (Nat.le_of_ble_eq_true rfl) (Nat.le_of_ble_eq_true rfl) dX9_init_15 (fun q2 cA H hK9 hP hD hS => ?_)
  obtain rfl : cA = cy 0 := arr_int hK hK9
  clear hK9
  have hP : va_P D vwCl [(h0, .inr (9, [.ref q1, .null, .int 0])), (q1, .inl (cy 1, 100, .inl (fun _ => 0))), (q2, .inl (cy 0, 100, .inl (fun _ => 0)))] H := hP
  have hD : va_D A [(h0, .inr (9, [.ref q1, .null, .int 0])), (q1, .inl (cy 1, 100, .inl (fun _ => 0))), (q2, .inl (cy 0, 100, .inl (fun _ => 0)))] := hD
  refine va_putF (D := D) (ci := 9) (v := .ref q2) (ty := .array .int) (C := RX9) (T := TX9) (N := 3) hx hb hts iw_9 tyX9 tyX9_ok nmX9 hown hK hP hD hS 0 rfl rfl 1 (by decide) (hts (.fieldLink RX9 15 "PavedYards$Wave" "places" "[I") (in_1 (i := 151) rfl rfl)) (fun _ h9 => h9) rfl hin rfl rfl rfl rfl (Nat.le_of_ble_eq_true rfl) dX9_init_17 (fun H locs hP hD hS => ?_)
  have hP : va_P D vwCl [(h0, .inr (9, [.ref q1, .ref q2, .int 0])), (q1, .inl (cy 1, 100, .inl (fun _ => 0))), (q2, .inl (cy 0, 100, .inl (fun _ => 0)))] H := hP
  have hD : va_D A [(h0, .inr (9, [.ref q1, .ref q2, .int 0])), (q1, .inl (cy 1, 100, .inl (fun _ => 0))), (q2, .inl (cy 0, 100, .inl (fun _ => 0)))] := hD
  have hP9 := hP
  have hD9 := hD
  exact W.vret hx hb hr (fun t ht hW => ⟨⟨(fun k => ([h0, q1, q2] : List Nat).getD k 0), rfl, trivial, by rw [ht]; exact hP9, va_K.moved hW.alike hK, hD9⟩, hS.F ht⟩) hS.2.2 dX9_init_20

set_option maxHeartbeats 4000000 in
set_option maxRecDepth 100000 in
theorem ci_X8_init (l : Launch) (D : va_G) (cy : Nat → ClassId) (h0 : Nat) (sz : Nat) : Met l yX8_init (wsY yX8_init cX8_init 1 none) (rmI 1 2 154) (va_Pc [.ref h0] (KIp D cy [(h0, .inr (8, [.null, .null, .int 0, .int 0, .int 0]))] sz)) (va_Qv (S := Nat → Nat) (fun _ => True) (fun u t => va_P D vwCl [(h0, .inr (8, [.ref (u 1), .ref (u 2), .int 0, .int 0, .int 0])), ((u 1), .inl (cy 0, 90, .inl (fun _ => 0))), ((u 2), .inl (cy 1, 64, .inl (fun _ => 0)))] t.heap ∧ va_K D vwCl (tysL cy) t ∧ va_D (va_A [(h0, .inr (8, [.null, .null, .int 0, .int 0, .int 0]))] sz) [(h0, .inr (8, [.ref (u 1), .ref (u 2), .int 0, .int 0, .int 0])), ((u 1), .inl (cy 0, 90, .inl (fun _ => 0))), ((u 2), .inl (cy 1, 64, .inl (fun _ => 0)))]) (va_A [(h0, .inr (8, [.null, .null, .int 0, .int 0, .int 0]))] sz)) 2 154 (va_A [(h0, .inr (8, [.null, .null, .int 0, .int 0, .int 0]))] sz) := by
  refine Met.ofW (cc := cX8_init) (maxL := 1) (ret := none) (by decide +kernel) rfl ?_
  intro p e s m args below meth c s₁ B hml hv
  obtain ⟨rfl, hsz, hP, hK, hNW, hAO3, hAO4, hD0⟩ := hv
  have hx := B.exec
  have hb := B.bytes
  have hr := B.returns
  have hts : ∀ w ∈ gtb, w.before _ s = true := fun w hw => atoms_spec (ws := wsY yX8_init cX8_init 1 none) B.pre w (List.mem_cons_of_mem _ hw)
  have hts : ∀ (w : Cond), w ∈ gtb → w.before _ s = true := hts
  have hown : s.vm.findClass RX8 = some m.cls := findClass_of_methodNamed B.named
  have hlocks := B.notSynchronized
  have hin : meth.name = "<init>" := (name_of_methodNamed B.named B.method).1
  subst hsz
  have hD := hD0.self (sz := s.heap.size)
  generalize hAe : va_A [(h0, .inr (8, [.null, .null, .int 0, .int 0, .int 0]))] s.heap.size = A at hD ⊢
  have hA : ∀ q : Nat, s.heap.size ≤ q → A q := fun q h => by rw [← hAe]; exact Or.inr h
  have hS : va_S A s.heap s.heap [] := va_S.rf
  have hP : va_P D vwCl [(h0, .inr (8, [.null, .null, .int 0, .int 0, .int 0]))] s.heap := hP
  have hl := lv_entry ([.ref h0]) (n := 1) (Nat.le_of_ble_eq_true rfl)
  rw [lg_entry_eq]
  generalize (lg_sl ([.ref h0]) ++ List.replicate (1 - (lg_sl ([.ref h0])).length) Slot.unset).toArray = ls at hl ⊢
  have hl : lv_has ls 1 [(0, .ref h0)] := hl
  refine lv_aload_n hx hb dX8_init_0 rfl (lv_at hl 0 rfl) ?_
  refine W.objInit hx hb hown (hts (.methodLink RX8 3 objectInit) (in_1 (i := 75) rfl rfl)) (hts (.instanceMethod objectInit) (in_1 (i := 23) rfl rfl)) (hts (.code objectInit ⟨#[0xb1]⟩ 1 none) (in_1 (i := 24) rfl rfl)) rfl (by rw [hml]; exact hl.1) rfl dX8_init_1 (Nat.le_of_ble_eq_true rfl) (Nat.le_of_ble_eq_true rfl) ?_
  refine W.eq (g2 := F0 m 4 _ []) rfl ?_
  refine lv_aload_n hx hb dX8_init_4 rfl (lv_at hl 0 rfl) ?_
  refine lv_bipush (v := 90) hx hb dX8_init_5 (by decide) ?_
  refine va_newa (atype := .int) (a0 := (90, .inl (fun _ => 0))) (N' := 90) hx hb (hts (.arrayClass .int) ac_int) (ty := .int) rfl hK hP hD hS hA (vz_int 90) (by decide) (by decide) (by decide) (Nat.le_of_ble_eq_true rfl) (Nat.le_of_ble_eq_true rfl) dX8_init_7 (fun q1 cA H hK9 hP hD hS => ?_)
  obtain rfl : cA = cy 0 := arr_int hK hK9
  clear hK9
  have hP : va_P D vwCl [(h0, .inr (8, [.null, .null, .int 0, .int 0, .int 0])), (q1, .inl (cy 0, 90, .inl (fun _ => 0)))] H := hP
  have hD : va_D A [(h0, .inr (8, [.null, .null, .int 0, .int 0, .int 0])), (q1, .inl (cy 0, 90, .inl (fun _ => 0)))] := hD
  refine va_putF (D := D) (ci := 8) (v := .ref q1) (ty := .array .int) (C := RX8) (T := TX8) (N := 5) hx hb hts iw_8 tyX8 tyX8_ok nmX8 hown hK hP hD hS 0 rfl rfl 0 (by decide) (hts (.fieldLink RX8 9 "PavedYards$Tape" "typed" "[I") (in_1 (i := 76) rfl rfl)) (fun _ h9 => h9) rfl hin rfl rfl rfl rfl (Nat.le_of_ble_eq_true rfl) dX8_init_9 (fun H locs hP hD hS => ?_)
  have hP : va_P D vwCl [(h0, .inr (8, [.ref q1, .null, .int 0, .int 0, .int 0])), (q1, .inl (cy 0, 90, .inl (fun _ => 0)))] H := hP
  have hD : va_D A [(h0, .inr (8, [.ref q1, .null, .int 0, .int 0, .int 0])), (q1, .inl (cy 0, 90, .inl (fun _ => 0)))] := hD
  refine lv_aload_n hx hb dX8_init_12 rfl (lv_at hl 0 rfl) ?_
  refine lv_bipush (v := 64) hx hb dX8_init_13 (by decide) ?_
  refine va_newa (atype := .boolean) (a0 := (64, .inl (fun _ => 0))) (N' := 64) hx hb (hts (.arrayClass .boolean) ac_boolean) (ty := .boolean) rfl hK hP hD hS hA (vz_boolean 64) (by decide) (by decide) (by decide) (Nat.le_of_ble_eq_true rfl) (Nat.le_of_ble_eq_true rfl) dX8_init_15 (fun q2 cA H hK9 hP hD hS => ?_)
  obtain rfl : cA = cy 1 := arr_boolean hK hK9
  clear hK9
  have hP : va_P D vwCl [(h0, .inr (8, [.ref q1, .null, .int 0, .int 0, .int 0])), (q1, .inl (cy 0, 90, .inl (fun _ => 0))), (q2, .inl (cy 1, 64, .inl (fun _ => 0)))] H := hP
  have hD : va_D A [(h0, .inr (8, [.ref q1, .null, .int 0, .int 0, .int 0])), (q1, .inl (cy 0, 90, .inl (fun _ => 0))), (q2, .inl (cy 1, 64, .inl (fun _ => 0)))] := hD
  refine va_putF (D := D) (ci := 8) (v := .ref q2) (ty := .array .boolean) (C := RX8) (T := TX8) (N := 5) hx hb hts iw_8 tyX8 tyX8_ok nmX8 hown hK hP hD hS 0 rfl rfl 1 (by decide) (hts (.fieldLink RX8 15 "PavedYards$Tape" "told" "[Z") (in_1 (i := 77) rfl rfl)) (fun _ h9 => h9) rfl hin rfl rfl rfl rfl (Nat.le_of_ble_eq_true rfl) dX8_init_17 (fun H locs hP hD hS => ?_)
  have hP : va_P D vwCl [(h0, .inr (8, [.ref q1, .ref q2, .int 0, .int 0, .int 0])), (q1, .inl (cy 0, 90, .inl (fun _ => 0))), (q2, .inl (cy 1, 64, .inl (fun _ => 0)))] H := hP
  have hD : va_D A [(h0, .inr (8, [.ref q1, .ref q2, .int 0, .int 0, .int 0])), (q1, .inl (cy 0, 90, .inl (fun _ => 0))), (q2, .inl (cy 1, 64, .inl (fun _ => 0)))] := hD
  have hP9 := hP
  have hD9 := hD
  exact W.vret hx hb hr (fun t ht hW => ⟨⟨(fun k => ([h0, q1, q2] : List Nat).getD k 0), rfl, trivial, by rw [ht]; exact hP9, va_K.moved hW.alike hK, hD9⟩, hS.F ht⟩) hS.2.2 dX8_init_20

set_option maxHeartbeats 4000000 in
set_option maxRecDepth 100000 in
theorem ci_X7_init (l : Launch) (D : va_G) (cy : Nat → ClassId) (h0 : Nat) (sz : Nat) : Met l yX7_init (wsY yX7_init cX7_init 1 none) (rmI 1 5 17408) (va_Pc [.ref h0] (KIp D cy [(h0, .inr (7, [.null, .null, .null, .null, .null, .int 0, .int 0]))] sz)) (va_Qv (S := Nat → Nat) (fun _ => True) (fun u t => va_P D vwCl [(h0, .inr (7, [.ref (u 1), .ref (u 2), .ref (u 3), .ref (u 4), .ref (u 5), .int 0, .int 0])), ((u 1), .inl (cy 2, 16640, .inr (.inl (fun _ => 0)))), ((u 2), .inl (cy 2, 128, .inr (.inl (fun _ => 0)))), ((u 3), .inl (cy 1, 128, .inl (fun _ => 0))), ((u 4), .inl (cy 2, 256, .inr (.inl (fun _ => 0)))), ((u 5), .inl (cy 2, 256, .inr (.inl (fun _ => 0))))] t.heap ∧ va_K D vwCl (tysL cy) t ∧ va_D (va_A [(h0, .inr (7, [.null, .null, .null, .null, .null, .int 0, .int 0]))] sz) [(h0, .inr (7, [.ref (u 1), .ref (u 2), .ref (u 3), .ref (u 4), .ref (u 5), .int 0, .int 0])), ((u 1), .inl (cy 2, 16640, .inr (.inl (fun _ => 0)))), ((u 2), .inl (cy 2, 128, .inr (.inl (fun _ => 0)))), ((u 3), .inl (cy 1, 128, .inl (fun _ => 0))), ((u 4), .inl (cy 2, 256, .inr (.inl (fun _ => 0)))), ((u 5), .inl (cy 2, 256, .inr (.inl (fun _ => 0))))]) (va_A [(h0, .inr (7, [.null, .null, .null, .null, .null, .int 0, .int 0]))] sz)) 5 17408 (va_A [(h0, .inr (7, [.null, .null, .null, .null, .null, .int 0, .int 0]))] sz) := by
  refine Met.ofW (cc := cX7_init) (maxL := 1) (ret := none) (by decide +kernel) rfl ?_
  intro p e s m args below meth c s₁ B hml hv
  obtain ⟨rfl, hsz, hP, hK, hNW, hAO3, hAO4, hD0⟩ := hv
  have hx := B.exec
  have hb := B.bytes
  have hr := B.returns
  have hts : ∀ w ∈ gtb, w.before _ s = true := fun w hw => atoms_spec (ws := wsY yX7_init cX7_init 1 none) B.pre w (List.mem_cons_of_mem _ hw)
  have hts : ∀ (w : Cond), w ∈ gtb → w.before _ s = true := hts
  have hown : s.vm.findClass RX7 = some m.cls := findClass_of_methodNamed B.named
  have hlocks := B.notSynchronized
  have hin : meth.name = "<init>" := (name_of_methodNamed B.named B.method).1
  subst hsz
  have hD := hD0.self (sz := s.heap.size)
  generalize hAe : va_A [(h0, .inr (7, [.null, .null, .null, .null, .null, .int 0, .int 0]))] s.heap.size = A at hD ⊢
  have hA : ∀ q : Nat, s.heap.size ≤ q → A q := fun q h => by rw [← hAe]; exact Or.inr h
  have hS : va_S A s.heap s.heap [] := va_S.rf
  have hP : va_P D vwCl [(h0, .inr (7, [.null, .null, .null, .null, .null, .int 0, .int 0]))] s.heap := hP
  have hl := lv_entry ([.ref h0]) (n := 1) (Nat.le_of_ble_eq_true rfl)
  rw [lg_entry_eq]
  generalize (lg_sl ([.ref h0]) ++ List.replicate (1 - (lg_sl ([.ref h0])).length) Slot.unset).toArray = ls at hl ⊢
  have hl : lv_has ls 1 [(0, .ref h0)] := hl
  refine lv_aload_n hx hb dX7_init_0 rfl (lv_at hl 0 rfl) ?_
  refine W.objInit hx hb hown (hts (.methodLink RX7 3 objectInit) (in_1 (i := 100) rfl rfl)) (hts (.instanceMethod objectInit) (in_1 (i := 23) rfl rfl)) (hts (.code objectInit ⟨#[0xb1]⟩ 1 none) (in_1 (i := 24) rfl rfl)) rfl (by rw [hml]; exact hl.1) rfl dX7_init_1 (Nat.le_of_ble_eq_true rfl) (Nat.le_of_ble_eq_true rfl) ?_
  refine W.eq (g2 := F0 m 4 _ []) rfl ?_
  refine lv_aload_n hx hb dX7_init_4 rfl (lv_at hl 0 rfl) ?_
  refine lv_sipush (v := 16640) hx hb dX7_init_5 (by decide) ?_
  refine va_newa (atype := .long) (a0 := (16640, .inr (.inl (fun _ => 0)))) (N' := 16640) hx hb (hts (.arrayClass .long) ac_long) (ty := .long) rfl hK hP hD hS hA (vz_long 16640) (by decide) (by decide) (by decide) (Nat.le_of_ble_eq_true rfl) (Nat.le_of_ble_eq_true rfl) dX7_init_8 (fun q1 cA H hK9 hP hD hS => ?_)
  obtain rfl : cA = cy 2 := arr_long hK hK9
  clear hK9
  have hP : va_P D vwCl [(h0, .inr (7, [.null, .null, .null, .null, .null, .int 0, .int 0])), (q1, .inl (cy 2, 16640, .inr (.inl (fun _ => 0))))] H := hP
  have hD : va_D A [(h0, .inr (7, [.null, .null, .null, .null, .null, .int 0, .int 0])), (q1, .inl (cy 2, 16640, .inr (.inl (fun _ => 0))))] := hD
  refine va_putF (D := D) (ci := 7) (v := .ref q1) (ty := .array .long) (C := RX7) (T := TX7) (N := 7) hx hb hts iw_7 tyX7 tyX7_ok nmX7 hown hK hP hD hS 0 rfl rfl 0 (by decide) (hts (.fieldLink RX7 9 "PavedYards$Sweep" "table" "[J") (in_1 (i := 101) rfl rfl)) (fun _ h9 => h9) rfl hin rfl rfl rfl rfl (Nat.le_of_ble_eq_true rfl) dX7_init_10 (fun H locs hP hD hS => ?_)
  have hP : va_P D vwCl [(h0, .inr (7, [.ref q1, .null, .null, .null, .null, .int 0, .int 0])), (q1, .inl (cy 2, 16640, .inr (.inl (fun _ => 0))))] H := hP
  have hD : va_D A [(h0, .inr (7, [.ref q1, .null, .null, .null, .null, .int 0, .int 0])), (q1, .inl (cy 2, 16640, .inr (.inl (fun _ => 0))))] := hD
  refine lv_aload_n hx hb dX7_init_13 rfl (lv_at hl 0 rfl) ?_
  refine lv_sipush (v := 128) hx hb dX7_init_14 (by decide) ?_
  refine va_newa (atype := .long) (a0 := (128, .inr (.inl (fun _ => 0)))) (N' := 128) hx hb (hts (.arrayClass .long) ac_long) (ty := .long) rfl hK hP hD hS hA (vz_long 128) (by decide) (by decide) (by decide) (Nat.le_of_ble_eq_true rfl) (Nat.le_of_ble_eq_true rfl) dX7_init_17 (fun q2 cA H hK9 hP hD hS => ?_)
  obtain rfl : cA = cy 2 := arr_long hK hK9
  clear hK9
  have hP : va_P D vwCl [(h0, .inr (7, [.ref q1, .null, .null, .null, .null, .int 0, .int 0])), (q1, .inl (cy 2, 16640, .inr (.inl (fun _ => 0)))), (q2, .inl (cy 2, 128, .inr (.inl (fun _ => 0))))] H := hP
  have hD : va_D A [(h0, .inr (7, [.ref q1, .null, .null, .null, .null, .int 0, .int 0])), (q1, .inl (cy 2, 16640, .inr (.inl (fun _ => 0)))), (q2, .inl (cy 2, 128, .inr (.inl (fun _ => 0))))] := hD
  refine va_putF (D := D) (ci := 7) (v := .ref q2) (ty := .array .long) (C := RX7) (T := TX7) (N := 7) hx hb hts iw_7 tyX7 tyX7_ok nmX7 hown hK hP hD hS 0 rfl rfl 1 (by decide) (hts (.fieldLink RX7 15 "PavedYards$Sweep" "shares" "[J") (in_1 (i := 102) rfl rfl)) (fun _ h9 => h9) rfl hin rfl rfl rfl rfl (Nat.le_of_ble_eq_true rfl) dX7_init_19 (fun H locs hP hD hS => ?_)
  have hP : va_P D vwCl [(h0, .inr (7, [.ref q1, .ref q2, .null, .null, .null, .int 0, .int 0])), (q1, .inl (cy 2, 16640, .inr (.inl (fun _ => 0)))), (q2, .inl (cy 2, 128, .inr (.inl (fun _ => 0))))] H := hP
  have hD : va_D A [(h0, .inr (7, [.ref q1, .ref q2, .null, .null, .null, .int 0, .int 0])), (q1, .inl (cy 2, 16640, .inr (.inl (fun _ => 0)))), (q2, .inl (cy 2, 128, .inr (.inl (fun _ => 0))))] := hD
  refine lv_aload_n hx hb dX7_init_22 rfl (lv_at hl 0 rfl) ?_
  refine lv_sipush (v := 128) hx hb dX7_init_23 (by decide) ?_
  refine va_newa (atype := .boolean) (a0 := (128, .inl (fun _ => 0))) (N' := 128) hx hb (hts (.arrayClass .boolean) ac_boolean) (ty := .boolean) rfl hK hP hD hS hA (vz_boolean 128) (by decide) (by decide) (by decide) (Nat.le_of_ble_eq_true rfl) (Nat.le_of_ble_eq_true rfl) dX7_init_26 (fun q3 cA H hK9 hP hD hS => ?_)
  obtain rfl : cA = cy 1 := arr_boolean hK hK9
  clear hK9
  have hP : va_P D vwCl [(h0, .inr (7, [.ref q1, .ref q2, .null, .null, .null, .int 0, .int 0])), (q1, .inl (cy 2, 16640, .inr (.inl (fun _ => 0)))), (q2, .inl (cy 2, 128, .inr (.inl (fun _ => 0)))), (q3, .inl (cy 1, 128, .inl (fun _ => 0)))] H := hP
  have hD : va_D A [(h0, .inr (7, [.ref q1, .ref q2, .null, .null, .null, .int 0, .int 0])), (q1, .inl (cy 2, 16640, .inr (.inl (fun _ => 0)))), (q2, .inl (cy 2, 128, .inr (.inl (fun _ => 0)))), (q3, .inl (cy 1, 128, .inl (fun _ => 0)))] := hD
  refine va_putF (D := D) (ci := 7) (v := .ref q3) (ty := .array .boolean) (C := RX7) (T := TX7) (N := 7) hx hb hts iw_7 tyX7 tyX7_ok nmX7 hown hK hP hD hS 0 rfl rfl 2 (by decide) (hts (.fieldLink RX7 18 "PavedYards$Sweep" "fits" "[Z") (in_1 (i := 104) rfl rfl)) (fun _ h9 => h9) rfl hin rfl rfl rfl rfl (Nat.le_of_ble_eq_true rfl) dX7_init_28 (fun H locs hP hD hS => ?_)
  have hP : va_P D vwCl [(h0, .inr (7, [.ref q1, .ref q2, .ref q3, .null, .null, .int 0, .int 0])), (q1, .inl (cy 2, 16640, .inr (.inl (fun _ => 0)))), (q2, .inl (cy 2, 128, .inr (.inl (fun _ => 0)))), (q3, .inl (cy 1, 128, .inl (fun _ => 0)))] H := hP
  have hD : va_D A [(h0, .inr (7, [.ref q1, .ref q2, .ref q3, .null, .null, .int 0, .int 0])), (q1, .inl (cy 2, 16640, .inr (.inl (fun _ => 0)))), (q2, .inl (cy 2, 128, .inr (.inl (fun _ => 0)))), (q3, .inl (cy 1, 128, .inl (fun _ => 0)))] := hD
  refine lv_aload_n hx hb dX7_init_31 rfl (lv_at hl 0 rfl) ?_
  refine lv_sipush (v := 256) hx hb dX7_init_32 (by decide) ?_
  refine va_newa (atype := .long) (a0 := (256, .inr (.inl (fun _ => 0)))) (N' := 256) hx hb (hts (.arrayClass .long) ac_long) (ty := .long) rfl hK hP hD hS hA (vz_long 256) (by decide) (by decide) (by decide) (Nat.le_of_ble_eq_true rfl) (Nat.le_of_ble_eq_true rfl) dX7_init_35 (fun q4 cA H hK9 hP hD hS => ?_)
  obtain rfl : cA = cy 2 := arr_long hK hK9
  clear hK9
  have hP : va_P D vwCl [(h0, .inr (7, [.ref q1, .ref q2, .ref q3, .null, .null, .int 0, .int 0])), (q1, .inl (cy 2, 16640, .inr (.inl (fun _ => 0)))), (q2, .inl (cy 2, 128, .inr (.inl (fun _ => 0)))), (q3, .inl (cy 1, 128, .inl (fun _ => 0))), (q4, .inl (cy 2, 256, .inr (.inl (fun _ => 0))))] H := hP
  have hD : va_D A [(h0, .inr (7, [.ref q1, .ref q2, .ref q3, .null, .null, .int 0, .int 0])), (q1, .inl (cy 2, 16640, .inr (.inl (fun _ => 0)))), (q2, .inl (cy 2, 128, .inr (.inl (fun _ => 0)))), (q3, .inl (cy 1, 128, .inl (fun _ => 0))), (q4, .inl (cy 2, 256, .inr (.inl (fun _ => 0))))] := hD
  refine va_put (D := D) (ci := 7) (v := .ref q4) (ty := .array .long) (C := RX7) (T := TX7) (N := 7) hx hb hts iw_7 tyX7 tyX7_ok nmX7 hown hK hP hD hS 0 rfl rfl 3 (by decide) (hts (.fieldLink RX7 22 "PavedYards$Sweep" "now" "[J") (in_1 (i := 105) rfl rfl)) (fun _ h9 => h9) rfl rfl rfl rfl (Nat.le_of_ble_eq_true rfl) dX7_init_37 (fun H locs hP hD hS => ?_)
  have hP : va_P D vwCl [(h0, .inr (7, [.ref q1, .ref q2, .ref q3, .ref q4, .null, .int 0, .int 0])), (q1, .inl (cy 2, 16640, .inr (.inl (fun _ => 0)))), (q2, .inl (cy 2, 128, .inr (.inl (fun _ => 0)))), (q3, .inl (cy 1, 128, .inl (fun _ => 0))), (q4, .inl (cy 2, 256, .inr (.inl (fun _ => 0))))] H := hP
  have hD : va_D A [(h0, .inr (7, [.ref q1, .ref q2, .ref q3, .ref q4, .null, .int 0, .int 0])), (q1, .inl (cy 2, 16640, .inr (.inl (fun _ => 0)))), (q2, .inl (cy 2, 128, .inr (.inl (fun _ => 0)))), (q3, .inl (cy 1, 128, .inl (fun _ => 0))), (q4, .inl (cy 2, 256, .inr (.inl (fun _ => 0))))] := hD
  refine lv_aload_n hx hb dX7_init_40 rfl (lv_at hl 0 rfl) ?_
  refine lv_sipush (v := 256) hx hb dX7_init_41 (by decide) ?_
  refine va_newa (atype := .long) (a0 := (256, .inr (.inl (fun _ => 0)))) (N' := 256) hx hb (hts (.arrayClass .long) ac_long) (ty := .long) rfl hK hP hD hS hA (vz_long 256) (by decide) (by decide) (by decide) (Nat.le_of_ble_eq_true rfl) (Nat.le_of_ble_eq_true rfl) dX7_init_44 (fun q5 cA H hK9 hP hD hS => ?_)
  obtain rfl : cA = cy 2 := arr_long hK hK9
  clear hK9
  have hP : va_P D vwCl [(h0, .inr (7, [.ref q1, .ref q2, .ref q3, .ref q4, .null, .int 0, .int 0])), (q1, .inl (cy 2, 16640, .inr (.inl (fun _ => 0)))), (q2, .inl (cy 2, 128, .inr (.inl (fun _ => 0)))), (q3, .inl (cy 1, 128, .inl (fun _ => 0))), (q4, .inl (cy 2, 256, .inr (.inl (fun _ => 0)))), (q5, .inl (cy 2, 256, .inr (.inl (fun _ => 0))))] H := hP
  have hD : va_D A [(h0, .inr (7, [.ref q1, .ref q2, .ref q3, .ref q4, .null, .int 0, .int 0])), (q1, .inl (cy 2, 16640, .inr (.inl (fun _ => 0)))), (q2, .inl (cy 2, 128, .inr (.inl (fun _ => 0)))), (q3, .inl (cy 1, 128, .inl (fun _ => 0))), (q4, .inl (cy 2, 256, .inr (.inl (fun _ => 0)))), (q5, .inl (cy 2, 256, .inr (.inl (fun _ => 0))))] := hD
  refine va_put (D := D) (ci := 7) (v := .ref q5) (ty := .array .long) (C := RX7) (T := TX7) (N := 7) hx hb hts iw_7 tyX7 tyX7_ok nmX7 hown hK hP hD hS 0 rfl rfl 4 (by decide) (hts (.fieldLink RX7 25 "PavedYards$Sweep" "next" "[J") (in_1 (i := 106) rfl rfl)) (fun _ h9 => h9) rfl rfl rfl rfl (Nat.le_of_ble_eq_true rfl) dX7_init_46 (fun H locs hP hD hS => ?_)
  have hP : va_P D vwCl [(h0, .inr (7, [.ref q1, .ref q2, .ref q3, .ref q4, .ref q5, .int 0, .int 0])), (q1, .inl (cy 2, 16640, .inr (.inl (fun _ => 0)))), (q2, .inl (cy 2, 128, .inr (.inl (fun _ => 0)))), (q3, .inl (cy 1, 128, .inl (fun _ => 0))), (q4, .inl (cy 2, 256, .inr (.inl (fun _ => 0)))), (q5, .inl (cy 2, 256, .inr (.inl (fun _ => 0))))] H := hP
  have hD : va_D A [(h0, .inr (7, [.ref q1, .ref q2, .ref q3, .ref q4, .ref q5, .int 0, .int 0])), (q1, .inl (cy 2, 16640, .inr (.inl (fun _ => 0)))), (q2, .inl (cy 2, 128, .inr (.inl (fun _ => 0)))), (q3, .inl (cy 1, 128, .inl (fun _ => 0))), (q4, .inl (cy 2, 256, .inr (.inl (fun _ => 0)))), (q5, .inl (cy 2, 256, .inr (.inl (fun _ => 0))))] := hD
  have hP9 := hP
  have hD9 := hD
  exact W.vret hx hb hr (fun t ht hW => ⟨⟨(fun k => ([h0, q1, q2, q3, q4, q5] : List Nat).getD k 0), rfl, trivial, by rw [ht]; exact hP9, va_K.moved hW.alike hK, hD9⟩, hS.F ht⟩) hS.2.2 dX7_init_49

set_option maxHeartbeats 4000000 in
set_option maxRecDepth 100000 in
theorem ci_X0_init (l : Launch) (D : va_G) (cy : Nat → ClassId) (h0 : Nat) (sz : Nat) : Met l yX0_init (wsY yX0_init cX0_init 1 none) (rmI 1 2 512) (va_Pc [.ref h0] (KIp D cy [(h0, .inr (0, [.null, .null]))] sz)) (va_Qv (S := Nat → Nat) (fun _ => True) (fun u t => va_P D vwCl [(h0, .inr (0, [.ref (u 1), .ref (u 2)])), ((u 1), .inl (cy 2, 256, .inr (.inl (fun _ => 0)))), ((u 2), .inl (cy 2, 256, .inr (.inl (fun _ => 0))))] t.heap ∧ va_K D vwCl (tysL cy) t ∧ va_D (va_A [(h0, .inr (0, [.null, .null]))] sz) [(h0, .inr (0, [.ref (u 1), .ref (u 2)])), ((u 1), .inl (cy 2, 256, .inr (.inl (fun _ => 0)))), ((u 2), .inl (cy 2, 256, .inr (.inl (fun _ => 0))))]) (va_A [(h0, .inr (0, [.null, .null]))] sz)) 2 512 (va_A [(h0, .inr (0, [.null, .null]))] sz) := by
  refine Met.ofW (cc := cX0_init) (maxL := 1) (ret := none) (by decide +kernel) rfl ?_
  intro p e s m args below meth c s₁ B hml hv
  obtain ⟨rfl, hsz, hP, hK, hNW, hAO3, hAO4, hD0⟩ := hv
  have hx := B.exec
  have hb := B.bytes
  have hr := B.returns
  have hts : ∀ w ∈ gtb, w.before _ s = true := fun w hw => atoms_spec (ws := wsY yX0_init cX0_init 1 none) B.pre w (List.mem_cons_of_mem _ hw)
  have hts : ∀ (w : Cond), w ∈ gtb → w.before _ s = true := hts
  have hown : s.vm.findClass RX0 = some m.cls := findClass_of_methodNamed B.named
  have hlocks := B.notSynchronized
  have hin : meth.name = "<init>" := (name_of_methodNamed B.named B.method).1
  subst hsz
  have hD := hD0.self (sz := s.heap.size)
  generalize hAe : va_A [(h0, .inr (0, [.null, .null]))] s.heap.size = A at hD ⊢
  have hA : ∀ q : Nat, s.heap.size ≤ q → A q := fun q h => by rw [← hAe]; exact Or.inr h
  have hS : va_S A s.heap s.heap [] := va_S.rf
  have hP : va_P D vwCl [(h0, .inr (0, [.null, .null]))] s.heap := hP
  have hl := lv_entry ([.ref h0]) (n := 1) (Nat.le_of_ble_eq_true rfl)
  rw [lg_entry_eq]
  generalize (lg_sl ([.ref h0]) ++ List.replicate (1 - (lg_sl ([.ref h0])).length) Slot.unset).toArray = ls at hl ⊢
  have hl : lv_has ls 1 [(0, .ref h0)] := hl
  refine lv_aload_n hx hb dX0_init_0 rfl (lv_at hl 0 rfl) ?_
  refine W.objInit hx hb hown (hts (.methodLink RX0 3 objectInit) (in_1 (i := 130) rfl rfl)) (hts (.instanceMethod objectInit) (in_1 (i := 23) rfl rfl)) (hts (.code objectInit ⟨#[0xb1]⟩ 1 none) (in_1 (i := 24) rfl rfl)) rfl (by rw [hml]; exact hl.1) rfl dX0_init_1 (Nat.le_of_ble_eq_true rfl) (Nat.le_of_ble_eq_true rfl) ?_
  refine W.eq (g2 := F0 m 4 _ []) rfl ?_
  refine lv_aload_n hx hb dX0_init_4 rfl (lv_at hl 0 rfl) ?_
  refine lv_sipush (v := 256) hx hb dX0_init_5 (by decide) ?_
  refine va_newa (atype := .long) (a0 := (256, .inr (.inl (fun _ => 0)))) (N' := 256) hx hb (hts (.arrayClass .long) ac_long) (ty := .long) rfl hK hP hD hS hA (vz_long 256) (by decide) (by decide) (by decide) (Nat.le_of_ble_eq_true rfl) (Nat.le_of_ble_eq_true rfl) dX0_init_8 (fun q1 cA H hK9 hP hD hS => ?_)
  obtain rfl : cA = cy 2 := arr_long hK hK9
  clear hK9
  have hP : va_P D vwCl [(h0, .inr (0, [.null, .null])), (q1, .inl (cy 2, 256, .inr (.inl (fun _ => 0))))] H := hP
  have hD : va_D A [(h0, .inr (0, [.null, .null])), (q1, .inl (cy 2, 256, .inr (.inl (fun _ => 0))))] := hD
  refine va_put (D := D) (ci := 0) (v := .ref q1) (ty := .array .long) (C := RX0) (T := TX0) (N := 2) hx hb hts iw_0 tyX0 tyX0_ok nmX0 hown hK hP hD hS 0 rfl rfl 0 (by decide) (hts (.fieldLink RX0 9 "PavedYards$Crossing" "now" "[J") (in_1 (i := 131) rfl rfl)) (fun _ h9 => h9) rfl rfl rfl rfl (Nat.le_of_ble_eq_true rfl) dX0_init_10 (fun H locs hP hD hS => ?_)
  have hP : va_P D vwCl [(h0, .inr (0, [.ref q1, .null])), (q1, .inl (cy 2, 256, .inr (.inl (fun _ => 0))))] H := hP
  have hD : va_D A [(h0, .inr (0, [.ref q1, .null])), (q1, .inl (cy 2, 256, .inr (.inl (fun _ => 0))))] := hD
  refine lv_aload_n hx hb dX0_init_13 rfl (lv_at hl 0 rfl) ?_
  refine lv_sipush (v := 256) hx hb dX0_init_14 (by decide) ?_
  refine va_newa (atype := .long) (a0 := (256, .inr (.inl (fun _ => 0)))) (N' := 256) hx hb (hts (.arrayClass .long) ac_long) (ty := .long) rfl hK hP hD hS hA (vz_long 256) (by decide) (by decide) (by decide) (Nat.le_of_ble_eq_true rfl) (Nat.le_of_ble_eq_true rfl) dX0_init_17 (fun q2 cA H hK9 hP hD hS => ?_)
  obtain rfl : cA = cy 2 := arr_long hK hK9
  clear hK9
  have hP : va_P D vwCl [(h0, .inr (0, [.ref q1, .null])), (q1, .inl (cy 2, 256, .inr (.inl (fun _ => 0)))), (q2, .inl (cy 2, 256, .inr (.inl (fun _ => 0))))] H := hP
  have hD : va_D A [(h0, .inr (0, [.ref q1, .null])), (q1, .inl (cy 2, 256, .inr (.inl (fun _ => 0)))), (q2, .inl (cy 2, 256, .inr (.inl (fun _ => 0))))] := hD
  refine va_put (D := D) (ci := 0) (v := .ref q2) (ty := .array .long) (C := RX0) (T := TX0) (N := 2) hx hb hts iw_0 tyX0 tyX0_ok nmX0 hown hK hP hD hS 0 rfl rfl 1 (by decide) (hts (.fieldLink RX0 15 "PavedYards$Crossing" "next" "[J") (in_1 (i := 132) rfl rfl)) (fun _ h9 => h9) rfl rfl rfl rfl (Nat.le_of_ble_eq_true rfl) dX0_init_19 (fun H locs hP hD hS => ?_)
  have hP : va_P D vwCl [(h0, .inr (0, [.ref q1, .ref q2])), (q1, .inl (cy 2, 256, .inr (.inl (fun _ => 0)))), (q2, .inl (cy 2, 256, .inr (.inl (fun _ => 0))))] H := hP
  have hD : va_D A [(h0, .inr (0, [.ref q1, .ref q2])), (q1, .inl (cy 2, 256, .inr (.inl (fun _ => 0)))), (q2, .inl (cy 2, 256, .inr (.inl (fun _ => 0))))] := hD
  have hP9 := hP
  have hD9 := hD
  exact W.vret hx hb hr (fun t ht hW => ⟨⟨(fun k => ([h0, q1, q2] : List Nat).getD k 0), rfl, trivial, by rw [ht]; exact hP9, va_K.moved hW.alike hK, hD9⟩, hS.F ht⟩) hS.2.2 dX0_init_22

set_option maxHeartbeats 4000000 in
set_option maxRecDepth 100000 in
theorem ci_X4_init (l : Launch) (D : va_G) (cy : Nat → ClassId) (h0 : Nat) (sz : Nat) : Met l yX4_init (wsY yX4_init cX4_init 1 none) (rmI 1 2 128) (va_Pc [.ref h0] (KIp D cy [(h0, .inr (4, [.null, .null]))] sz)) (va_Qv (S := Nat → Nat) (fun _ => True) (fun u t => va_P D vwCl [(h0, .inr (4, [.ref (u 1), .ref (u 2)])), ((u 1), .inl (cy 0, 64, .inl (fun _ => 0))), ((u 2), .inl (cy 0, 64, .inl (fun _ => 0)))] t.heap ∧ va_K D vwCl (tysL cy) t ∧ va_D (va_A [(h0, .inr (4, [.null, .null]))] sz) [(h0, .inr (4, [.ref (u 1), .ref (u 2)])), ((u 1), .inl (cy 0, 64, .inl (fun _ => 0))), ((u 2), .inl (cy 0, 64, .inl (fun _ => 0)))]) (va_A [(h0, .inr (4, [.null, .null]))] sz)) 2 128 (va_A [(h0, .inr (4, [.null, .null]))] sz) := by
  refine Met.ofW (cc := cX4_init) (maxL := 1) (ret := none) (by decide +kernel) rfl ?_
  intro p e s m args below meth c s₁ B hml hv
  obtain ⟨rfl, hsz, hP, hK, hNW, hAO3, hAO4, hD0⟩ := hv
  have hx := B.exec
  have hb := B.bytes
  have hr := B.returns
  have hts : ∀ w ∈ gtb, w.before _ s = true := fun w hw => atoms_spec (ws := wsY yX4_init cX4_init 1 none) B.pre w (List.mem_cons_of_mem _ hw)
  have hts : ∀ (w : Cond), w ∈ gtb → w.before _ s = true := hts
  have hown : s.vm.findClass RX4 = some m.cls := findClass_of_methodNamed B.named
  have hlocks := B.notSynchronized
  have hin : meth.name = "<init>" := (name_of_methodNamed B.named B.method).1
  subst hsz
  have hD := hD0.self (sz := s.heap.size)
  generalize hAe : va_A [(h0, .inr (4, [.null, .null]))] s.heap.size = A at hD ⊢
  have hA : ∀ q : Nat, s.heap.size ≤ q → A q := fun q h => by rw [← hAe]; exact Or.inr h
  have hS : va_S A s.heap s.heap [] := va_S.rf
  have hP : va_P D vwCl [(h0, .inr (4, [.null, .null]))] s.heap := hP
  have hl := lv_entry ([.ref h0]) (n := 1) (Nat.le_of_ble_eq_true rfl)
  rw [lg_entry_eq]
  generalize (lg_sl ([.ref h0]) ++ List.replicate (1 - (lg_sl ([.ref h0])).length) Slot.unset).toArray = ls at hl ⊢
  have hl : lv_has ls 1 [(0, .ref h0)] := hl
  refine lv_aload_n hx hb dX4_init_0 rfl (lv_at hl 0 rfl) ?_
  refine W.objInit hx hb hown (hts (.methodLink RX4 3 objectInit) (in_1 (i := 216) rfl rfl)) (hts (.instanceMethod objectInit) (in_1 (i := 23) rfl rfl)) (hts (.code objectInit ⟨#[0xb1]⟩ 1 none) (in_1 (i := 24) rfl rfl)) rfl (by rw [hml]; exact hl.1) rfl dX4_init_1 (Nat.le_of_ble_eq_true rfl) (Nat.le_of_ble_eq_true rfl) ?_
  refine W.eq (g2 := F0 m 4 _ []) rfl ?_
  refine lv_aload_n hx hb dX4_init_4 rfl (lv_at hl 0 rfl) ?_
  refine lv_bipush (v := 64) hx hb dX4_init_5 (by decide) ?_
  refine va_newa (atype := .int) (a0 := (64, .inl (fun _ => 0))) (N' := 64) hx hb (hts (.arrayClass .int) ac_int) (ty := .int) rfl hK hP hD hS hA (vz_int 64) (by decide) (by decide) (by decide) (Nat.le_of_ble_eq_true rfl) (Nat.le_of_ble_eq_true rfl) dX4_init_7 (fun q1 cA H hK9 hP hD hS => ?_)
  obtain rfl : cA = cy 0 := arr_int hK hK9
  clear hK9
  have hP : va_P D vwCl [(h0, .inr (4, [.null, .null])), (q1, .inl (cy 0, 64, .inl (fun _ => 0)))] H := hP
  have hD : va_D A [(h0, .inr (4, [.null, .null])), (q1, .inl (cy 0, 64, .inl (fun _ => 0)))] := hD
  refine va_putF (D := D) (ci := 4) (v := .ref q1) (ty := .array .int) (C := RX4) (T := TX4) (N := 2) hx hb hts iw_4 tyX4 tyX4_ok nmX4 hown hK hP hD hS 0 rfl rfl 0 (by decide) (hts (.fieldLink RX4 9 "PavedYards$Rings" "sizes" "[I") (in_1 (i := 217) rfl rfl)) (fun _ h9 => h9) rfl hin rfl rfl rfl rfl (Nat.le_of_ble_eq_true rfl) dX4_init_9 (fun H locs hP hD hS => ?_)
  have hP : va_P D vwCl [(h0, .inr (4, [.ref q1, .null])), (q1, .inl (cy 0, 64, .inl (fun _ => 0)))] H := hP
  have hD : va_D A [(h0, .inr (4, [.ref q1, .null])), (q1, .inl (cy 0, 64, .inl (fun _ => 0)))] := hD
  refine lv_aload_n hx hb dX4_init_12 rfl (lv_at hl 0 rfl) ?_
  refine lv_bipush (v := 64) hx hb dX4_init_13 (by decide) ?_
  refine va_newa (atype := .int) (a0 := (64, .inl (fun _ => 0))) (N' := 64) hx hb (hts (.arrayClass .int) ac_int) (ty := .int) rfl hK hP hD hS hA (vz_int 64) (by decide) (by decide) (by decide) (Nat.le_of_ble_eq_true rfl) (Nat.le_of_ble_eq_true rfl) dX4_init_15 (fun q2 cA H hK9 hP hD hS => ?_)
  obtain rfl : cA = cy 0 := arr_int hK hK9
  clear hK9
  have hP : va_P D vwCl [(h0, .inr (4, [.ref q1, .null])), (q1, .inl (cy 0, 64, .inl (fun _ => 0))), (q2, .inl (cy 0, 64, .inl (fun _ => 0)))] H := hP
  have hD : va_D A [(h0, .inr (4, [.ref q1, .null])), (q1, .inl (cy 0, 64, .inl (fun _ => 0))), (q2, .inl (cy 0, 64, .inl (fun _ => 0)))] := hD
  refine va_putF (D := D) (ci := 4) (v := .ref q2) (ty := .array .int) (C := RX4) (T := TX4) (N := 2) hx hb hts iw_4 tyX4 tyX4_ok nmX4 hown hK hP hD hS 0 rfl rfl 1 (by decide) (hts (.fieldLink RX4 15 "PavedYards$Rings" "ringOf" "[I") (in_1 (i := 219) rfl rfl)) (fun _ h9 => h9) rfl hin rfl rfl rfl rfl (Nat.le_of_ble_eq_true rfl) dX4_init_17 (fun H locs hP hD hS => ?_)
  have hP : va_P D vwCl [(h0, .inr (4, [.ref q1, .ref q2])), (q1, .inl (cy 0, 64, .inl (fun _ => 0))), (q2, .inl (cy 0, 64, .inl (fun _ => 0)))] H := hP
  have hD : va_D A [(h0, .inr (4, [.ref q1, .ref q2])), (q1, .inl (cy 0, 64, .inl (fun _ => 0))), (q2, .inl (cy 0, 64, .inl (fun _ => 0)))] := hD
  have hP9 := hP
  have hD9 := hD
  exact W.vret hx hb hr (fun t ht hW => ⟨⟨(fun k => ([h0, q1, q2] : List Nat).getD k 0), rfl, trivial, by rw [ht]; exact hP9, va_K.moved hW.alike hK, hD9⟩, hS.F ht⟩) hS.2.2 dX4_init_20

set_option maxHeartbeats 4000000 in
set_option maxRecDepth 100000 in
theorem ci_X3_init (l : Launch) (D : va_G) (cy : Nat → ClassId) (h0 : Nat) (sz : Nat) : Met l yX3_init (wsY yX3_init cX3_init 1 none) (rmI 1 1 64) (va_Pc [.ref h0] (KIp D cy [(h0, .inr (3, [.int 0, .null]))] sz)) (va_Qv (S := Nat → Nat) (fun _ => True) (fun u t => va_P D vwCl [(h0, .inr (3, [.int 0, .ref (u 1)])), ((u 1), .inl (cy 0, 64, .inl (fun _ => 0)))] t.heap ∧ va_K D vwCl (tysL cy) t ∧ va_D (va_A [(h0, .inr (3, [.int 0, .null]))] sz) [(h0, .inr (3, [.int 0, .ref (u 1)])), ((u 1), .inl (cy 0, 64, .inl (fun _ => 0)))]) (va_A [(h0, .inr (3, [.int 0, .null]))] sz)) 1 64 (va_A [(h0, .inr (3, [.int 0, .null]))] sz) := by
  refine Met.ofW (cc := cX3_init) (maxL := 1) (ret := none) (by decide +kernel) rfl ?_
  intro p e s m args below meth c s₁ B hml hv
  obtain ⟨rfl, hsz, hP, hK, hNW, hAO3, hAO4, hD0⟩ := hv
  have hx := B.exec
  have hb := B.bytes
  have hr := B.returns
  have hts : ∀ w ∈ gtb, w.before _ s = true := fun w hw => atoms_spec (ws := wsY yX3_init cX3_init 1 none) B.pre w (List.mem_cons_of_mem _ hw)
  have hts : ∀ (w : Cond), w ∈ gtb → w.before _ s = true := hts
  have hown : s.vm.findClass RX3 = some m.cls := findClass_of_methodNamed B.named
  have hlocks := B.notSynchronized
  have hin : meth.name = "<init>" := (name_of_methodNamed B.named B.method).1
  subst hsz
  have hD := hD0.self (sz := s.heap.size)
  generalize hAe : va_A [(h0, .inr (3, [.int 0, .null]))] s.heap.size = A at hD ⊢
  have hA : ∀ q : Nat, s.heap.size ≤ q → A q := fun q h => by rw [← hAe]; exact Or.inr h
  have hS : va_S A s.heap s.heap [] := va_S.rf
  have hP : va_P D vwCl [(h0, .inr (3, [.int 0, .null]))] s.heap := hP
  have hl := lv_entry ([.ref h0]) (n := 1) (Nat.le_of_ble_eq_true rfl)
  rw [lg_entry_eq]
  generalize (lg_sl ([.ref h0]) ++ List.replicate (1 - (lg_sl ([.ref h0])).length) Slot.unset).toArray = ls at hl ⊢
  have hl : lv_has ls 1 [(0, .ref h0)] := hl
  refine lv_aload_n hx hb dX3_init_0 rfl (lv_at hl 0 rfl) ?_
  refine W.objInit hx hb hown (hts (.methodLink RX3 3 objectInit) (in_1 (i := 233) rfl rfl)) (hts (.instanceMethod objectInit) (in_1 (i := 23) rfl rfl)) (hts (.code objectInit ⟨#[0xb1]⟩ 1 none) (in_1 (i := 24) rfl rfl)) rfl (by rw [hml]; exact hl.1) rfl dX3_init_1 (Nat.le_of_ble_eq_true rfl) (Nat.le_of_ble_eq_true rfl) ?_
  refine W.eq (g2 := F0 m 4 _ []) rfl ?_
  refine lv_aload_n hx hb dX3_init_4 rfl (lv_at hl 0 rfl) ?_
  refine lv_bipush (v := 64) hx hb dX3_init_5 (by decide) ?_
  refine va_newa (atype := .int) (a0 := (64, .inl (fun _ => 0))) (N' := 64) hx hb (hts (.arrayClass .int) ac_int) (ty := .int) rfl hK hP hD hS hA (vz_int 64) (by decide) (by decide) (by decide) (Nat.le_of_ble_eq_true rfl) (Nat.le_of_ble_eq_true rfl) dX3_init_7 (fun q1 cA H hK9 hP hD hS => ?_)
  obtain rfl : cA = cy 0 := arr_int hK hK9
  clear hK9
  have hP : va_P D vwCl [(h0, .inr (3, [.int 0, .null])), (q1, .inl (cy 0, 64, .inl (fun _ => 0)))] H := hP
  have hD : va_D A [(h0, .inr (3, [.int 0, .null])), (q1, .inl (cy 0, 64, .inl (fun _ => 0)))] := hD
  refine va_putF (D := D) (ci := 3) (v := .ref q1) (ty := .array .int) (C := RX3) (T := TX3) (N := 2) hx hb hts iw_3 tyX3 tyX3_ok nmX3 hown hK hP hD hS 0 rfl rfl 1 (by decide) (hts (.fieldLink RX3 9 "PavedYards$Paving" "on" "[I") (in_1 (i := 237) rfl rfl)) (fun _ h9 => h9) rfl hin rfl rfl rfl rfl (Nat.le_of_ble_eq_true rfl) dX3_init_9 (fun H locs hP hD hS => ?_)
  have hP : va_P D vwCl [(h0, .inr (3, [.int 0, .ref q1])), (q1, .inl (cy 0, 64, .inl (fun _ => 0)))] H := hP
  have hD : va_D A [(h0, .inr (3, [.int 0, .ref q1])), (q1, .inl (cy 0, 64, .inl (fun _ => 0)))] := hD
  have hP9 := hP
  have hD9 := hD
  exact W.vret hx hb hr (fun t ht hW => ⟨⟨(fun k => ([h0, q1] : List Nat).getD k 0), rfl, trivial, by rw [ht]; exact hP9, va_K.moved hW.alike hK, hD9⟩, hS.F ht⟩) hS.2.2 dX3_init_12

set_option maxHeartbeats 4000000 in
set_option maxRecDepth 100000 in
theorem ci_X6_init (l : Launch) (D : va_G) (cy : Nat → ClassId) (h0 : Nat) (sz : Nat) : Met l yX6_init (wsY yX6_init cX6_init 1 none) (rmI 1 1 64) (va_Pc [.ref h0] (KIp D cy [(h0, .inr (6, [.int 0, .int 0, .int 0, .null]))] sz)) (va_Qv (S := Nat → Nat) (fun _ => True) (fun u t => va_P D vwCl [(h0, .inr (6, [.int 0, .int 0, .int 0, .ref (u 1)])), ((u 1), .inl (cy 0, 64, .inl (fun _ => 0)))] t.heap ∧ va_K D vwCl (tysL cy) t ∧ va_D (va_A [(h0, .inr (6, [.int 0, .int 0, .int 0, .null]))] sz) [(h0, .inr (6, [.int 0, .int 0, .int 0, .ref (u 1)])), ((u 1), .inl (cy 0, 64, .inl (fun _ => 0)))]) (va_A [(h0, .inr (6, [.int 0, .int 0, .int 0, .null]))] sz)) 1 64 (va_A [(h0, .inr (6, [.int 0, .int 0, .int 0, .null]))] sz) := by
  refine Met.ofW (cc := cX6_init) (maxL := 1) (ret := none) (by decide +kernel) rfl ?_
  intro p e s m args below meth c s₁ B hml hv
  obtain ⟨rfl, hsz, hP, hK, hNW, hAO3, hAO4, hD0⟩ := hv
  have hx := B.exec
  have hb := B.bytes
  have hr := B.returns
  have hts : ∀ w ∈ gtb, w.before _ s = true := fun w hw => atoms_spec (ws := wsY yX6_init cX6_init 1 none) B.pre w (List.mem_cons_of_mem _ hw)
  have hts : ∀ (w : Cond), w ∈ gtb → w.before _ s = true := hts
  have hown : s.vm.findClass RX6 = some m.cls := findClass_of_methodNamed B.named
  have hlocks := B.notSynchronized
  have hin : meth.name = "<init>" := (name_of_methodNamed B.named B.method).1
  subst hsz
  have hD := hD0.self (sz := s.heap.size)
  generalize hAe : va_A [(h0, .inr (6, [.int 0, .int 0, .int 0, .null]))] s.heap.size = A at hD ⊢
  have hA : ∀ q : Nat, s.heap.size ≤ q → A q := fun q h => by rw [← hAe]; exact Or.inr h
  have hS : va_S A s.heap s.heap [] := va_S.rf
  have hP : va_P D vwCl [(h0, .inr (6, [.int 0, .int 0, .int 0, .null]))] s.heap := hP
  have hl := lv_entry ([.ref h0]) (n := 1) (Nat.le_of_ble_eq_true rfl)
  rw [lg_entry_eq]
  generalize (lg_sl ([.ref h0]) ++ List.replicate (1 - (lg_sl ([.ref h0])).length) Slot.unset).toArray = ls at hl ⊢
  have hl : lv_has ls 1 [(0, .ref h0)] := hl
  refine lv_aload_n hx hb dX6_init_0 rfl (lv_at hl 0 rfl) ?_
  refine W.objInit hx hb hown (hts (.methodLink RX6 3 objectInit) (in_2 (i := 11) rfl rfl)) (hts (.instanceMethod objectInit) (in_1 (i := 23) rfl rfl)) (hts (.code objectInit ⟨#[0xb1]⟩ 1 none) (in_1 (i := 24) rfl rfl)) rfl (by rw [hml]; exact hl.1) rfl dX6_init_1 (Nat.le_of_ble_eq_true rfl) (Nat.le_of_ble_eq_true rfl) ?_
  refine W.eq (g2 := F0 m 4 _ []) rfl ?_
  refine lv_aload_n hx hb dX6_init_4 rfl (lv_at hl 0 rfl) ?_
  refine lv_bipush (v := 64) hx hb dX6_init_5 (by decide) ?_
  refine va_newa (atype := .int) (a0 := (64, .inl (fun _ => 0))) (N' := 64) hx hb (hts (.arrayClass .int) ac_int) (ty := .int) rfl hK hP hD hS hA (vz_int 64) (by decide) (by decide) (by decide) (Nat.le_of_ble_eq_true rfl) (Nat.le_of_ble_eq_true rfl) dX6_init_7 (fun q1 cA H hK9 hP hD hS => ?_)
  obtain rfl : cA = cy 0 := arr_int hK hK9
  clear hK9
  have hP : va_P D vwCl [(h0, .inr (6, [.int 0, .int 0, .int 0, .null])), (q1, .inl (cy 0, 64, .inl (fun _ => 0)))] H := hP
  have hD : va_D A [(h0, .inr (6, [.int 0, .int 0, .int 0, .null])), (q1, .inl (cy 0, 64, .inl (fun _ => 0)))] := hD
  refine va_putF (D := D) (ci := 6) (v := .ref q1) (ty := .array .int) (C := RX6) (T := TX6) (N := 4) hx hb hts iw_6 tyX6 tyX6_ok nmX6 hown hK hP hD hS 0 rfl rfl 3 (by decide) (hts (.fieldLink RX6 9 "PavedYards$Sheet" "items" "[I") (in_2 (i := 19) rfl rfl)) (fun _ h9 => h9) rfl hin rfl rfl rfl rfl (Nat.le_of_ble_eq_true rfl) dX6_init_9 (fun H locs hP hD hS => ?_)
  have hP : va_P D vwCl [(h0, .inr (6, [.int 0, .int 0, .int 0, .ref q1])), (q1, .inl (cy 0, 64, .inl (fun _ => 0)))] H := hP
  have hD : va_D A [(h0, .inr (6, [.int 0, .int 0, .int 0, .ref q1])), (q1, .inl (cy 0, 64, .inl (fun _ => 0)))] := hD
  have hP9 := hP
  have hD9 := hD
  exact W.vret hx hb hr (fun t ht hW => ⟨⟨(fun k => ([h0, q1] : List Nat).getD k 0), rfl, trivial, by rw [ht]; exact hP9, va_K.moved hW.alike hK, hD9⟩, hS.F ht⟩) hS.2.2 dX6_init_12

set_option maxHeartbeats 4000000 in
set_option maxRecDepth 100000 in
theorem ci_X2_init (l : Launch) (D : va_G) (cy : Nat → ClassId) (h0 : Nat) (sz : Nat) : Met l yX2_init (wsY yX2_init cX2_init 1 none) (rmI 2 6 395) (va_Pc [.ref h0] (KIp D cy [(h0, .inr (2, [.null, .null, .null, .null]))] sz)) (va_Qv (S := Nat → Nat) (fun _ => True) (fun u t => va_P D vwCl [(h0, .inr (2, [.ref (u 1), .ref (u 2), .ref (u 3), .ref (u 4)])), ((u 1), .inl (cy 0, 64, .inl (fun _ => 0))), ((u 2), .inl (cy 0, 64, .inl (fun _ => 0))), ((u 3), .inl (cy 0, 64, .inl (fun _ => 0))), ((u 4), .inr (9, [.ref (u 5), .ref (u 6), .int 0])), ((u 5), .inl (cy 1, 100, .inl (fun _ => 0))), ((u 6), .inl (cy 0, 100, .inl (fun _ => 0)))] t.heap ∧ va_K D vwCl (tysL cy) t ∧ va_D (va_A [(h0, .inr (2, [.null, .null, .null, .null]))] sz) [(h0, .inr (2, [.ref (u 1), .ref (u 2), .ref (u 3), .ref (u 4)])), ((u 1), .inl (cy 0, 64, .inl (fun _ => 0))), ((u 2), .inl (cy 0, 64, .inl (fun _ => 0))), ((u 3), .inl (cy 0, 64, .inl (fun _ => 0))), ((u 4), .inr (9, [.ref (u 5), .ref (u 6), .int 0])), ((u 5), .inl (cy 1, 100, .inl (fun _ => 0))), ((u 6), .inl (cy 0, 100, .inl (fun _ => 0)))]) (va_A [(h0, .inr (2, [.null, .null, .null, .null]))] sz)) 6 395 (va_A [(h0, .inr (2, [.null, .null, .null, .null]))] sz) := by
  refine Met.ofW (cc := cX2_init) (maxL := 1) (ret := none) (by decide +kernel) rfl ?_
  intro p e s m args below meth c s₁ B hml hv
  obtain ⟨rfl, hsz, hP, hK, hNW, hAO3, hAO4, hD0⟩ := hv
  have hx := B.exec
  have hb := B.bytes
  have hr := B.returns
  have hts : ∀ w ∈ gtb, w.before _ s = true := fun w hw => atoms_spec (ws := wsY yX2_init cX2_init 1 none) B.pre w (List.mem_cons_of_mem _ hw)
  have hts : ∀ (w : Cond), w ∈ gtb → w.before _ s = true := hts
  have hown : s.vm.findClass RX2 = some m.cls := findClass_of_methodNamed B.named
  have hlocks := B.notSynchronized
  have hin : meth.name = "<init>" := (name_of_methodNamed B.named B.method).1
  subst hsz
  have hD := hD0.self (sz := s.heap.size)
  generalize hAe : va_A [(h0, .inr (2, [.null, .null, .null, .null]))] s.heap.size = A at hD ⊢
  have hA : ∀ q : Nat, s.heap.size ≤ q → A q := fun q h => by rw [← hAe]; exact Or.inr h
  have hS : va_S A s.heap s.heap [] := va_S.rf
  have hP : va_P D vwCl [(h0, .inr (2, [.null, .null, .null, .null]))] s.heap := hP
  have hl := lv_entry ([.ref h0]) (n := 1) (Nat.le_of_ble_eq_true rfl)
  rw [lg_entry_eq]
  generalize (lg_sl ([.ref h0]) ++ List.replicate (1 - (lg_sl ([.ref h0])).length) Slot.unset).toArray = ls at hl ⊢
  have hl : lv_has ls 1 [(0, .ref h0)] := hl
  refine lv_aload_n hx hb dX2_init_0 rfl (lv_at hl 0 rfl) ?_
  refine W.objInit hx hb hown (hts (.methodLink RX2 3 objectInit) (in_1 (i := 143) rfl rfl)) (hts (.instanceMethod objectInit) (in_1 (i := 23) rfl rfl)) (hts (.code objectInit ⟨#[0xb1]⟩ 1 none) (in_1 (i := 24) rfl rfl)) rfl (by rw [hml]; exact hl.1) rfl dX2_init_1 (Nat.le_of_ble_eq_true rfl) (Nat.le_of_ble_eq_true rfl) ?_
  refine W.eq (g2 := F0 m 4 _ []) rfl ?_
  refine lv_aload_n hx hb dX2_init_4 rfl (lv_at hl 0 rfl) ?_
  refine lv_bipush (v := 64) hx hb dX2_init_5 (by decide) ?_
  refine va_newa (atype := .int) (a0 := (64, .inl (fun _ => 0))) (N' := 64) hx hb (hts (.arrayClass .int) ac_int) (ty := .int) rfl hK hP hD hS hA (vz_int 64) (by decide) (by decide) (by decide) (Nat.le_of_ble_eq_true rfl) (Nat.le_of_ble_eq_true rfl) dX2_init_7 (fun q1 cA H hK9 hP hD hS => ?_)
  obtain rfl : cA = cy 0 := arr_int hK hK9
  clear hK9
  have hP : va_P D vwCl [(h0, .inr (2, [.null, .null, .null, .null])), (q1, .inl (cy 0, 64, .inl (fun _ => 0)))] H := hP
  have hD : va_D A [(h0, .inr (2, [.null, .null, .null, .null])), (q1, .inl (cy 0, 64, .inl (fun _ => 0)))] := hD
  refine va_putF (D := D) (ci := 2) (v := .ref q1) (ty := .array .int) (C := RX2) (T := TX2) (N := 4) hx hb hts iw_2 tyX2 tyX2_ok nmX2 hown hK hP hD hS 0 rfl rfl 0 (by decide) (hts (.fieldLink RX2 9 "PavedYards$Match" "mate" "[I") (in_1 (i := 166) rfl rfl)) (fun _ h9 => h9) rfl hin rfl rfl rfl rfl (Nat.le_of_ble_eq_true rfl) dX2_init_9 (fun H locs hP hD hS => ?_)
  have hP : va_P D vwCl [(h0, .inr (2, [.ref q1, .null, .null, .null])), (q1, .inl (cy 0, 64, .inl (fun _ => 0)))] H := hP
  have hD : va_D A [(h0, .inr (2, [.ref q1, .null, .null, .null])), (q1, .inl (cy 0, 64, .inl (fun _ => 0)))] := hD
  refine lv_aload_n hx hb dX2_init_12 rfl (lv_at hl 0 rfl) ?_
  refine lv_bipush (v := 64) hx hb dX2_init_13 (by decide) ?_
  refine va_newa (atype := .int) (a0 := (64, .inl (fun _ => 0))) (N' := 64) hx hb (hts (.arrayClass .int) ac_int) (ty := .int) rfl hK hP hD hS hA (vz_int 64) (by decide) (by decide) (by decide) (Nat.le_of_ble_eq_true rfl) (Nat.le_of_ble_eq_true rfl) dX2_init_15 (fun q2 cA H hK9 hP hD hS => ?_)
  obtain rfl : cA = cy 0 := arr_int hK hK9
  clear hK9
  have hP : va_P D vwCl [(h0, .inr (2, [.ref q1, .null, .null, .null])), (q1, .inl (cy 0, 64, .inl (fun _ => 0))), (q2, .inl (cy 0, 64, .inl (fun _ => 0)))] H := hP
  have hD : va_D A [(h0, .inr (2, [.ref q1, .null, .null, .null])), (q1, .inl (cy 0, 64, .inl (fun _ => 0))), (q2, .inl (cy 0, 64, .inl (fun _ => 0)))] := hD
  refine va_putF (D := D) (ci := 2) (v := .ref q2) (ty := .array .int) (C := RX2) (T := TX2) (N := 4) hx hb hts iw_2 tyX2 tyX2_ok nmX2 hown hK hP hD hS 0 rfl rfl 1 (by decide) (hts (.fieldLink RX2 15 "PavedYards$Match" "from" "[I") (in_1 (i := 167) rfl rfl)) (fun _ h9 => h9) rfl hin rfl rfl rfl rfl (Nat.le_of_ble_eq_true rfl) dX2_init_17 (fun H locs hP hD hS => ?_)
  have hP : va_P D vwCl [(h0, .inr (2, [.ref q1, .ref q2, .null, .null])), (q1, .inl (cy 0, 64, .inl (fun _ => 0))), (q2, .inl (cy 0, 64, .inl (fun _ => 0)))] H := hP
  have hD : va_D A [(h0, .inr (2, [.ref q1, .ref q2, .null, .null])), (q1, .inl (cy 0, 64, .inl (fun _ => 0))), (q2, .inl (cy 0, 64, .inl (fun _ => 0)))] := hD
  refine lv_aload_n hx hb dX2_init_20 rfl (lv_at hl 0 rfl) ?_
  refine lv_bipush (v := 64) hx hb dX2_init_21 (by decide) ?_
  refine va_newa (atype := .int) (a0 := (64, .inl (fun _ => 0))) (N' := 64) hx hb (hts (.arrayClass .int) ac_int) (ty := .int) rfl hK hP hD hS hA (vz_int 64) (by decide) (by decide) (by decide) (Nat.le_of_ble_eq_true rfl) (Nat.le_of_ble_eq_true rfl) dX2_init_23 (fun q3 cA H hK9 hP hD hS => ?_)
  obtain rfl : cA = cy 0 := arr_int hK hK9
  clear hK9
  have hP : va_P D vwCl [(h0, .inr (2, [.ref q1, .ref q2, .null, .null])), (q1, .inl (cy 0, 64, .inl (fun _ => 0))), (q2, .inl (cy 0, 64, .inl (fun _ => 0))), (q3, .inl (cy 0, 64, .inl (fun _ => 0)))] H := hP
  have hD : va_D A [(h0, .inr (2, [.ref q1, .ref q2, .null, .null])), (q1, .inl (cy 0, 64, .inl (fun _ => 0))), (q2, .inl (cy 0, 64, .inl (fun _ => 0))), (q3, .inl (cy 0, 64, .inl (fun _ => 0)))] := hD
  refine va_putF (D := D) (ci := 2) (v := .ref q3) (ty := .array .int) (C := RX2) (T := TX2) (N := 4) hx hb hts iw_2 tyX2 tyX2_ok nmX2 hown hK hP hD hS 0 rfl rfl 2 (by decide) (hts (.fieldLink RX2 18 "PavedYards$Match" "marks" "[I") (in_1 (i := 168) rfl rfl)) (fun _ h9 => h9) rfl hin rfl rfl rfl rfl (Nat.le_of_ble_eq_true rfl) dX2_init_25 (fun H locs hP hD hS => ?_)
  have hP : va_P D vwCl [(h0, .inr (2, [.ref q1, .ref q2, .ref q3, .null])), (q1, .inl (cy 0, 64, .inl (fun _ => 0))), (q2, .inl (cy 0, 64, .inl (fun _ => 0))), (q3, .inl (cy 0, 64, .inl (fun _ => 0)))] H := hP
  have hD : va_D A [(h0, .inr (2, [.ref q1, .ref q2, .ref q3, .null])), (q1, .inl (cy 0, 64, .inl (fun _ => 0))), (q2, .inl (cy 0, 64, .inl (fun _ => 0))), (q3, .inl (cy 0, 64, .inl (fun _ => 0)))] := hD
  refine lv_aload_n hx hb dX2_init_28 rfl (lv_at hl 0 rfl) ?_
  refine va_new (ci := 9) (fs := [.null, .null, .int 0]) (C := RX9) (T := TX9) (N := 3) hx hb hts iw_9 tyX9 tyX9_ok hown (hts (.classLink RX2 21 RX9) (in_1 (i := 144) rfl rfl)) (hts (.instantiable RX9 3) (in_1 (i := 145) rfl rfl)) (hts (.initialized RX9) (in_1 (i := 7) rfl rfl)) hK hP hD hS hA rfl (fun j hj => by rcases (show j = 0 ∨ j = 1 ∨ j = 2 by omega) with rfl | rfl | rfl <;> rfl) (Nat.le_of_ble_eq_true rfl) (Nat.le_of_ble_eq_true rfl) dX2_init_29 (fun q4 H hP hD hS => ?_)
  have hP : va_P D vwCl [(h0, .inr (2, [.ref q1, .ref q2, .ref q3, .null])), (q1, .inl (cy 0, 64, .inl (fun _ => 0))), (q2, .inl (cy 0, 64, .inl (fun _ => 0))), (q3, .inl (cy 0, 64, .inl (fun _ => 0))), (q4, .inr (9, [.null, .null, .int 0]))] H := hP
  have hD : va_D A [(h0, .inr (2, [.ref q1, .ref q2, .ref q3, .null])), (q1, .inl (cy 0, 64, .inl (fun _ => 0))), (q2, .inl (cy 0, 64, .inl (fun _ => 0))), (q3, .inl (cy 0, 64, .inl (fun _ => 0))), (q4, .inr (9, [.null, .null, .int 0]))] := hD
  refine lv_dup hx hb dX2_init_32 rfl ?_
  have hPc := hP.sub (ws' := [(q4, .inr (9, [.null, .null, .int 0]))]) [4] rfl
  have hDc := hD.sub (ws' := [(q4, .inr (9, [.null, .null, .int 0]))]) [4] (by decide) rfl
  have hFc := va_free (wc := [(q4, .inr (9, [.null, .null, .int 0]))]) hD hS hA [4] rfl
  refine va_callv (va_runIN (As := []) (rest := [.ref q4, .ref h0]) ⟨hx, hb, hml, hown, hts⟩ (ci_X9_init l D cy q4 H.size) (show va_CN _ s _ RX2 23 yX9_init "PavedYards" cX9_init 1 none (wsY yX9_init cX9_init 1 none) (rmI 1 2 200) 2 200 0 ∧ yX9_init.name = "<init>" ∧ (Cond.instanceMethod yX9_init).before _ s = true from ⟨va_cnB 0 hts (ws_good (in_1 (i := 148) rfl rfl)) rfl rfl rfl (hNW (RX2, 23, yX9_init, "PavedYards") (by decide +kernel)) (hts (.initialized yX9_init.cls) (in_1 (i := 7) rfl rfl)) (by decide +kernel) ⟨Nat.le_of_ble_eq_true rfl, Nat.le_of_ble_eq_true rfl⟩, rfl, hts (.instanceMethod yX9_init) (in_1 (i := 147) rfl rfl)⟩) ⟨fun a U g mk q => KI_blind q, fun U hU hW => ⟨rfl, by rw [hU], by rw [hU]; exact hPc, va_K.moved hW.alike hK, hNW.warm hW, va_AO.moved hW.alike hAO3, va_AO.moved hW.alike hAO4, hDc.weaken (fun _ _ _ _ => trivial)⟩⟩ rfl rfl hl.1 rfl (lv_room (Nat.le_of_ble_eq_true rfl)) dX2_init_33 ⟨Nat.le_of_ble_eq_true rfl, Nat.le_of_ble_eq_true rfl⟩) hS (fun q _ h => hFc q h) hFc (fun u1 t H1 locs ht hvm hw hB hz1 hk1 hS => ?_)
  obtain ⟨hP1, hK1, hD1⟩ := hB
  rw [ht] at hP1
  obtain ⟨hP, hD⟩ := va_join (wr := [(h0, .inr (2, [.ref q1, .ref q2, .ref q3, .null])), (q1, .inl (cy 0, 64, .inl (fun _ => 0))), (q2, .inl (cy 0, 64, .inl (fun _ => 0))), (q3, .inl (cy 0, 64, .inl (fun _ => 0)))]) (w1 := [(q4, .inr (9, [.ref (u1 1), .ref (u1 2), .int 0])), ((u1 1), .inl (cy 1, 100, .inl (fun _ => 0))), ((u1 2), .inl (cy 0, 100, .inl (fun _ => 0)))]) hP hD [4] [0, 1, 2, 3] rfl rfl (by decide) (by decide) hk1 hFc hP1 hD1
  clear hP1 hK1 hD1 hPc hDc hFc hk1
  generalize H1 = H at hP hS ⊢
  generalize (u1 1) = q5 at hP hD ⊢
  generalize (u1 2) = q6 at hP hD ⊢
  have hP : va_P D vwCl [(h0, .inr (2, [.ref q1, .ref q2, .ref q3, .null])), (q1, .inl (cy 0, 64, .inl (fun _ => 0))), (q2, .inl (cy 0, 64, .inl (fun _ => 0))), (q3, .inl (cy 0, 64, .inl (fun _ => 0))), (q4, .inr (9, [.ref q5, .ref q6, .int 0])), (q5, .inl (cy 1, 100, .inl (fun _ => 0))), (q6, .inl (cy 0, 100, .inl (fun _ => 0)))] H := hP
  have hD : va_D A [(h0, .inr (2, [.ref q1, .ref q2, .ref q3, .null])), (q1, .inl (cy 0, 64, .inl (fun _ => 0))), (q2, .inl (cy 0, 64, .inl (fun _ => 0))), (q3, .inl (cy 0, 64, .inl (fun _ => 0))), (q4, .inr (9, [.ref q5, .ref q6, .int 0])), (q5, .inl (cy 1, 100, .inl (fun _ => 0))), (q6, .inl (cy 0, 100, .inl (fun _ => 0)))] := hD
  refine va_putF (D := D) (ci := 2) (v := .ref q4) (ty := .object "PavedYards$Wave") (C := RX2) (T := TX2) (N := 4) hx hb hts iw_2 tyX2 tyX2_ok nmX2 hown hK hP hD hS 0 rfl rfl 3 (by decide) (hts (.fieldLink RX2 24 "PavedYards$Match" "wave" "LPavedYards$Wave;") (in_1 (i := 170) rfl rfl)) (fun _ h9 => h9) rfl hin rfl rfl rfl rfl (Nat.le_of_ble_eq_true rfl) dX2_init_36 (fun H locs hP hD hS => ?_)
  have hP : va_P D vwCl [(h0, .inr (2, [.ref q1, .ref q2, .ref q3, .ref q4])), (q1, .inl (cy 0, 64, .inl (fun _ => 0))), (q2, .inl (cy 0, 64, .inl (fun _ => 0))), (q3, .inl (cy 0, 64, .inl (fun _ => 0))), (q4, .inr (9, [.ref q5, .ref q6, .int 0])), (q5, .inl (cy 1, 100, .inl (fun _ => 0))), (q6, .inl (cy 0, 100, .inl (fun _ => 0)))] H := hP
  have hD : va_D A [(h0, .inr (2, [.ref q1, .ref q2, .ref q3, .ref q4])), (q1, .inl (cy 0, 64, .inl (fun _ => 0))), (q2, .inl (cy 0, 64, .inl (fun _ => 0))), (q3, .inl (cy 0, 64, .inl (fun _ => 0))), (q4, .inr (9, [.ref q5, .ref q6, .int 0])), (q5, .inl (cy 1, 100, .inl (fun _ => 0))), (q6, .inl (cy 0, 100, .inl (fun _ => 0)))] := hD
  have hP9 := hP
  have hD9 := hD
  exact W.vret hx hb hr (fun t ht hW => ⟨⟨(fun k => ([h0, q1, q2, q3, q4, q5, q6] : List Nat).getD k 0), rfl, trivial, by rw [ht]; exact hP9, va_K.moved hW.alike hK, hD9⟩, hS.F ht⟩) hS.2.2 dX2_init_39

set_option maxHeartbeats 4000000 in
set_option maxRecDepth 100000 in
theorem ci_X5_init (l : Launch) (D : va_G) (cy : Nat → ClassId) (h0 : Nat) (sz : Nat) : Met l yX5_init (wsY yX5_init cX5_init 1 none) (rmI 2 3 203) (va_Pc [.ref h0] (KIp D cy [(h0, .inr (5, [.null]))] sz)) (va_Qv (S := Nat → Nat) (fun _ => True) (fun u t => va_P D vwCl [(h0, .inr (5, [.ref (u 1)])), ((u 1), .inr (9, [.ref (u 2), .ref (u 3), .int 0])), ((u 2), .inl (cy 1, 100, .inl (fun _ => 0))), ((u 3), .inl (cy 0, 100, .inl (fun _ => 0)))] t.heap ∧ va_K D vwCl (tysL cy) t ∧ va_D (va_A [(h0, .inr (5, [.null]))] sz) [(h0, .inr (5, [.ref (u 1)])), ((u 1), .inr (9, [.ref (u 2), .ref (u 3), .int 0])), ((u 2), .inl (cy 1, 100, .inl (fun _ => 0))), ((u 3), .inl (cy 0, 100, .inl (fun _ => 0)))]) (va_A [(h0, .inr (5, [.null]))] sz)) 3 203 (va_A [(h0, .inr (5, [.null]))] sz) := by
  refine Met.ofW (cc := cX5_init) (maxL := 1) (ret := none) (by decide +kernel) rfl ?_
  intro p e s m args below meth c s₁ B hml hv
  obtain ⟨rfl, hsz, hP, hK, hNW, hAO3, hAO4, hD0⟩ := hv
  have hx := B.exec
  have hb := B.bytes
  have hr := B.returns
  have hts : ∀ w ∈ gtb, w.before _ s = true := fun w hw => atoms_spec (ws := wsY yX5_init cX5_init 1 none) B.pre w (List.mem_cons_of_mem _ hw)
  have hts : ∀ (w : Cond), w ∈ gtb → w.before _ s = true := hts
  have hown : s.vm.findClass RX5 = some m.cls := findClass_of_methodNamed B.named
  have hlocks := B.notSynchronized
  have hin : meth.name = "<init>" := (name_of_methodNamed B.named B.method).1
  subst hsz
  have hD := hD0.self (sz := s.heap.size)
  generalize hAe : va_A [(h0, .inr (5, [.null]))] s.heap.size = A at hD ⊢
  have hA : ∀ q : Nat, s.heap.size ≤ q → A q := fun q h => by rw [← hAe]; exact Or.inr h
  have hS : va_S A s.heap s.heap [] := va_S.rf
  have hP : va_P D vwCl [(h0, .inr (5, [.null]))] s.heap := hP
  have hl := lv_entry ([.ref h0]) (n := 1) (Nat.le_of_ble_eq_true rfl)
  rw [lg_entry_eq]
  generalize (lg_sl ([.ref h0]) ++ List.replicate (1 - (lg_sl ([.ref h0])).length) Slot.unset).toArray = ls at hl ⊢
  have hl : lv_has ls 1 [(0, .ref h0)] := hl
  refine lv_aload_n hx hb dX5_init_0 rfl (lv_at hl 0 rfl) ?_
  refine W.objInit hx hb hown (hts (.methodLink RX5 3 objectInit) (in_1 (i := 185) rfl rfl)) (hts (.instanceMethod objectInit) (in_1 (i := 23) rfl rfl)) (hts (.code objectInit ⟨#[0xb1]⟩ 1 none) (in_1 (i := 24) rfl rfl)) rfl (by rw [hml]; exact hl.1) rfl dX5_init_1 (Nat.le_of_ble_eq_true rfl) (Nat.le_of_ble_eq_true rfl) ?_
  refine W.eq (g2 := F0 m 4 _ []) rfl ?_
  refine lv_aload_n hx hb dX5_init_4 rfl (lv_at hl 0 rfl) ?_
  refine va_new (ci := 9) (fs := [.null, .null, .int 0]) (C := RX9) (T := TX9) (N := 3) hx hb hts iw_9 tyX9 tyX9_ok hown (hts (.classLink RX5 9 RX9) (in_1 (i := 186) rfl rfl)) (hts (.instantiable RX9 3) (in_1 (i := 145) rfl rfl)) (hts (.initialized RX9) (in_1 (i := 7) rfl rfl)) hK hP hD hS hA rfl (fun j hj => by rcases (show j = 0 ∨ j = 1 ∨ j = 2 by omega) with rfl | rfl | rfl <;> rfl) (Nat.le_of_ble_eq_true rfl) (Nat.le_of_ble_eq_true rfl) dX5_init_5 (fun q1 H hP hD hS => ?_)
  have hP : va_P D vwCl [(h0, .inr (5, [.null])), (q1, .inr (9, [.null, .null, .int 0]))] H := hP
  have hD : va_D A [(h0, .inr (5, [.null])), (q1, .inr (9, [.null, .null, .int 0]))] := hD
  refine lv_dup hx hb dX5_init_8 rfl ?_
  have hPc := hP.sub (ws' := [(q1, .inr (9, [.null, .null, .int 0]))]) [1] rfl
  have hDc := hD.sub (ws' := [(q1, .inr (9, [.null, .null, .int 0]))]) [1] (by decide) rfl
  have hFc := va_free (wc := [(q1, .inr (9, [.null, .null, .int 0]))]) hD hS hA [1] rfl
  refine va_callv (va_runIN (As := []) (rest := [.ref q1, .ref h0]) ⟨hx, hb, hml, hown, hts⟩ (ci_X9_init l D cy q1 H.size) (show va_CN _ s _ RX5 11 yX9_init "PavedYards" cX9_init 1 none (wsY yX9_init cX9_init 1 none) (rmI 1 2 200) 2 200 0 ∧ yX9_init.name = "<init>" ∧ (Cond.instanceMethod yX9_init).before _ s = true from ⟨va_cnB 0 hts (ws_good (in_1 (i := 148) rfl rfl)) rfl rfl rfl (hNW (RX5, 11, yX9_init, "PavedYards") (by decide +kernel)) (hts (.initialized yX9_init.cls) (in_1 (i := 7) rfl rfl)) (by decide +kernel) ⟨Nat.le_of_ble_eq_true rfl, Nat.le_of_ble_eq_true rfl⟩, rfl, hts (.instanceMethod yX9_init) (in_1 (i := 147) rfl rfl)⟩) ⟨fun a U g mk q => KI_blind q, fun U hU hW => ⟨rfl, by rw [hU], by rw [hU]; exact hPc, va_K.moved hW.alike hK, hNW.warm hW, va_AO.moved hW.alike hAO3, va_AO.moved hW.alike hAO4, hDc.weaken (fun _ _ _ _ => trivial)⟩⟩ rfl rfl hl.1 rfl (lv_room (Nat.le_of_ble_eq_true rfl)) dX5_init_9 ⟨Nat.le_of_ble_eq_true rfl, Nat.le_of_ble_eq_true rfl⟩) hS (fun q _ h => hFc q h) hFc (fun u1 t H1 locs ht hvm hw hB hz1 hk1 hS => ?_)
  obtain ⟨hP1, hK1, hD1⟩ := hB
  rw [ht] at hP1
  obtain ⟨hP, hD⟩ := va_join (wr := [(h0, .inr (5, [.null]))]) (w1 := [(q1, .inr (9, [.ref (u1 1), .ref (u1 2), .int 0])), ((u1 1), .inl (cy 1, 100, .inl (fun _ => 0))), ((u1 2), .inl (cy 0, 100, .inl (fun _ => 0)))]) hP hD [1] [0] rfl rfl (by decide) (by decide) hk1 hFc hP1 hD1
  clear hP1 hK1 hD1 hPc hDc hFc hk1
  generalize H1 = H at hP hS ⊢
  generalize (u1 1) = q2 at hP hD ⊢
  generalize (u1 2) = q3 at hP hD ⊢
  have hP : va_P D vwCl [(h0, .inr (5, [.null])), (q1, .inr (9, [.ref q2, .ref q3, .int 0])), (q2, .inl (cy 1, 100, .inl (fun _ => 0))), (q3, .inl (cy 0, 100, .inl (fun _ => 0)))] H := hP
  have hD : va_D A [(h0, .inr (5, [.null])), (q1, .inr (9, [.ref q2, .ref q3, .int 0])), (q2, .inl (cy 1, 100, .inl (fun _ => 0))), (q3, .inl (cy 0, 100, .inl (fun _ => 0)))] := hD
  refine va_putF (D := D) (ci := 5) (v := .ref q1) (ty := .object "PavedYards$Wave") (C := RX5) (T := TX5) (N := 1) hx hb hts iw_5 tyX5 tyX5_ok nmX5 hown hK hP hD hS 0 rfl rfl 0 (by decide) (hts (.fieldLink RX5 12 "PavedYards$Shape" "wave" "LPavedYards$Wave;") (in_1 (i := 188) rfl rfl)) (fun _ h9 => h9) rfl hin rfl rfl rfl rfl (Nat.le_of_ble_eq_true rfl) dX5_init_12 (fun H locs hP hD hS => ?_)
  have hP : va_P D vwCl [(h0, .inr (5, [.ref q1])), (q1, .inr (9, [.ref q2, .ref q3, .int 0])), (q2, .inl (cy 1, 100, .inl (fun _ => 0))), (q3, .inl (cy 0, 100, .inl (fun _ => 0)))] H := hP
  have hD : va_D A [(h0, .inr (5, [.ref q1])), (q1, .inr (9, [.ref q2, .ref q3, .int 0])), (q2, .inl (cy 1, 100, .inl (fun _ => 0))), (q3, .inl (cy 0, 100, .inl (fun _ => 0)))] := hD
  have hP9 := hP
  have hD9 := hD
  exact W.vret hx hb hr (fun t ht hW => ⟨⟨(fun k => ([h0, q1, q2, q3] : List Nat).getD k 0), rfl, trivial, by rw [ht]; exact hP9, va_K.moved hW.alike hK, hD9⟩, hS.F ht⟩) hS.2.2 dX5_init_15

set_option maxHeartbeats 4000000 in
set_option maxRecDepth 100000 in
theorem ci_X1_init (l : Launch) (D : va_G) (cy : Nat → ClassId) (h0 : Nat) (sz : Nat) : Met l yX1_init (wsY yX1_init cX1_init 1 none) (rmI 2 5 365) (va_Pc [.ref h0] (KIp D cy [(h0, .inr (1, [.null, .null, .null]))] sz)) (va_Qv (S := Nat → Nat) (fun _ => True) (fun u t => va_P D vwCl [(h0, .inr (1, [.ref (u 1), .ref (u 2), .ref (u 3)])), ((u 1), .inl (cy 0, 81, .inl (fun _ => 0))), ((u 2), .inl (cy 0, 81, .inl (fun _ => 0))), ((u 3), .inr (9, [.ref (u 4), .ref (u 5), .int 0])), ((u 4), .inl (cy 1, 100, .inl (fun _ => 0))), ((u 5), .inl (cy 0, 100, .inl (fun _ => 0)))] t.heap ∧ va_K D vwCl (tysL cy) t ∧ va_D (va_A [(h0, .inr (1, [.null, .null, .null]))] sz) [(h0, .inr (1, [.ref (u 1), .ref (u 2), .ref (u 3)])), ((u 1), .inl (cy 0, 81, .inl (fun _ => 0))), ((u 2), .inl (cy 0, 81, .inl (fun _ => 0))), ((u 3), .inr (9, [.ref (u 4), .ref (u 5), .int 0])), ((u 4), .inl (cy 1, 100, .inl (fun _ => 0))), ((u 5), .inl (cy 0, 100, .inl (fun _ => 0)))]) (va_A [(h0, .inr (1, [.null, .null, .null]))] sz)) 5 365 (va_A [(h0, .inr (1, [.null, .null, .null]))] sz) := by
  refine Met.ofW (cc := cX1_init) (maxL := 1) (ret := none) (by decide +kernel) rfl ?_
  intro p e s m args below meth c s₁ B hml hv
  obtain ⟨rfl, hsz, hP, hK, hNW, hAO3, hAO4, hD0⟩ := hv
  have hx := B.exec
  have hb := B.bytes
  have hr := B.returns
  have hts : ∀ w ∈ gtb, w.before _ s = true := fun w hw => atoms_spec (ws := wsY yX1_init cX1_init 1 none) B.pre w (List.mem_cons_of_mem _ hw)
  have hts : ∀ (w : Cond), w ∈ gtb → w.before _ s = true := hts
  have hown : s.vm.findClass RX1 = some m.cls := findClass_of_methodNamed B.named
  have hlocks := B.notSynchronized
  have hin : meth.name = "<init>" := (name_of_methodNamed B.named B.method).1
  subst hsz
  have hD := hD0.self (sz := s.heap.size)
  generalize hAe : va_A [(h0, .inr (1, [.null, .null, .null]))] s.heap.size = A at hD ⊢
  have hA : ∀ q : Nat, s.heap.size ≤ q → A q := fun q h => by rw [← hAe]; exact Or.inr h
  have hS : va_S A s.heap s.heap [] := va_S.rf
  have hP : va_P D vwCl [(h0, .inr (1, [.null, .null, .null]))] s.heap := hP
  have hl := lv_entry ([.ref h0]) (n := 1) (Nat.le_of_ble_eq_true rfl)
  rw [lg_entry_eq]
  generalize (lg_sl ([.ref h0]) ++ List.replicate (1 - (lg_sl ([.ref h0])).length) Slot.unset).toArray = ls at hl ⊢
  have hl : lv_has ls 1 [(0, .ref h0)] := hl
  refine lv_aload_n hx hb dX1_init_0 rfl (lv_at hl 0 rfl) ?_
  refine W.objInit hx hb hown (hts (.methodLink RX1 3 objectInit) (in_1 (i := 197) rfl rfl)) (hts (.instanceMethod objectInit) (in_1 (i := 23) rfl rfl)) (hts (.code objectInit ⟨#[0xb1]⟩ 1 none) (in_1 (i := 24) rfl rfl)) rfl (by rw [hml]; exact hl.1) rfl dX1_init_1 (Nat.le_of_ble_eq_true rfl) (Nat.le_of_ble_eq_true rfl) ?_
  refine W.eq (g2 := F0 m 4 _ []) rfl ?_
  refine lv_aload_n hx hb dX1_init_4 rfl (lv_at hl 0 rfl) ?_
  refine lv_bipush (v := 81) hx hb dX1_init_5 (by decide) ?_
  refine va_newa (atype := .int) (a0 := (81, .inl (fun _ => 0))) (N' := 81) hx hb (hts (.arrayClass .int) ac_int) (ty := .int) rfl hK hP hD hS hA (vz_int 81) (by decide) (by decide) (by decide) (Nat.le_of_ble_eq_true rfl) (Nat.le_of_ble_eq_true rfl) dX1_init_7 (fun q1 cA H hK9 hP hD hS => ?_)
  obtain rfl : cA = cy 0 := arr_int hK hK9
  clear hK9
  have hP : va_P D vwCl [(h0, .inr (1, [.null, .null, .null])), (q1, .inl (cy 0, 81, .inl (fun _ => 0)))] H := hP
  have hD : va_D A [(h0, .inr (1, [.null, .null, .null])), (q1, .inl (cy 0, 81, .inl (fun _ => 0)))] := hD
  refine va_putF (D := D) (ci := 1) (v := .ref q1) (ty := .array .int) (C := RX1) (T := TX1) (N := 3) hx hb hts iw_1 tyX1 tyX1_ok nmX1 hown hK hP hD hS 0 rfl rfl 0 (by decide) (hts (.fieldLink RX1 9 "PavedYards$Heights" "first" "[I") (in_1 (i := 200) rfl rfl)) (fun _ h9 => h9) rfl hin rfl rfl rfl rfl (Nat.le_of_ble_eq_true rfl) dX1_init_9 (fun H locs hP hD hS => ?_)
  have hP : va_P D vwCl [(h0, .inr (1, [.ref q1, .null, .null])), (q1, .inl (cy 0, 81, .inl (fun _ => 0)))] H := hP
  have hD : va_D A [(h0, .inr (1, [.ref q1, .null, .null])), (q1, .inl (cy 0, 81, .inl (fun _ => 0)))] := hD
  refine lv_aload_n hx hb dX1_init_12 rfl (lv_at hl 0 rfl) ?_
  refine lv_bipush (v := 81) hx hb dX1_init_13 (by decide) ?_
  refine va_newa (atype := .int) (a0 := (81, .inl (fun _ => 0))) (N' := 81) hx hb (hts (.arrayClass .int) ac_int) (ty := .int) rfl hK hP hD hS hA (vz_int 81) (by decide) (by decide) (by decide) (Nat.le_of_ble_eq_true rfl) (Nat.le_of_ble_eq_true rfl) dX1_init_15 (fun q2 cA H hK9 hP hD hS => ?_)
  obtain rfl : cA = cy 0 := arr_int hK hK9
  clear hK9
  have hP : va_P D vwCl [(h0, .inr (1, [.ref q1, .null, .null])), (q1, .inl (cy 0, 81, .inl (fun _ => 0))), (q2, .inl (cy 0, 81, .inl (fun _ => 0)))] H := hP
  have hD : va_D A [(h0, .inr (1, [.ref q1, .null, .null])), (q1, .inl (cy 0, 81, .inl (fun _ => 0))), (q2, .inl (cy 0, 81, .inl (fun _ => 0)))] := hD
  refine va_putF (D := D) (ci := 1) (v := .ref q2) (ty := .array .int) (C := RX1) (T := TX1) (N := 3) hx hb hts iw_1 tyX1 tyX1_ok nmX1 hown hK hP hD hS 0 rfl rfl 1 (by decide) (hts (.fieldLink RX1 15 "PavedYards$Heights" "second" "[I") (in_1 (i := 202) rfl rfl)) (fun _ h9 => h9) rfl hin rfl rfl rfl rfl (Nat.le_of_ble_eq_true rfl) dX1_init_17 (fun H locs hP hD hS => ?_)
  have hP : va_P D vwCl [(h0, .inr (1, [.ref q1, .ref q2, .null])), (q1, .inl (cy 0, 81, .inl (fun _ => 0))), (q2, .inl (cy 0, 81, .inl (fun _ => 0)))] H := hP
  have hD : va_D A [(h0, .inr (1, [.ref q1, .ref q2, .null])), (q1, .inl (cy 0, 81, .inl (fun _ => 0))), (q2, .inl (cy 0, 81, .inl (fun _ => 0)))] := hD
  refine lv_aload_n hx hb dX1_init_20 rfl (lv_at hl 0 rfl) ?_
  refine va_new (ci := 9) (fs := [.null, .null, .int 0]) (C := RX9) (T := TX9) (N := 3) hx hb hts iw_9 tyX9 tyX9_ok hown (hts (.classLink RX1 18 RX9) (in_1 (i := 198) rfl rfl)) (hts (.instantiable RX9 3) (in_1 (i := 145) rfl rfl)) (hts (.initialized RX9) (in_1 (i := 7) rfl rfl)) hK hP hD hS hA rfl (fun j hj => by rcases (show j = 0 ∨ j = 1 ∨ j = 2 by omega) with rfl | rfl | rfl <;> rfl) (Nat.le_of_ble_eq_true rfl) (Nat.le_of_ble_eq_true rfl) dX1_init_21 (fun q3 H hP hD hS => ?_)
  have hP : va_P D vwCl [(h0, .inr (1, [.ref q1, .ref q2, .null])), (q1, .inl (cy 0, 81, .inl (fun _ => 0))), (q2, .inl (cy 0, 81, .inl (fun _ => 0))), (q3, .inr (9, [.null, .null, .int 0]))] H := hP
  have hD : va_D A [(h0, .inr (1, [.ref q1, .ref q2, .null])), (q1, .inl (cy 0, 81, .inl (fun _ => 0))), (q2, .inl (cy 0, 81, .inl (fun _ => 0))), (q3, .inr (9, [.null, .null, .int 0]))] := hD
  refine lv_dup hx hb dX1_init_24 rfl ?_
  have hPc := hP.sub (ws' := [(q3, .inr (9, [.null, .null, .int 0]))]) [3] rfl
  have hDc := hD.sub (ws' := [(q3, .inr (9, [.null, .null, .int 0]))]) [3] (by decide) rfl
  have hFc := va_free (wc := [(q3, .inr (9, [.null, .null, .int 0]))]) hD hS hA [3] rfl
  refine va_callv (va_runIN (As := []) (rest := [.ref q3, .ref h0]) ⟨hx, hb, hml, hown, hts⟩ (ci_X9_init l D cy q3 H.size) (show va_CN _ s _ RX1 20 yX9_init "PavedYards" cX9_init 1 none (wsY yX9_init cX9_init 1 none) (rmI 1 2 200) 2 200 0 ∧ yX9_init.name = "<init>" ∧ (Cond.instanceMethod yX9_init).before _ s = true from ⟨va_cnB 0 hts (ws_good (in_1 (i := 148) rfl rfl)) rfl rfl rfl (hNW (RX1, 20, yX9_init, "PavedYards") (by decide +kernel)) (hts (.initialized yX9_init.cls) (in_1 (i := 7) rfl rfl)) (by decide +kernel) ⟨Nat.le_of_ble_eq_true rfl, Nat.le_of_ble_eq_true rfl⟩, rfl, hts (.instanceMethod yX9_init) (in_1 (i := 147) rfl rfl)⟩) ⟨fun a U g mk q => KI_blind q, fun U hU hW => ⟨rfl, by rw [hU], by rw [hU]; exact hPc, va_K.moved hW.alike hK, hNW.warm hW, va_AO.moved hW.alike hAO3, va_AO.moved hW.alike hAO4, hDc.weaken (fun _ _ _ _ => trivial)⟩⟩ rfl rfl hl.1 rfl (lv_room (Nat.le_of_ble_eq_true rfl)) dX1_init_25 ⟨Nat.le_of_ble_eq_true rfl, Nat.le_of_ble_eq_true rfl⟩) hS (fun q _ h => hFc q h) hFc (fun u1 t H1 locs ht hvm hw hB hz1 hk1 hS => ?_)
  obtain ⟨hP1, hK1, hD1⟩ := hB
  rw [ht] at hP1
  obtain ⟨hP, hD⟩ := va_join (wr := [(h0, .inr (1, [.ref q1, .ref q2, .null])), (q1, .inl (cy 0, 81, .inl (fun _ => 0))), (q2, .inl (cy 0, 81, .inl (fun _ => 0)))]) (w1 := [(q3, .inr (9, [.ref (u1 1), .ref (u1 2), .int 0])), ((u1 1), .inl (cy 1, 100, .inl (fun _ => 0))), ((u1 2), .inl (cy 0, 100, .inl (fun _ => 0)))]) hP hD [3] [0, 1, 2] rfl rfl (by decide) (by decide) hk1 hFc hP1 hD1
  clear hP1 hK1 hD1 hPc hDc hFc hk1
  generalize H1 = H at hP hS ⊢
  generalize (u1 1) = q4 at hP hD ⊢
  generalize (u1 2) = q5 at hP hD ⊢
  have hP : va_P D vwCl [(h0, .inr (1, [.ref q1, .ref q2, .null])), (q1, .inl (cy 0, 81, .inl (fun _ => 0))), (q2, .inl (cy 0, 81, .inl (fun _ => 0))), (q3, .inr (9, [.ref q4, .ref q5, .int 0])), (q4, .inl (cy 1, 100, .inl (fun _ => 0))), (q5, .inl (cy 0, 100, .inl (fun _ => 0)))] H := hP
  have hD : va_D A [(h0, .inr (1, [.ref q1, .ref q2, .null])), (q1, .inl (cy 0, 81, .inl (fun _ => 0))), (q2, .inl (cy 0, 81, .inl (fun _ => 0))), (q3, .inr (9, [.ref q4, .ref q5, .int 0])), (q4, .inl (cy 1, 100, .inl (fun _ => 0))), (q5, .inl (cy 0, 100, .inl (fun _ => 0)))] := hD
  refine va_putF (D := D) (ci := 1) (v := .ref q3) (ty := .object "PavedYards$Wave") (C := RX1) (T := TX1) (N := 3) hx hb hts iw_1 tyX1 tyX1_ok nmX1 hown hK hP hD hS 0 rfl rfl 2 (by decide) (hts (.fieldLink RX1 21 "PavedYards$Heights" "wave" "LPavedYards$Wave;") (in_1 (i := 203) rfl rfl)) (fun _ h9 => h9) rfl hin rfl rfl rfl rfl (Nat.le_of_ble_eq_true rfl) dX1_init_28 (fun H locs hP hD hS => ?_)
  have hP : va_P D vwCl [(h0, .inr (1, [.ref q1, .ref q2, .ref q3])), (q1, .inl (cy 0, 81, .inl (fun _ => 0))), (q2, .inl (cy 0, 81, .inl (fun _ => 0))), (q3, .inr (9, [.ref q4, .ref q5, .int 0])), (q4, .inl (cy 1, 100, .inl (fun _ => 0))), (q5, .inl (cy 0, 100, .inl (fun _ => 0)))] H := hP
  have hD : va_D A [(h0, .inr (1, [.ref q1, .ref q2, .ref q3])), (q1, .inl (cy 0, 81, .inl (fun _ => 0))), (q2, .inl (cy 0, 81, .inl (fun _ => 0))), (q3, .inr (9, [.ref q4, .ref q5, .int 0])), (q4, .inl (cy 1, 100, .inl (fun _ => 0))), (q5, .inl (cy 0, 100, .inl (fun _ => 0)))] := hD
  have hP9 := hP
  have hD9 := hD
  exact W.vret hx hb hr (fun t ht hW => ⟨⟨(fun k => ([h0, q1, q2, q3, q4, q5] : List Nat).getD k 0), rfl, trivial, by rw [ht]; exact hP9, va_K.moved hW.alike hK, hD9⟩, hS.F ht⟩) hS.2.2 dX1_init_31

set_option maxHeartbeats 4000000 in
set_option maxRecDepth 100000 in
theorem ci_X10_init (l : Launch) (D : va_G) (cy : Nat → ClassId) (h0 : Nat) (sz : Nat) : Met l yX10_init (wsY yX10_init cX10_init 2 none) (rmI 1 3 320) (va_Pc [.ref h0] (KIp D cy [(h0, .inr (10, [.int 0, .int 0, .null, .null, .null]))] sz)) (va_Qv (S := Nat → Nat) (fun _ => True) (fun u t => va_P D vwCl [(h0, .inr (10, [.int 4, .int 4, .ref (u 1), .ref (u 2), .ref (u 3)])), ((u 1), .inl (cy 1, 64, .inl (fun _ => 1))), ((u 2), .inl (cy 0, 128, .inl (fun _ => 0))), ((u 3), .inl (cy 0, 128, .inl (fun _ => 0)))] t.heap ∧ va_K D vwCl (tysL cy) t ∧ va_D (va_A [(h0, .inr (10, [.int 0, .int 0, .null, .null, .null]))] sz) [(h0, .inr (10, [.int 4, .int 4, .ref (u 1), .ref (u 2), .ref (u 3)])), ((u 1), .inl (cy 1, 64, .inl (fun _ => 1))), ((u 2), .inl (cy 0, 128, .inl (fun _ => 0))), ((u 3), .inl (cy 0, 128, .inl (fun _ => 0)))]) (va_A [(h0, .inr (10, [.int 0, .int 0, .null, .null, .null]))] sz)) 3 320 (va_A [(h0, .inr (10, [.int 0, .int 0, .null, .null, .null]))] sz) := by
  refine Met.ofW (cc := cX10_init) (maxL := 2) (ret := none) (by decide +kernel) rfl ?_
  intro p e s m args below meth c s₁ B hml hv
  obtain ⟨rfl, hsz, hP, hK, hNW, hAO3, hAO4, hD0⟩ := hv
  have hx := B.exec
  have hb := B.bytes
  have hr := B.returns
  have hts : ∀ w ∈ gtb, w.before _ s = true := fun w hw => atoms_spec (ws := wsY yX10_init cX10_init 2 none) B.pre w (List.mem_cons_of_mem _ hw)
  have hts : ∀ (w : Cond), w ∈ gtb → w.before _ s = true := hts
  have hown : s.vm.findClass RX10 = some m.cls := findClass_of_methodNamed B.named
  have hlocks := B.notSynchronized
  have hin : meth.name = "<init>" := (name_of_methodNamed B.named B.method).1
  subst hsz
  have hD := hD0.self (sz := s.heap.size)
  generalize hAe : va_A [(h0, .inr (10, [.int 0, .int 0, .null, .null, .null]))] s.heap.size = A at hD ⊢
  have hA : ∀ q : Nat, s.heap.size ≤ q → A q := fun q h => by rw [← hAe]; exact Or.inr h
  have hS : va_S A s.heap s.heap [] := va_S.rf
  have hP : va_P D vwCl [(h0, .inr (10, [.int 0, .int 0, .null, .null, .null]))] s.heap := hP
  have hl := lv_entry ([.ref h0]) (n := 2) (Nat.le_of_ble_eq_true rfl)
  rw [lg_entry_eq]
  generalize (lg_sl ([.ref h0]) ++ List.replicate (2 - (lg_sl ([.ref h0])).length) Slot.unset).toArray = ls at hl ⊢
  have hl : lv_has ls 2 [(0, .ref h0)] := hl
  refine lv_aload_n hx hb dX10_init_0 rfl (lv_at hl 0 rfl) ?_
  refine W.objInit hx hb hown (hts (.methodLink RX10 3 objectInit) (in_1 (i := 30) rfl rfl)) (hts (.instanceMethod objectInit) (in_1 (i := 23) rfl rfl)) (hts (.code objectInit ⟨#[0xb1]⟩ 1 none) (in_1 (i := 24) rfl rfl)) rfl (by rw [hml]; exact hl.1) rfl dX10_init_1 (Nat.le_of_ble_eq_true rfl) (Nat.le_of_ble_eq_true rfl) ?_
  refine W.eq (g2 := F0 m 4 _ []) rfl ?_
  refine lv_aload_n hx hb dX10_init_4 rfl (lv_at hl 0 rfl) ?_
  refine lv_bipush (v := 64) hx hb dX10_init_5 (by decide) ?_
  refine va_newa (atype := .boolean) (a0 := (64, .inl (fun _ => 0))) (N' := 64) hx hb (hts (.arrayClass .boolean) ac_boolean) (ty := .boolean) rfl hK hP hD hS hA (vz_boolean 64) (by decide) (by decide) (by decide) (Nat.le_of_ble_eq_true rfl) (Nat.le_of_ble_eq_true rfl) dX10_init_7 (fun q1 cA H hK9 hP hD hS => ?_)
  obtain rfl : cA = cy 1 := arr_boolean hK hK9
  clear hK9
  have hP : va_P D vwCl [(h0, .inr (10, [.int 0, .int 0, .null, .null, .null])), (q1, .inl (cy 1, 64, .inl (fun _ => 0)))] H := hP
  have hD : va_D A [(h0, .inr (10, [.int 0, .int 0, .null, .null, .null])), (q1, .inl (cy 1, 64, .inl (fun _ => 0)))] := hD
  refine va_putF (D := D) (ci := 10) (v := .ref q1) (ty := .array .boolean) (C := RX10) (T := TX10) (N := 5) hx hb hts iw_10 tyX10 tyX10_ok nmX10 hown hK hP hD hS 0 rfl rfl 2 (by decide) (hts (.fieldLink RX10 9 "PavedYards$Yard" "open" "[Z") (in_1 (i := 43) rfl rfl)) (fun _ h9 => h9) rfl hin rfl rfl rfl rfl (Nat.le_of_ble_eq_true rfl) dX10_init_9 (fun H locs hP hD hS => ?_)
  have hP : va_P D vwCl [(h0, .inr (10, [.int 0, .int 0, .ref q1, .null, .null])), (q1, .inl (cy 1, 64, .inl (fun _ => 0)))] H := hP
  have hD : va_D A [(h0, .inr (10, [.int 0, .int 0, .ref q1, .null, .null])), (q1, .inl (cy 1, 64, .inl (fun _ => 0)))] := hD
  refine lv_aload_n hx hb dX10_init_12 rfl (lv_at hl 0 rfl) ?_
  refine lv_sipush (v := 128) hx hb dX10_init_13 (by decide) ?_
  refine va_newa (atype := .int) (a0 := (128, .inl (fun _ => 0))) (N' := 128) hx hb (hts (.arrayClass .int) ac_int) (ty := .int) rfl hK hP hD hS hA (vz_int 128) (by decide) (by decide) (by decide) (Nat.le_of_ble_eq_true rfl) (Nat.le_of_ble_eq_true rfl) dX10_init_16 (fun q2 cA H hK9 hP hD hS => ?_)
  obtain rfl : cA = cy 0 := arr_int hK hK9
  clear hK9
  have hP : va_P D vwCl [(h0, .inr (10, [.int 0, .int 0, .ref q1, .null, .null])), (q1, .inl (cy 1, 64, .inl (fun _ => 0))), (q2, .inl (cy 0, 128, .inl (fun _ => 0)))] H := hP
  have hD : va_D A [(h0, .inr (10, [.int 0, .int 0, .ref q1, .null, .null])), (q1, .inl (cy 1, 64, .inl (fun _ => 0))), (q2, .inl (cy 0, 128, .inl (fun _ => 0)))] := hD
  refine va_putF (D := D) (ci := 10) (v := .ref q2) (ty := .array .int) (C := RX10) (T := TX10) (N := 5) hx hb hts iw_10 tyX10 tyX10_ok nmX10 hown hK hP hD hS 0 rfl rfl 3 (by decide) (hts (.fieldLink RX10 15 "PavedYards$Yard" "want" "[I") (in_1 (i := 50) rfl rfl)) (fun _ h9 => h9) rfl hin rfl rfl rfl rfl (Nat.le_of_ble_eq_true rfl) dX10_init_18 (fun H locs hP hD hS => ?_)
  have hP : va_P D vwCl [(h0, .inr (10, [.int 0, .int 0, .ref q1, .ref q2, .null])), (q1, .inl (cy 1, 64, .inl (fun _ => 0))), (q2, .inl (cy 0, 128, .inl (fun _ => 0)))] H := hP
  have hD : va_D A [(h0, .inr (10, [.int 0, .int 0, .ref q1, .ref q2, .null])), (q1, .inl (cy 1, 64, .inl (fun _ => 0))), (q2, .inl (cy 0, 128, .inl (fun _ => 0)))] := hD
  refine lv_aload_n hx hb dX10_init_21 rfl (lv_at hl 0 rfl) ?_
  refine lv_sipush (v := 128) hx hb dX10_init_22 (by decide) ?_
  refine va_newa (atype := .int) (a0 := (128, .inl (fun _ => 0))) (N' := 128) hx hb (hts (.arrayClass .int) ac_int) (ty := .int) rfl hK hP hD hS hA (vz_int 128) (by decide) (by decide) (by decide) (Nat.le_of_ble_eq_true rfl) (Nat.le_of_ble_eq_true rfl) dX10_init_25 (fun q3 cA H hK9 hP hD hS => ?_)
  obtain rfl : cA = cy 0 := arr_int hK hK9
  clear hK9
  have hP : va_P D vwCl [(h0, .inr (10, [.int 0, .int 0, .ref q1, .ref q2, .null])), (q1, .inl (cy 1, 64, .inl (fun _ => 0))), (q2, .inl (cy 0, 128, .inl (fun _ => 0))), (q3, .inl (cy 0, 128, .inl (fun _ => 0)))] H := hP
  have hD : va_D A [(h0, .inr (10, [.int 0, .int 0, .ref q1, .ref q2, .null])), (q1, .inl (cy 1, 64, .inl (fun _ => 0))), (q2, .inl (cy 0, 128, .inl (fun _ => 0))), (q3, .inl (cy 0, 128, .inl (fun _ => 0)))] := hD
  refine va_putF (D := D) (ci := 10) (v := .ref q3) (ty := .array .int) (C := RX10) (T := TX10) (N := 5) hx hb hts iw_10 tyX10 tyX10_ok nmX10 hown hK hP hD hS 0 rfl rfl 4 (by decide) (hts (.fieldLink RX10 19 "PavedYards$Yard" "price" "[I") (in_1 (i := 53) rfl rfl)) (fun _ h9 => h9) rfl hin rfl rfl rfl rfl (Nat.le_of_ble_eq_true rfl) dX10_init_27 (fun H locs hP hD hS => ?_)
  have hP : va_P D vwCl [(h0, .inr (10, [.int 0, .int 0, .ref q1, .ref q2, .ref q3])), (q1, .inl (cy 1, 64, .inl (fun _ => 0))), (q2, .inl (cy 0, 128, .inl (fun _ => 0))), (q3, .inl (cy 0, 128, .inl (fun _ => 0)))] H := hP
  have hD : va_D A [(h0, .inr (10, [.int 0, .int 0, .ref q1, .ref q2, .ref q3])), (q1, .inl (cy 1, 64, .inl (fun _ => 0))), (q2, .inl (cy 0, 128, .inl (fun _ => 0))), (q3, .inl (cy 0, 128, .inl (fun _ => 0)))] := hD
  refine lv_aload_n hx hb dX10_init_30 rfl (lv_at hl 0 rfl) ?_
  refine lv_iconst (v := 4) hx hb dX10_init_31 (by decide) ?_
  refine va_put (D := D) (ci := 10) (v := .int 4) (ty := .int) (C := RX10) (T := TX10) (N := 5) hx hb hts iw_10 tyX10 tyX10_ok nmX10 hown hK hP hD hS 0 rfl rfl 0 (by decide) (hts (.fieldLink RX10 22 "PavedYards$Yard" "w" "I") (in_1 (i := 31) rfl rfl)) (fun _ h9 => h9) rfl rfl rfl rfl (Nat.le_of_ble_eq_true rfl) dX10_init_32 (fun H locs hP hD hS => ?_)
  have hP : va_P D vwCl [(h0, .inr (10, [.int 4, .int 0, .ref q1, .ref q2, .ref q3])), (q1, .inl (cy 1, 64, .inl (fun _ => 0))), (q2, .inl (cy 0, 128, .inl (fun _ => 0))), (q3, .inl (cy 0, 128, .inl (fun _ => 0)))] H := hP
  have hD : va_D A [(h0, .inr (10, [.int 4, .int 0, .ref q1, .ref q2, .ref q3])), (q1, .inl (cy 1, 64, .inl (fun _ => 0))), (q2, .inl (cy 0, 128, .inl (fun _ => 0))), (q3, .inl (cy 0, 128, .inl (fun _ => 0)))] := hD
  refine lv_aload_n hx hb dX10_init_35 rfl (lv_at hl 0 rfl) ?_
  refine lv_iconst (v := 4) hx hb dX10_init_36 (by decide) ?_
  refine va_put (D := D) (ci := 10) (v := .int 4) (ty := .int) (C := RX10) (T := TX10) (N := 5) hx hb hts iw_10 tyX10 tyX10_ok nmX10 hown hK hP hD hS 0 rfl rfl 1 (by decide) (hts (.fieldLink RX10 26 "PavedYards$Yard" "h" "I") (in_1 (i := 38) rfl rfl)) (fun _ h9 => h9) rfl rfl rfl rfl (Nat.le_of_ble_eq_true rfl) dX10_init_37 (fun H locs hP hD hS => ?_)
  have hP : va_P D vwCl [(h0, .inr (10, [.int 4, .int 4, .ref q1, .ref q2, .ref q3])), (q1, .inl (cy 1, 64, .inl (fun _ => 0))), (q2, .inl (cy 0, 128, .inl (fun _ => 0))), (q3, .inl (cy 0, 128, .inl (fun _ => 0)))] H := hP
  have hD : va_D A [(h0, .inr (10, [.int 4, .int 4, .ref q1, .ref q2, .ref q3])), (q1, .inl (cy 1, 64, .inl (fun _ => 0))), (q2, .inl (cy 0, 128, .inl (fun _ => 0))), (q3, .inl (cy 0, 128, .inl (fun _ => 0)))] := hD
  refine lv_iconst (v := 0) hx hb dX10_init_40 (by decide) ?_
  refine lv_istore_n (lv' := [(1, .int 0), (0, .ref h0)]) hx hb dX10_init_41 rfl hl (by decide) rfl (fun ls hl => ?_)
  have loop : ∀ (n i : Nat) (f : Nat → Int32) (H : Heap) (locs : List Loc) (ls : Array Slot), i + n = 64 → (∀ j, j < i → f j = 1) → va_P D vwCl [(h0, .inr (10, [.int 4, .int 4, .ref q1, .ref q2, .ref q3])), (q1, .inl (cy 1, 64, .inl f)), (q2, .inl (cy 0, 128, .inl (fun _ => 0))), (q3, .inl (cy 0, 128, .inl (fun _ => 0)))] H → va_D A [(h0, .inr (10, [.int 4, .int 4, .ref q1, .ref q2, .ref q3])), (q1, .inl (cy 1, 64, .inl f)), (q2, .inl (cy 0, 128, .inl (fun _ => 0))), (q3, .inl (cy 0, 128, .inl (fun _ => 0)))] → va_S A s.heap H locs → lv_has ls 2 [(1, .int (nI i)), (0, .ref h0)] → W p l e (headSpec (wsY yX10_init cX10_init 2 none) (rmI 1 3 320)).room s m (List.toArray [Value.ref h0]) below meth c H locs 3 320 (MQ below (va_Qv (S := Nat → Nat) (fun _ => True) (fun u t => va_P D vwCl [(h0, .inr (10, [.int 4, .int 4, .ref (u 1), .ref (u 2), .ref (u 3)])), ((u 1), .inl (cy 1, 64, .inl (fun _ => 1))), ((u 2), .inl (cy 0, 128, .inl (fun _ => 0))), ((u 3), .inl (cy 0, 128, .inl (fun _ => 0)))] t.heap ∧ va_K D vwCl (tysL cy) t ∧ va_D A [(h0, .inr (10, [.int 4, .int 4, .ref (u 1), .ref (u 2), .ref (u 3)])), ((u 1), .inl (cy 1, 64, .inl (fun _ => 1))), ((u 2), .inl (cy 0, 128, .inl (fun _ => 0))), ((u 3), .inl (cy 0, 128, .inl (fun _ => 0)))]) A) (List.toArray [Value.ref h0]) s 3 320 A) (F0 m 42 ls []) := by
    intro n
    induction n with
    | zero =>
      intro i f H locs ls hi hf hP hD hS hl
      have hi : i = 64 := by omega
      subst hi
      refine lv_iload_n hx hb dX10_init_42 rfl (lv_at hl 0 rfl) ?_
      refine lv_bipush (v := 64) hx hb dX10_init_43 (by decide) ?_
      refine lv_icmp_ge (tgt := 61) hx hb dX10_init_45 (by decide) (fun _ => ?_) (fun z9 => absurd (by decide) z9)
      have hP9 := va_P_ext (g := fun _ => 1) hP (k := 1) rfl (fun j hj => hf j hj)
      have hD9 := hD.set (p := 1) (e := .inl (cy 1, 64, .inl (fun _ => 1))) rfl
      exact W.vret hx hb hr (fun t ht hW => ⟨⟨(fun k => ([h0, q1, q2, q3] : List Nat).getD k 0), rfl, trivial, by rw [ht]; exact hP9, va_K.moved hW.alike hK, hD9⟩, hS.F ht⟩) hS.2.2 dX10_init_61
    | succ n ih =>
      intro i f H locs ls hi hf hP hD hS hl
      refine lv_iload_n hx hb dX10_init_42 rfl (lv_at hl 0 rfl) ?_
      refine lv_bipush (v := 64) hx hb dX10_init_43 (by decide) ?_
      refine lv_icmp_ge (tgt := 61) hx hb dX10_init_45 (by decide) (fun z9 => absurd z9 (nI_ge (a := i) (b := 64) (by omega) (by decide))) (fun _ => ?_)
      refine lv_aload_n hx hb dX10_init_48 rfl (lv_at hl 1 rfl) ?_
      refine va_get (D := D) (ci := 10) (v := .ref q1) (C := RX10) (T := TX10) (N := 5) hx hb hts iw_10 hown hK hP 0 rfl rfl 2 (by decide) (hts (.fieldLink RX10 9 "PavedYards$Yard" "open" "[Z") (in_1 (i := 43) rfl rfl)) (fun _ h9 => h9) rfl dX10_init_49 ?_
      refine lv_iload_n hx hb dX10_init_52 rfl (lv_at hl 0 rfl) ?_
      refine lv_iconst (v := 1) hx hb dX10_init_53 (by decide) ?_
      refine va_zast hx hb hK hP hD hS 1 1 rfl rfl (vp_in_nI (by omega) (by decide)) dX10_init_54 (fun H locs hP hD hS => ?_)
      refine lv_iinc (v := nI (i + 1)) (lv' := [(1, .int (nI (i + 1))), (0, .ref h0)]) hx hb dX10_init_55 hl (k := 0) rfl (nI_succ i).symm (by decide) rfl (fun ls hl => ?_)
      refine lv_goto (tgt := 42) hx hb dX10_init_58 (by decide) ?_
      refine ih (i + 1) (upd f (nI i).toNatClampNeg (vp_nar .boolean 1)) H locs ls (by omega) ?_ hP hD hS hl
      intro j hj
      rw [nI_clamp (by omega)]
      unfold upd
      by_cases e : j = i
      · rw [if_pos e]; rfl
      · rw [if_neg e]; exact hf j (by omega)
  exact loop 64 0 (fun _ => 0) _ _ _ rfl (fun j hj => absurd hj (by omega)) hP hD hS hl

