/-! rows of fields and arrays -/
def FL (own : String) (idx ci j : Nat) : Prop := ∃ (C : String) (T : u_T) (N : Nat), vwCl[ci]? = some (C, T, N) ∧ j < N ∧ nfq ci = N ∧ (∀ w ∈ u_ws C T N, w ∈ gtb) ∧ Cond.fieldLink own idx (T j).1 (T j).2.1 (T j).2.2.1 ∈ gtb
def FP (own : String) (idx ci j : Nat) (ty : FieldType) : Prop := ∃ (C : String) (T : u_T) (N : Nat) (ty0 : Nat → FieldType), vwCl[ci]? = some (C, T, N) ∧ j < N ∧ nfq ci = N ∧ (∀ w ∈ u_ws C T N, w ∈ gtb) ∧ Cond.fieldLink own idx (T j).1 (T j).2.1 (T j).2.2.1 ∈ gtb ∧ (∀ k, k < N → parseFieldDescriptor (T k).2.2.1 = some (ty0 k)) ∧ (∀ a, a < N → ∀ b, b < N → a ≠ b → (T a).2.1 ≠ (T b).2.1) ∧ (T j).2.2.2 = false ∧ parseFieldDescriptor (T j).2.2.1 = some ty
theorem ly_t {k t : Nat} (h : (ly k).1 = t) : ly k = (t, (ly k).2) := by rw [← h]
theorem ly_ok : ∀ k, k < NC → (ly k).1 < 18 := by decide +kernel
theorem ly_NC {k ci : Nat} (h : (ly k).1 = ci + 5) (hc : ci < 13) : k < NC := ly_lt (ly_t h) (by omega)
theorem FL.ci {own : String} {idx ci j : Nat} (h : FL own idx ci j) : ci < 13 := by
  obtain ⟨C, T, N, h1, -⟩ := h
  exact (List.getElem?_eq_some_iff.mp h1).1
theorem FP.ci {own : String} {idx ci j : Nat} {ty : FieldType} (h : FP own idx ci j ty) : ci < 13 := by
  obtain ⟨C, T, N, ty0, h1, -⟩ := h
  exact (List.getElem?_eq_some_iff.mp h1).1
theorem wld_obj {ad : Nat → Nat} {cy : Nat → ClassId} {M : Mem} {k ci : Nat} (hk : (ly k).1 = ci + 5) (hc : ci < 13) : (wld ad cy M)[k]? = some (ad k, .inr (ci, flds ad M k ci)) := by
  rw [wld_at (ly_NC hk hc), cE_obj (ly_t hk)]
theorem wld_int {ad : Nat → Nat} {cy : Nat → ClassId} {M : Mem} {k t n : Nat} (hk : ly k = (t, n)) (ht : t < 2) : (wld ad cy M)[k]? = some (ad k, .inl (cy t, n, .inl (fun j => Int32.ofInt (gI M k (j : Int))))) := by
  rw [wld_at (ly_lt hk (by omega)), cE_int hk ht]
theorem wld_long {ad : Nat → Nat} {cy : Nat → ClassId} {M : Mem} {k n : Nat} (hk : ly k = (2, n)) : (wld ad cy M)[k]? = some (ad k, .inl (cy 2, n, .inr (.inl (fun j => gL M k (j : Int))))) := by
  rw [wld_at (ly_lt hk (by omega)), cE_long hk]
theorem wld_ref {ad : Nat → Nat} {cy : Nat → ClassId} {M : Mem} {k t n : Nat} (hk : ly k = (t, n)) (h1 : 2 < t) (h2 : t < 5) : (wld ad cy M)[k]? = some (ad k, .inl (cy t, n, .inr (.inr (.inr (.inr (fun j => (gR M k j).map ad)))))) := by
  rw [wld_at (ly_lt hk (by omega)), cE_ref hk h1 h2]
set_option maxRecDepth 10000 in
theorem r_getI {G : Gx} {n : Nat} {cc : ByteArray} {own : String} {nL pc : Nat} {lv : List (Nat × Mv)} {st : List Mv} {M : Mem} {k ci j idx : Nat} {jz : Int} (hd : decode cc pc = .ok (.getfield idx, 3)) (hf : FL own idx ci j) (hk : (ly k).1 = ci + 5) (hr : irq ci j = false) (hj : (j : Int) = jz) (kk : Ex G n cc own nL (pc + 3) lv (vI (gI M k jz) :: st) M) : Ex G n cc own nL pc lv (vR k :: st) M := by
  obtain ⟨⟨p, l, e, R⟩, ⟨s, m, args, below, meth, c⟩, ⟨cells, slots⟩, Q, D, cy, ad, A⟩ := G
  intro hF H locs ls hP hS hl
  have hx := hF.1
  have hb := hF.2.1
  subst hj
  have hw := wld_obj (ad := ad) (cy := cy) (M := M) hk hf.ci
  obtain ⟨C, T, N, h1, h2, h3, h4, h5⟩ := hf
  refine va_get hx hb hF.2.2.2.2.1 h4 hF.2.2.2.1 hF.2.2.2.2.2.1 hP k hw h1 j h2 (hF.2.2.2.2.1 _ h5) (fun _ q => q) (flds_at (by omega)) hd ?_
  have h9 := kk hF H locs ls hP hS hl
  unfold fv
  rw [if_neg (by rw [hr]; decide)]
  exact h9
set_option maxRecDepth 10000 in
theorem r_getR {G : Gx} {n : Nat} {cc : ByteArray} {own : String} {nL pc : Nat} {lv : List (Nat × Mv)} {st : List Mv} {M : Mem} {k ci j idx v : Nat} (hd : decode cc pc = .ok (.getfield idx, 3)) (hf : FL own idx ci j) (hk : (ly k).1 = ci + 5) (hr : irq ci j = true) (hv : gR M k j = some v) (kk : Ex G n cc own nL (pc + 3) lv (vR v :: st) M) : Ex G n cc own nL pc lv (vR k :: st) M := by
  obtain ⟨⟨p, l, e, R⟩, ⟨s, m, args, below, meth, c⟩, ⟨cells, slots⟩, Q, D, cy, ad, A⟩ := G
  intro hF H locs ls hP hS hl
  have hx := hF.1
  have hb := hF.2.1
  have hw := wld_obj (ad := ad) (cy := cy) (M := M) hk hf.ci
  obtain ⟨C, T, N, h1, h2, h3, h4, h5⟩ := hf
  refine va_get hx hb hF.2.2.2.2.1 h4 hF.2.2.2.1 hF.2.2.2.2.2.1 hP k hw h1 j h2 (hF.2.2.2.2.1 _ h5) (fun _ q => q) (flds_at (by omega)) hd ?_
  have h9 := kk hF H locs ls hP hS hl
  unfold fv
  rw [if_pos hr, hv]
  exact h9
set_option maxRecDepth 10000 in
theorem r_putI {G : Gx} {n : Nat} {cc : ByteArray} {own : String} {nL pc : Nat} {lv : List (Nat × Mv)} {st : List Mv} {M : Mem} {k ci j idx : Nat} {jz a : Int} {ty : FieldType} (hd : decode cc pc = .ok (.putfield idx, 3)) (hf : FP own idx ci j ty) (hk : (ly k).1 = ci + 5) (hr : irq ci j = false) (hn : narrow ty (.int (Int32.ofInt a)) = .int (Int32.ofInt a)) (hfit : fits ty (.int (Int32.ofInt a)) = true) (hj : (j : Int) = jz) (kk : Ex G n cc own nL (pc + 3) lv st (sI M k jz a)) : Ex G n cc own nL pc lv (vI a :: vR k :: st) M := by
  obtain ⟨⟨p, l, e, R⟩, ⟨s, m, args, below, meth, c⟩, ⟨cells, slots⟩, Q, D, cy, ad, A⟩ := G
  intro hF H locs ls hP hS hl
  have hx := hF.1
  have hb := hF.2.1
  subst hj
  have hw := wld_obj (ad := ad) (cy := cy) (M := M) hk hf.ci
  obtain ⟨C, T, N, ty0, h1, h2, h3, h4, h5, h6, h7, h8, h9⟩ := hf
  refine va_put hx hb hF.2.2.2.2.1 h4 ty0 h6 h7 hF.2.2.2.1 hF.2.2.2.2.2.1 hP (wld_D hF.2.2.2.2.2.2.2.1 hF.2.2.2.2.2.2.2.2) hS k hw h1 j h2 (hF.2.2.2.2.1 _ h5) (fun _ q => q) h8 h9 hn hfit (by rw [flds_len]; omega) hd (fun H1 locs1 hP1 hD1 hS1 => ?_)
  rw [show cv ad (vI a) = Value.int (Int32.ofInt a) from rfl, flds_sI hr, ← cE_obj (ad := ad) (cy := cy) (M := sI M k (j : Int) a) (ly_t hk), wld_set (fun i hi => cE_sI hi)] at hP1
  exact kk hF H1 locs1 ls hP1 hS1 hl
set_option maxRecDepth 10000 in
theorem r_putR {G : Gx} {n : Nat} {cc : ByteArray} {own : String} {nL pc : Nat} {lv : List (Nat × Mv)} {st : List Mv} {M : Mem} {k ci j idx v : Nat} {ty : FieldType} (hd : decode cc pc = .ok (.putfield idx, 3)) (hf : FP own idx ci j (.array ty)) (hk : (ly k).1 = ci + 5) (hr : irq ci j = true) (hdyn : dynR k j = true) (kk : Ex G n cc own nL (pc + 3) lv st (sR M k j v)) : Ex G n cc own nL pc lv (vR v :: vR k :: st) M := by
  obtain ⟨⟨p, l, e, R⟩, ⟨s, m, args, below, meth, c⟩, ⟨cells, slots⟩, Q, D, cy, ad, A⟩ := G
  intro hF H locs ls hP hS hl
  have hx := hF.1
  have hb := hF.2.1
  have hw := wld_obj (ad := ad) (cy := cy) (M := M) hk hf.ci
  obtain ⟨C, T, N, ty0, h1, h2, h3, h4, h5, h6, h7, h8, h9⟩ := hf
  refine va_put hx hb hF.2.2.2.2.1 h4 ty0 h6 h7 hF.2.2.2.1 hF.2.2.2.2.2.1 hP (wld_D hF.2.2.2.2.2.2.2.1 hF.2.2.2.2.2.2.2.2) hS k hw h1 j h2 (hF.2.2.2.2.1 _ h5) (fun _ q => q) h8 h9 rfl rfl (by rw [flds_len]; omega) hd (fun H1 locs1 hP1 hD1 hS1 => ?_)
  rw [show cv ad (vR v) = Value.ref (ad v) from rfl, flds_sR hr hdyn, ← cE_obj (ad := ad) (cy := cy) (M := sR M k j v) (ly_t hk), wld_set (fun i hi => cE_sR hi)] at hP1
  exact kk hF H1 locs1 ls hP1 hS1 hl
set_option maxRecDepth 10000 in
theorem r_iald {G : Gx} {n : Nat} {cc : ByteArray} {own : String} {nL pc : Nat} {lv : List (Nat × Mv)} {st : List Mv} {M : Mem} {k sz : Nat} {i : Int} (hd : decode cc pc = .ok (.iaload, 1)) (hk : ly k = (0, sz)) (hi : 0 ≤ wr i ∧ wr i < (sz : Int)) (kk : Ex G n cc own nL (pc + 1) lv (vI (gI M k (wr i)) :: st) M) : Ex G n cc own nL pc lv (vI i :: vR k :: st) M := by
  obtain ⟨⟨p, l, e, R⟩, ⟨s, m, args, below, meth, c⟩, ⟨cells, slots⟩, Q, D, cy, ad, A⟩ := G
  intro hF H locs ls hP hS hl
  have hx := hF.1
  have hb := hF.2.1
  refine va_iald hx hb hF.2.2.2.2.2.1 hP k 0 (wld_int hk (by decide)) rfl (oI_in hi) hd ?_
  rw [oI_cl hi.1]
  exact kk hF H locs ls hP hS hl
set_option maxRecDepth 10000 in
theorem r_zald {G : Gx} {n : Nat} {cc : ByteArray} {own : String} {nL pc : Nat} {lv : List (Nat × Mv)} {st : List Mv} {M : Mem} {k sz : Nat} {i : Int} (hd : decode cc pc = .ok (.baload, 1)) (hk : ly k = (1, sz)) (hi : 0 ≤ wr i ∧ wr i < (sz : Int)) (kk : Ex G n cc own nL (pc + 1) lv (vI (gI M k (wr i)) :: st) M) : Ex G n cc own nL pc lv (vI i :: vR k :: st) M := by
  obtain ⟨⟨p, l, e, R⟩, ⟨s, m, args, below, meth, c⟩, ⟨cells, slots⟩, Q, D, cy, ad, A⟩ := G
  intro hF H locs ls hP hS hl
  have hx := hF.1
  have hb := hF.2.1
  refine va_zald hx hb hF.2.2.2.2.2.1 hP k 1 (wld_int hk (by decide)) rfl (oI_in hi) hd ?_
  rw [oI_cl hi.1]
  exact kk hF H locs ls hP hS hl
set_option maxRecDepth 10000 in
theorem r_lald {G : Gx} {n : Nat} {cc : ByteArray} {own : String} {nL pc : Nat} {lv : List (Nat × Mv)} {st : List Mv} {M : Mem} {k sz : Nat} {i : Int} (hd : decode cc pc = .ok (.laload, 1)) (hk : ly k = (2, sz)) (hi : 0 ≤ wr i ∧ wr i < (sz : Int)) (kk : Ex G n cc own nL (pc + 1) lv (vL (gL M k (wr i)) :: st) M) : Ex G n cc own nL pc lv (vI i :: vR k :: st) M := by
  obtain ⟨⟨p, l, e, R⟩, ⟨s, m, args, below, meth, c⟩, ⟨cells, slots⟩, Q, D, cy, ad, A⟩ := G
  intro hF H locs ls hP hS hl
  have hx := hF.1
  have hb := hF.2.1
  refine va_lald hx hb hF.2.2.2.2.2.1 hP k 2 (wld_long hk) rfl (oI_in hi) hd ?_
  rw [oI_cl hi.1]
  exact kk hF H locs ls hP hS hl
set_option maxRecDepth 10000 in
theorem r_aald3 {G : Gx} {n : Nat} {cc : ByteArray} {own : String} {nL pc : Nat} {lv : List (Nat × Mv)} {st : List Mv} {M : Mem} {k sz v : Nat} {i : Int} (hd : decode cc pc = .ok (.aaload, 1)) (hk : ly k = (3, sz)) (hi : 0 ≤ wr i ∧ wr i < (sz : Int)) (hv : gR M k (wr i).toNat = some v) (kk : Ex G n cc own nL (pc + 1) lv (vR v :: st) M) : Ex G n cc own nL pc lv (vI i :: vR k :: st) M := by
  obtain ⟨⟨p, l, e, R⟩, ⟨s, m, args, below, meth, c⟩, ⟨cells, slots⟩, Q, D, cy, ad, A⟩ := G
  intro hF H locs ls hP hS hl
  have hx := hF.1
  have hb := hF.2.1
  refine va_aldq hx hb hF.2.2.2.2.2.1 hP k 3 (wld_ref hk (by decide) (by decide)) rfl (oI_in hi) hd ?_
  rw [show (Int32.ofInt i).toNatClampNeg = (wr i).toNat by have := oI_cl hi.1; omega, hv]
  exact kk hF H locs ls hP hS hl
set_option maxRecDepth 10000 in
theorem r_aald4 {G : Gx} {n : Nat} {cc : ByteArray} {own : String} {nL pc : Nat} {lv : List (Nat × Mv)} {st : List Mv} {M : Mem} {k sz v : Nat} {i : Int} (hd : decode cc pc = .ok (.aaload, 1)) (hk : ly k = (4, sz)) (hi : 0 ≤ wr i ∧ wr i < (sz : Int)) (hv : gR M k (wr i).toNat = some v) (kk : Ex G n cc own nL (pc + 1) lv (vR v :: st) M) : Ex G n cc own nL pc lv (vI i :: vR k :: st) M := by
  obtain ⟨⟨p, l, e, R⟩, ⟨s, m, args, below, meth, c⟩, ⟨cells, slots⟩, Q, D, cy, ad, A⟩ := G
  intro hF H locs ls hP hS hl
  have hx := hF.1
  have hb := hF.2.1
  refine va_aldq hx hb hF.2.2.2.2.2.1 hP k 4 (wld_ref hk (by decide) (by decide)) rfl (oI_in hi) hd ?_
  rw [show (Int32.ofInt i).toNatClampNeg = (wr i).toNat by have := oI_cl hi.1; omega, hv]
  exact kk hF H locs ls hP hS hl
theorem upd_I {M : Mem} {k : Nat} {i a : Int} (h : 0 ≤ wr i) : upd (fun j : Nat => Int32.ofInt (gI M k (j : Int))) (Int32.ofInt i).toNatClampNeg (Int32.ofInt a) = fun j : Nat => Int32.ofInt (gI (sI M k (wr i) a) k (j : Int)) := by
  funext j
  have h1 := oI_cl h
  unfold upd
  by_cases hj : j = (Int32.ofInt i).toNatClampNeg
  · rw [if_pos hj, show (j : Int) = wr i by omega, gI_sI_eq]
  · rw [if_neg hj, gI_sI_nj (by omega)]
theorem upd_L {M : Mem} {k : Nat} {i : Int} {a : Int64} (h : 0 ≤ wr i) : vp_updL (fun j : Nat => gL M k (j : Int)) (Int32.ofInt i).toNatClampNeg a = fun j : Nat => gL (sL M k (wr i) a) k (j : Int) := by
  funext j
  have h1 := oI_cl h
  unfold vp_updL
  by_cases hj : j = (Int32.ofInt i).toNatClampNeg
  · rw [if_pos hj, show (j : Int) = wr i by omega, gL_sL_eq]
  · rw [if_neg hj]
    exact (if_neg (fun q => hj (by omega))).symm
set_option maxRecDepth 10000 in
theorem r_iast {G : Gx} {n : Nat} {cc : ByteArray} {own : String} {nL pc : Nat} {lv : List (Nat × Mv)} {st : List Mv} {M : Mem} {k sz : Nat} {i a : Int} (hd : decode cc pc = .ok (.iastore, 1)) (hk : ly k = (0, sz)) (hi : 0 ≤ wr i ∧ wr i < (sz : Int)) (kk : Ex G n cc own nL (pc + 1) lv st (sI M k (wr i) a)) : Ex G n cc own nL pc lv (vI a :: vI i :: vR k :: st) M := by
  obtain ⟨⟨p, l, e, R⟩, ⟨s, m, args, below, meth, c⟩, ⟨cells, slots⟩, Q, D, cy, ad, A⟩ := G
  intro hF H locs ls hP hS hl
  have hx := hF.1
  have hb := hF.2.1
  refine va_iast hx hb hF.2.2.2.2.2.1 hP (wld_D hF.2.2.2.2.2.2.2.1 hF.2.2.2.2.2.2.2.2) hS k 0 (wld_int hk (by decide)) rfl (oI_in hi) hd (fun H1 locs1 hP1 hD1 hS1 => ?_)
  rw [upd_I hi.1, ← cE_int (ad := ad) (cy := cy) (M := sI M k (wr i) a) hk (by decide), wld_set (fun i hi => cE_sI hi)] at hP1
  exact kk hF H1 locs1 ls hP1 hS1 hl
theorem nar_z {a : Int} (h : a = 0 ∨ a = 1) : vp_nar .boolean (Int32.ofInt a) = Int32.ofInt a := by
  rcases h with rfl | rfl <;> rfl
set_option maxRecDepth 10000 in
theorem r_zast {G : Gx} {n : Nat} {cc : ByteArray} {own : String} {nL pc : Nat} {lv : List (Nat × Mv)} {st : List Mv} {M : Mem} {k sz : Nat} {i a : Int} (hd : decode cc pc = .ok (.bastore, 1)) (hk : ly k = (1, sz)) (hi : 0 ≤ wr i ∧ wr i < (sz : Int)) (ha : a = 0 ∨ a = 1) (kk : Ex G n cc own nL (pc + 1) lv st (sI M k (wr i) a)) : Ex G n cc own nL pc lv (vI a :: vI i :: vR k :: st) M := by
  obtain ⟨⟨p, l, e, R⟩, ⟨s, m, args, below, meth, c⟩, ⟨cells, slots⟩, Q, D, cy, ad, A⟩ := G
  intro hF H locs ls hP hS hl
  have hx := hF.1
  have hb := hF.2.1
  refine va_zast hx hb hF.2.2.2.2.2.1 hP (wld_D hF.2.2.2.2.2.2.2.1 hF.2.2.2.2.2.2.2.2) hS k 1 (wld_int hk (by decide)) rfl (oI_in hi) hd (fun H1 locs1 hP1 hD1 hS1 => ?_)
  rw [nar_z ha, upd_I hi.1, ← cE_int (ad := ad) (cy := cy) (M := sI M k (wr i) a) hk (by decide), wld_set (fun i hi => cE_sI hi)] at hP1
  exact kk hF H1 locs1 ls hP1 hS1 hl
set_option maxRecDepth 10000 in
theorem r_last {G : Gx} {n : Nat} {cc : ByteArray} {own : String} {nL pc : Nat} {lv : List (Nat × Mv)} {st : List Mv} {M : Mem} {k sz : Nat} {i : Int} {a : Int64} (hd : decode cc pc = .ok (.lastore, 1)) (hk : ly k = (2, sz)) (hi : 0 ≤ wr i ∧ wr i < (sz : Int)) (kk : Ex G n cc own nL (pc + 1) lv st (sL M k (wr i) a)) : Ex G n cc own nL pc lv (vL a :: vI i :: vR k :: st) M := by
  obtain ⟨⟨p, l, e, R⟩, ⟨s, m, args, below, meth, c⟩, ⟨cells, slots⟩, Q, D, cy, ad, A⟩ := G
  intro hF H locs ls hP hS hl
  have hx := hF.1
  have hb := hF.2.1
  refine va_last hx hb hF.2.2.2.2.2.1 hP (wld_D hF.2.2.2.2.2.2.2.1 hF.2.2.2.2.2.2.2.2) hS k 2 (wld_long hk) rfl (oI_in hi) hd (fun H1 locs1 hP1 hD1 hS1 => ?_)
  rw [upd_L hi.1, ← cE_long (ad := ad) (cy := cy) (M := sL M k (wr i) a) hk, wld_set (fun i hi => cE_sL hi)] at hP1
  exact kk hF H1 locs1 ls hP1 hS1 hl
set_option maxRecDepth 10000 in
theorem r_alenI {G : Gx} {n : Nat} {cc : ByteArray} {own : String} {nL pc : Nat} {lv : List (Nat × Mv)} {st : List Mv} {M : Mem} {k sz : Nat} (hd : decode cc pc = .ok (.arraylength, 1)) (hk : ly k = (0, sz)) (kk : Ex G n cc own nL (pc + 1) lv (vI (sz : Int) :: st) M) : Ex G n cc own nL pc lv (vR k :: st) M := by
  obtain ⟨⟨p, l, e, R⟩, ⟨s, m, args, below, meth, c⟩, ⟨cells, slots⟩, Q, D, cy, ad, A⟩ := G
  intro hF H locs ls hP hS hl
  have hx := hF.1
  have hb := hF.2.1
  exact va_alen hx hb hF.2.2.2.2.2.1 hP k 0 (wld_int hk (by decide)) rfl (v := Int32.ofInt (sz : Int)) rfl hd (kk hF H locs ls hP hS hl)
set_option maxRecDepth 10000 in
theorem r_alenL {G : Gx} {n : Nat} {cc : ByteArray} {own : String} {nL pc : Nat} {lv : List (Nat × Mv)} {st : List Mv} {M : Mem} {k sz : Nat} (hd : decode cc pc = .ok (.arraylength, 1)) (hk : ly k = (2, sz)) (kk : Ex G n cc own nL (pc + 1) lv (vI (sz : Int) :: st) M) : Ex G n cc own nL pc lv (vR k :: st) M := by
  obtain ⟨⟨p, l, e, R⟩, ⟨s, m, args, below, meth, c⟩, ⟨cells, slots⟩, Q, D, cy, ad, A⟩ := G
  intro hF H locs ls hP hS hl
  have hx := hF.1
  have hb := hF.2.1
  exact va_alen hx hb hF.2.2.2.2.2.1 hP k 2 (wld_long hk) rfl (v := Int32.ofInt (sz : Int)) rfl hd (kk hF H locs ls hP hS hl)
set_option maxRecDepth 10000 in
theorem r_copy {G : Gx} {n : Nat} {cc : ByteArray} {own : String} {nL pc : Nat} {lv : List (Nat × Mv)} {st : List Mv} {M : Mem} {k0 k1 n0 n1 idx : Nat} {sp dp w : Int} (hd : decode cc pc = .ok (.invokestatic idx, 3)) (hlk : Cond.methodLink own idx arraycopyName ∈ gtb) (hlv : 2 ≤ n) (hst : (st.map fun v => if isL v = true then 2 else 1).sum ≤ 8) (hk0 : ly k0 = (0, n0)) (hk1 : ly k1 = (0, n1)) (h1 : 0 ≤ wr sp) (h2 : 0 ≤ wr dp) (h3 : 0 ≤ wr w) (h4 : wr sp + wr w ≤ (n0 : Int)) (h5 : wr dp + wr w ≤ (n1 : Int)) (kk : Ex G n cc own nL (pc + 3) lv st (cpI M k0 (wr sp) k1 (wr dp) (wr w))) : Ex G n cc own nL pc lv (vI w :: vI dp :: vR k1 :: vI sp :: vR k0 :: st) M := by
  obtain ⟨⟨p, l, e, R⟩, ⟨s, m, args, below, meth, c⟩, ⟨cells, slots⟩, Q, D, cy, ad, A⟩ := G
  intro hF H locs ls hP hS hl
  have hx := hF.1
  have hb := hF.2.1
  have e1 := oI_cl h1
  have e2 := oI_cl h2
  have e3 := oI_cl h3
  have e4 : ((st.map (cv ad)).map fun v => v.category) = st.map fun v => if isL v = true then 2 else 1 := by
    rw [List.map_map]; congr 1; funext v; exact cv_cat ad v
  refine va_copyi hx hb (hF.2.2.1.trans hl.1.symm) hF.2.2.2.1 (hF.2.2.2.2.1 _ hlk) (hF.2.2.2.2.1 (.native arraycopyName) (by decide +kernel)) (hF.2.2.2.2.1 (.static arraycopyName) (by decide +kernel)) (hF.2.2.2.2.1 (.initialized "java/lang/System") (by decide +kernel)) hF.2.2.2.2.2.1 hP (wld_D hF.2.2.2.2.2.2.2.1 hF.2.2.2.2.2.2.2.2) hS k0 k1 0 0 (wld_int hk0 (by decide)) (wld_int hk1 (by decide)) rfl rfl rfl (fun q => by rw [oI_lt0] at q; omega) (fun q => by rw [oI_lt0] at q; omega) (fun q => by rw [oI_lt0] at q; omega) (by omega) (by omega) (fun _ _ => rfl) (Nat.le_trans (by omega) hF.2.2.2.2.2.2.1.1) ?_ hd (fun H1 locs1 hP1 hD1 hS1 => ?_)
  · rw [e4]
    have := hF.2.2.2.2.2.2.1.2.1
    have h9 : nativeFrameWords "java/lang/System" "arraycopy" 5 ≤ 30 := by decide +kernel
    omega
  · have e5 : va_cpy (fun j : Nat => Int32.ofInt (gI M k0 (j : Int))) (fun j : Nat => Int32.ofInt (gI M k1 (j : Int))) (Int32.ofInt sp).toNatClampNeg (Int32.ofInt dp).toNatClampNeg (Int32.ofInt w).toNatClampNeg = fun j : Nat => Int32.ofInt (gI (cpI M k0 (wr sp) k1 (wr dp) (wr w)) k1 (j : Int)) := by
      funext j
      unfold va_cpy
      rw [gI_cpI]
      by_cases hj : (Int32.ofInt dp).toNatClampNeg ≤ j ∧ j < (Int32.ofInt dp).toNatClampNeg + (Int32.ofInt w).toNatClampNeg
      · rw [if_pos hj, if_pos ⟨rfl, by omega, by omega⟩]
        rw [show wr sp + ((j : Int) - wr dp) = (((Int32.ofInt sp).toNatClampNeg + (j - (Int32.ofInt dp).toNatClampNeg) : Nat) : Int) by omega]
      · rw [if_neg hj, if_neg (fun q => hj (by omega))]
    rw [e5, ← cE_int (ad := ad) (cy := cy) (M := cpI M k0 (wr sp) k1 (wr dp) (wr w)) hk1 (by decide), wld_set (fun i hi => cE_cpI hi)] at hP1
    exact kk hF H1 locs1 ls hP1 hS1 hl
set_option maxRecDepth 10000 in
theorem r_mabs {G : Gx} {n : Nat} {cc : ByteArray} {own : String} {nL pc : Nat} {lv : List (Nat × Mv)} {st : List Mv} {M : Mem} {idx : Nat} {a : Int} (hd : decode cc pc = .ok (.invokestatic idx, 3)) (hlk : Cond.methodLink own idx Lib.Math.abs.name ∈ gtb) (hlv : 1 ≤ n) (hst : (st.map fun v => if isL v = true then 2 else 1).sum ≤ 8) (kk : Ex G n cc own nL (pc + 3) lv (vI (iab a) :: st) M) : Ex G n cc own nL pc lv (vI a :: st) M := by
  obtain ⟨⟨p, l, e, R⟩, ⟨s, m, args, below, meth, c⟩, ⟨cells, slots⟩, Q, D, cy, ad, A⟩ := G
  intro hF H locs ls hP hS hl
  have hx := hF.1
  have hb := hF.2.1
  have e4 : ((st.map (cv ad)).map fun v => v.category) = st.map fun v => if isL v = true then 2 else 1 := by
    rw [List.map_map]; congr 1; funext v; exact cv_cat ad v
  refine va_mabs hx hb (hF.2.2.1.trans hl.1.symm) hF.2.2.2.1 (hF.2.2.2.2.1 _ hlk) (hF.2.2.2.2.1 (.static Lib.Math.abs.name) (by decide +kernel)) (hF.2.2.2.2.1 (.initialized "java/lang/Math") (by decide +kernel)) (hF.2.2.2.2.1 (.code Lib.Math.abs.name Lib.Math.abs.code 1 (some .int)) (by decide +kernel)) (Nat.le_trans hlv hF.2.2.2.2.2.2.1.1) ?_ hF.2.2.2.2.2.2.1.2.2.1 hF.2.2.2.2.2.2.1.2.2.2.1 hd ?_
  · rw [e4]
    have := hF.2.2.2.2.2.2.1.2.1
    omega
  · rw [oI_abs]
    exact kk hF H locs ls hP hS hl
set_option maxRecDepth 10000 in
theorem r_lmin {G : Gx} {n : Nat} {cc : ByteArray} {own : String} {nL pc : Nat} {lv : List (Nat × Mv)} {st : List Mv} {M : Mem} {idx : Nat} {a b : Int64} (hd : decode cc pc = .ok (.invokestatic idx, 3)) (hlk : Cond.methodLink own idx Lib.MathLoose.min_long.x ∈ gtb) (hlv : 1 ≤ n) (hst : (st.map fun v => if isL v = true then 2 else 1).sum ≤ 8) (kk : Ex G n cc own nL (pc + 3) lv (vL (lmn a b) :: st) M) : Ex G n cc own nL pc lv (vL b :: vL a :: st) M := by
  obtain ⟨⟨p, l, e, R⟩, ⟨s, m, args, below, meth, c⟩, ⟨cells, slots⟩, Q, D, cy, ad, A⟩ := G
  intro hF H locs ls hP hS hl
  have hx := hF.1
  have hb := hF.2.1
  have e4 : ((st.map (cv ad)).map fun v => v.category) = st.map fun v => if isL v = true then 2 else 1 := by
    rw [List.map_map]; congr 1; funext v; exact cv_cat ad v
  refine va_mmin_long hx hb (hF.2.2.1.trans hl.1.symm) hF.2.2.2.1 (hF.2.2.2.2.1 _ hlk) (hF.2.2.2.2.1 (.static Lib.MathLoose.min_long.x) (by decide +kernel)) (hF.2.2.2.2.1 (.initialized "java/lang/Math") (by decide +kernel)) (hF.2.2.2.2.1 (.code Lib.MathLoose.min_long.x Lib.MathLoose.min_long.code 4 (some .long)) (by decide +kernel)) (Nat.le_trans hlv hF.2.2.2.2.2.2.1.1) ?_ hF.2.2.2.2.2.2.1.2.2.1 hF.2.2.2.2.2.2.1.2.2.2.1 hd ?_
  · rw [e4]
    have := hF.2.2.2.2.2.2.1.2.1
    omega
  · exact kk hF H locs ls hP hS hl
