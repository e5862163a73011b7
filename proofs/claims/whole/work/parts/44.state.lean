/-! what the memory tells: the class's side (c) and the reference's side (r) -/
noncomputable def bp (P : Prop) : Bool := @decide P (Classical.propDecidable P)
theorem bp_t {P : Prop} : bp P = true ↔ P := by
  unfold bp
  exact @decide_eq_true_iff P (Classical.propDecidable P)
theorem bp_f {P : Prop} : bp P = false ↔ ¬ P := by
  unfold bp
  exact @decide_eq_false_iff_not P (Classical.propDecidable P)
theorem bp_congr {P Q : Prop} (h : P ↔ Q) : bp P = bp Q := by rw [propext h]
def YSc (M : Mem) (W H : Int) (op : Int → Bool) (wa pr : Int → Int) : Prop := YC M W H op ∧ ∀ b : Int, 0 ≤ b → b < 128 → gI M 3 b = wa b ∧ gI M 4 b = pr b
def YSr (M : Mem) (W H : Int) (op : Int → Bool) (wa pr : Int → Int) : Prop := YR M W H op ∧ ∀ b : Int, 0 ≤ b → b < 128 → gI M 57 b = wa b ∧ gI M 58 b = pr b
def HDc (M : Mem) (hd : Int → Bool) : Prop := ∀ s : Int, 0 ≤ s → s < 4 → gI M (39 + 2 * s.toNat) 0 = bI (hd s)
def HDr (M : Mem) (hd : Int → Bool) : Prop := ∀ s : Int, 0 ≤ s → s < 4 → gI M 59 s = bI (hd s)
def ONc (M : Mem) (W H : Int) (op : Int → Bool) (s : Int) (p : Int → Int) : Prop := ∀ c : Int, iso W H op c = true → gI M (39 + 2 * s.toNat + 1) c = p c
def ONr (M : Mem) (W H : Int) (op : Int → Bool) (s : Int) (p : Int → Int) : Prop := ∀ c : Int, iso W H op c = true → gI M 60 (64 * s + c) = p c
def SLc (M : Mem) (W H : Int) (op : Int → Bool) (hd : Int → Bool) (on : Int → Int → Int) : Prop := HDc M hd ∧ ∀ s : Int, 0 ≤ s → s < 4 → hd s = true → ONc M W H op s (on s)
def SLr (M : Mem) (W H : Int) (op : Int → Bool) (hd : Int → Bool) (on : Int → Int → Int) : Prop := HDr M hd ∧ ∀ s : Int, 0 ≤ s → s < 4 → hd s = true → ONr M W H op s (on s)
def TPc (M : Mem) (ts : Int) (tp : Int → Int) : Prop := gI M 5 2 = ts ∧ ∀ k : Int, 0 ≤ k → k < ts → gI M 6 k = tp k
def TPr (M : Mem) (ts : Int) (tp : Int → Int) : Prop := gI M 55 8 = ts ∧ ∀ k : Int, 0 ≤ k → k < ts → gI M 61 k = tp k
def SHc (M : Mem) (ln sz : Int → Int) (it : Int → Int → Int) : Prop := ∀ s : Int, 0 ≤ s → s < 4 → gI M (47 + 2 * s.toNat) 0 = bI (decide (0 ≤ ln s)) ∧ (0 ≤ ln s → gI M (47 + 2 * s.toNat) 1 = ln s) ∧ gI M (47 + 2 * s.toNat) 2 = sz s ∧ ∀ i : Int, 0 ≤ i → i < 64 → gI M (47 + 2 * s.toNat + 1) i = it s i
def SHr (M : Mem) (ln sz : Int → Int) (it : Int → Int → Int) : Prop := ∀ s : Int, 0 ≤ s → s < 4 → gI M 76 s = ln s ∧ gI M 77 s = sz s ∧ ∀ i : Int, 0 ≤ i → i < 64 → gI M 78 (64 * s + i) = it s i
def DRs (M : Mem) : Prop := ((dR M 8 3 = 12 ∧ dR M 8 4 = 13) ∨ (dR M 8 3 = 13 ∧ dR M 8 4 = 12)) ∧ ((dR M 14 0 = 15 ∧ dR M 14 1 = 16) ∨ (dR M 14 0 = 16 ∧ dR M 14 1 = 15))
/-- a paving -/
def Pav (W H : Int) (op : Int → Bool) (p : Int → Int) : Prop := ∀ c : Int, iso W H op c = true → stn W H op (p c) = true ∧ (p c / 2 = c ∨ oth W H (p c) = c) ∧ p (p c / 2) = p c ∧ p (oth W H (p c)) = p c
def WFy (W H : Int) (op : Int → Bool) (wa pr : Int → Int) : Prop := WHr W H ∧ ∀ b : Int, 0 ≤ b → b < 128 → 0 ≤ wa b ∧ wa b ≤ 2 ∧ 0 ≤ pr b ∧ pr b ≤ 999 ∧ (wa b ≠ 0 → stn W H op b = true)
def WFs (W H : Int) (op : Int → Bool) (hd : Int → Bool) (on : Int → Int → Int) : Prop := ∀ s : Int, 0 ≤ s → s < 4 → hd s = true → Pav W H op (on s)
def WFt (ts : Int) (tp : Int → Int) : Prop := 0 ≤ ts ∧ ts ≤ 90 ∧ ∀ k : Int, 0 ≤ k → k < ts → 32 ≤ tp k ∧ tp k ≤ 126
def WFh (ln sz : Int → Int) (it : Int → Int → Int) : Prop := ∀ s : Int, 0 ≤ s → s < 4 → -1 ≤ ln s ∧ ln s ≤ 2 ∧ 0 ≤ sz s ∧ sz s ≤ 64 ∧ ∀ i : Int, 0 ≤ i → i < 64 → -2147483648 ≤ it s i ∧ it s i ≤ 2147483647
/-- frames -/
theorem YSc.fr {ks : List Nat} {M M2 : Mem} {W H : Int} {op : Int → Bool} {wa pr : Int → Int} (h : YSc M W H op wa pr) (hF : Fr ks M M2) (h1 : 1 ∉ ks) (h2 : 2 ∉ ks) (h3 : 3 ∉ ks) (h4 : 4 ∉ ks) : YSc M2 W H op wa pr := ⟨h.1.fr hF h1 h2, fun b a1 a2 => ⟨(fI hF h3 b).trans (h.2 b a1 a2).1, (fI hF h4 b).trans (h.2 b a1 a2).2⟩⟩
theorem YSr.fr {ks : List Nat} {M M2 : Mem} {W H : Int} {op : Int → Bool} {wa pr : Int → Int} (h : YSr M W H op wa pr) (hF : Fr ks M M2) (h1 : 55 ∉ ks) (h2 : 56 ∉ ks) (h3 : 57 ∉ ks) (h4 : 58 ∉ ks) : YSr M2 W H op wa pr := ⟨h.1.fr hF h1 h2, fun b a1 a2 => ⟨(fI hF h3 b).trans (h.2 b a1 a2).1, (fI hF h4 b).trans (h.2 b a1 a2).2⟩⟩
theorem s4 {s : Int} (h0 : 0 ≤ s) (h1 : s < 4) : s.toNat = 0 ∨ s.toNat = 1 ∨ s.toNat = 2 ∨ s.toNat = 3 := by omega
/-- the cells of slots and sheets are kept -/
def kp (a : Nat) (ks : List Nat) : Prop := ∀ k, a ≤ k → k < a + 8 → k ∉ ks
theorem SLc.fr {ks : List Nat} {M M2 : Mem} {W H : Int} {op : Int → Bool} {hd : Int → Bool} {on : Int → Int → Int} (h : SLc M W H op hd on) (hF : Fr ks M M2) (hk : kp 39 ks) : SLc M2 W H op hd on := ⟨fun s a b => (fI hF (hk _ (by omega) (by omega)) 0).trans (h.1 s a b), fun s a b c d e => (fI hF (hk _ (by omega) (by omega)) d).trans (h.2 s a b c d e)⟩
theorem SLr.fr {ks : List Nat} {M M2 : Mem} {W H : Int} {op : Int → Bool} {hd : Int → Bool} {on : Int → Int → Int} (h : SLr M W H op hd on) (hF : Fr ks M M2) (h1 : 59 ∉ ks) (h2 : 60 ∉ ks) : SLr M2 W H op hd on := ⟨fun s a b => (fI hF h1 s).trans (h.1 s a b), fun s a b c d e => (fI hF h2 _).trans (h.2 s a b c d e)⟩
theorem TPc.fr {ks : List Nat} {M M2 : Mem} {ts : Int} {tp : Int → Int} (h : TPc M ts tp) (hF : Fr ks M M2) (h1 : 5 ∉ ks) (h2 : 6 ∉ ks) : TPc M2 ts tp := ⟨(fI hF h1 2).trans h.1, fun k a b => (fI hF h2 k).trans (h.2 k a b)⟩
theorem TPr.fr {ks : List Nat} {M M2 : Mem} {ts : Int} {tp : Int → Int} (h : TPr M ts tp) (hF : Fr ks M M2) (h1 : 55 ∉ ks) (h2 : 61 ∉ ks) : TPr M2 ts tp := ⟨(fI hF h1 8).trans h.1, fun k a b => (fI hF h2 k).trans (h.2 k a b)⟩
theorem SHc.fr {ks : List Nat} {M M2 : Mem} {ln sz : Int → Int} {it : Int → Int → Int} (h : SHc M ln sz it) (hF : Fr ks M M2) (hk : kp 47 ks) : SHc M2 ln sz it := fun s a b => by
  obtain ⟨h1, h2, h3, h4⟩ := h s a b
  exact ⟨(fI hF (hk _ (by omega) (by omega)) 0).trans h1, fun z => (fI hF (hk _ (by omega) (by omega)) 1).trans (h2 z), (fI hF (hk _ (by omega) (by omega)) 2).trans h3, fun i x y => (fI hF (hk _ (by omega) (by omega)) i).trans (h4 i x y)⟩
theorem SHr.fr {ks : List Nat} {M M2 : Mem} {ln sz : Int → Int} {it : Int → Int → Int} (h : SHr M ln sz it) (hF : Fr ks M M2) (h1 : 76 ∉ ks) (h2 : 77 ∉ ks) (h3 : 78 ∉ ks) : SHr M2 ln sz it := fun s a b => by
  obtain ⟨q1, q2, q3⟩ := h s a b
  exact ⟨(fI hF h1 s).trans q1, (fI hF h2 s).trans q2, fun i x y => (fI hF h3 _).trans (q3 i x y)⟩
theorem DRs.fr {ks : List Nat} {M M2 : Mem} (h : DRs M) (hF : Fr ks M M2) (h1 : 8 ∉ ks) (h2 : 14 ∉ ks) : DRs M2 := by
  unfold DRs
  rw [fR hF h1, fR hF h1, fR hF h2, fR hF h2]
  exact h
/-- all of the reference's side, all of the class's side but the sweep -/
def RS (M : Mem) (W H : Int) (op : Int → Bool) (wa pr : Int → Int) (hd : Int → Bool) (on : Int → Int → Int) (ts : Int) (tp : Int → Int) (ln sz : Int → Int) (it : Int → Int → Int) : Prop := YSr M W H op wa pr ∧ SLr M W H op hd on ∧ TPr M ts tp ∧ SHr M ln sz it
def CS (M : Mem) (W H : Int) (op : Int → Bool) (wa pr : Int → Int) (hd : Int → Bool) (on : Int → Int → Int) (ts : Int) (tp : Int → Int) (ln sz : Int → Int) (it : Int → Int → Int) : Prop := YSc M W H op wa pr ∧ SLc M W H op hd on ∧ TPc M ts tp ∧ SHc M ln sz it
def WF (W H : Int) (op : Int → Bool) (wa pr : Int → Int) (hd : Int → Bool) (on : Int → Int → Int) (ts : Int) (tp : Int → Int) (ln sz : Int → Int) (it : Int → Int → Int) : Prop := WFy W H op wa pr ∧ WFs W H op hd on ∧ WFt ts tp ∧ WFh ln sz it
/-- cells of the reference that hold no state; of the class likewise -/
def rtmp : List Nat := [62, 63, 64, 65, 66, 67, 68, 69, 70, 71, 72, 73, 74, 75, 79]
def ctmp : List Nat := [7, 9, 10, 11, 12, 13, 15, 16, 17, 18, 19, 20, 21, 22, 23, 24, 25, 26, 27, 28, 29, 30, 31, 32, 33, 34, 35, 36]
theorem notin {ks l : List Nat} (h : ks.all (fun k => l.contains k) = true) {k : Nat} (hk : k ∉ l) : k ∉ ks := fun q => hk (by
  have := List.all_eq_true.mp h k q
  simpa using this)
theorem RS.fr {M M2 : Mem} {W H : Int} {op : Int → Bool} {wa pr : Int → Int} {hd : Int → Bool} {on : Int → Int → Int} {ts : Int} {tp : Int → Int} {ln sz : Int → Int} {it : Int → Int → Int} (h : RS M W H op wa pr hd on ts tp ln sz it) {ks : List Nat} (hF : Fr ks M M2) (hk : ks.all (fun k => (rtmp ++ List.range 55).contains k) = true) : RS M2 W H op wa pr hd on ts tp ln sz it :=
  ⟨h.1.fr hF (notin hk (by decide)) (notin hk (by decide)) (notin hk (by decide)) (notin hk (by decide)), h.2.1.fr hF (notin hk (by decide)) (notin hk (by decide)), h.2.2.1.fr hF (notin hk (by decide)) (notin hk (by decide)), h.2.2.2.fr hF (notin hk (by decide)) (notin hk (by decide)) (notin hk (by decide))⟩
theorem kp_of {ks l : List Nat} {a : Nat} (h : ks.all (fun k => l.contains k) = true) (hl : (List.range 8).all (fun i => ! l.contains (a + i)) = true) : kp a ks := fun k h1 h2 q => by
  have e1 := List.all_eq_true.mp h k q
  have e2 := List.all_eq_true.mp hl (k - a) (List.mem_range.mpr (by omega))
  rw [show a + (k - a) = k by omega] at e2
  rw [e1] at e2
  exact absurd e2 (by decide)
theorem CS.fr {M M2 : Mem} {W H : Int} {op : Int → Bool} {wa pr : Int → Int} {hd : Int → Bool} {on : Int → Int → Int} {ts : Int} {tp : Int → Int} {ln sz : Int → Int} {it : Int → Int → Int} (h : CS M W H op wa pr hd on ts tp ln sz it) {ks : List Nat} (hF : Fr ks M M2) (hk : ks.all (fun k => (8 :: 14 :: ctmp ++ (List.range 25).map (· + 55)).contains k) = true) : CS M2 W H op wa pr hd on ts tp ln sz it :=
  ⟨h.1.fr hF (notin hk (by decide)) (notin hk (by decide)) (notin hk (by decide)) (notin hk (by decide)), h.2.1.fr hF (kp_of hk (by decide)), h.2.2.1.fr hF (notin hk (by decide)) (notin hk (by decide)), h.2.2.2.fr hF (kp_of hk (by decide))⟩
