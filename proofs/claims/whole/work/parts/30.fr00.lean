/-! which cells a method may change -/
def Fr (ks : List Nat) (M M2 : Mem) : Prop := ∀ k, k ∉ ks → (∀ j, gI M2 k j = gI M k j) ∧ (∀ j, gL M2 k j = gL M k j) ∧ (∀ j, dR M2 k j = dR M k j)
theorem Fr.rf {ks : List Nat} {M : Mem} : Fr ks M M := fun _ _ => ⟨fun _ => rfl, fun _ => rfl, fun _ => rfl⟩
theorem Fr.trans {ks ks1 : List Nat} {M M1 M2 : Mem} (h : Fr ks M M1) (h1 : Fr ks1 M1 M2) (hk : ∀ k ∈ ks1, k ∈ ks) : Fr ks M M2 := fun k hn => by
  obtain ⟨a1, a2, a3⟩ := h k hn
  obtain ⟨b1, b2, b3⟩ := h1 k (fun q => hn (hk k q))
  exact ⟨fun j => (b1 j).trans (a1 j), fun j => (b2 j).trans (a2 j), fun j => (b3 j).trans (a3 j)⟩
theorem Fr.mono {ks ks1 : List Nat} {M M1 : Mem} (h : Fr ks1 M M1) (hk : ∀ k ∈ ks1, k ∈ ks) : Fr ks M M1 := Fr.trans Fr.rf h hk
theorem Fr.sI {ks : List Nat} {M M1 M2 : Mem} {k : Nat} {j v : Int} (h : Fr ks M M1) (hk : k ∈ ks) (e : M2 = sI M1 k j v) : Fr ks M M2 := fun q hn => by
  subst e
  obtain ⟨a1, a2, a3⟩ := h q hn
  exact ⟨fun i => (gI_sI_ne (fun e => hn (by rw [e]; exact hk))).trans (a1 i), a2, a3⟩
theorem Fr.cpI {ks : List Nat} {M M1 M2 : Mem} {k0 k : Nat} {sp dp n : Int} (h : Fr ks M M1) (hk : k ∈ ks) (e : M2 = cpI M1 k0 sp k dp n) : Fr ks M M2 := fun q hn => by
  subst e
  obtain ⟨a1, a2, a3⟩ := h q hn
  exact ⟨fun i => (gI_cpI_ne (fun e => hn (by rw [e]; exact hk))).trans (a1 i), a2, a3⟩
theorem Fr.sL {ks : List Nat} {M M1 M2 : Mem} {k : Nat} {j : Int} {v : Int64} (h : Fr ks M M1) (hk : k ∈ ks) (e : M2 = sL M1 k j v) : Fr ks M M2 := fun q hn => by
  subst e
  obtain ⟨a1, a2, a3⟩ := h q hn
  exact ⟨a1, fun i => (gL_sL_ne (fun e => hn (by rw [e]; exact hk))).trans (a2 i), a3⟩
theorem Fr.sR {ks : List Nat} {M M1 M2 : Mem} {k j v : Nat} (h : Fr ks M M1) (hk : k ∈ ks) (e : M2 = sR M1 k j v) : Fr ks M M2 := fun q hn => by
  subst e
  obtain ⟨a1, a2, a3⟩ := h q hn
  refine ⟨a1, a2, fun i => ?_⟩
  have h9 : ¬ (q = k ∧ i = j) := fun z => hn (z.1 ▸ hk)
  exact (if_neg h9 : (if q = k ∧ i = j then v else M1.2.2 q i) = _).trans (a3 i)
theorem ly256 : ∀ k, k < NC → ly k = (2, 256) → k ∈ [12, 13, 15, 16] := by decide +kernel
theorem dr_in {k : Nat} {ks : List Nat} (h : ly k = (2, 256)) (hk : ∀ x ∈ [12, 13, 15, 16], x ∈ ks) : k ∈ ks := hk k (ly256 k (ly_lt h (by decide)) h)
theorem slo_in {i : Int} {ks : List Nat} (h : 0 ≤ wr i ∧ wr i < 4) (hk : ∀ x ∈ [39, 40, 41, 42, 43, 44, 45, 46], x ∈ ks) : (39 + 2 * (wr i).toNat) ∈ ks := by
  apply hk
  rcases (show (wr i).toNat = 0 ∨ (wr i).toNat = 1 ∨ (wr i).toNat = 2 ∨ (wr i).toNat = 3 by omega) with e | e | e | e <;> rw [e] <;> decide
theorem slo_in1 {i : Int} {ks : List Nat} (h : 0 ≤ wr i ∧ wr i < 4) (hk : ∀ x ∈ [39, 40, 41, 42, 43, 44, 45, 46], x ∈ ks) : ((39 + 2 * (wr i).toNat) + 1) ∈ ks := by
  apply hk
  rcases (show (wr i).toNat = 0 ∨ (wr i).toNat = 1 ∨ (wr i).toNat = 2 ∨ (wr i).toNat = 3 by omega) with e | e | e | e <;> rw [e] <;> decide
theorem she_in {i : Int} {ks : List Nat} (h : 0 ≤ wr i ∧ wr i < 4) (hk : ∀ x ∈ [47, 48, 49, 50, 51, 52, 53, 54], x ∈ ks) : (47 + 2 * (wr i).toNat) ∈ ks := by
  apply hk
  rcases (show (wr i).toNat = 0 ∨ (wr i).toNat = 1 ∨ (wr i).toNat = 2 ∨ (wr i).toNat = 3 by omega) with e | e | e | e <;> rw [e] <;> decide
theorem she_in1 {i : Int} {ks : List Nat} (h : 0 ≤ wr i ∧ wr i < 4) (hk : ∀ x ∈ [47, 48, 49, 50, 51, 52, 53, 54], x ∈ ks) : ((47 + 2 * (wr i).toNat) + 1) ∈ ks := by
  apply hk
  rcases (show (wr i).toNat = 0 ∨ (wr i).toNat = 1 ∨ (wr i).toNat = 2 ∨ (wr i).toNat = 3 by omega) with e | e | e | e <;> rw [e] <;> decide
set_option maxRecDepth 10000 in
theorem fl_J7_fill_d0a16_L6 (p0 : Nat) (p1 : Int64) (p4 : Int) {M0 : Mem} : ∀ (nn : Nat) (x3 : Int) (M : Mem) (out : Int × Mem), itr (fun s => m_J7_fill_d0a16_L6 s.2 p0 p1 p4 s.1) nn (x3, M) = some out → Fr [p0] M0 M → Fr [p0] M0 out.2 := by
  intro nn
  induction nn with
  | zero =>
    intro x3 M out h _
    cases h
  | succ nn ih =>
    intro x3 M out h0 F
    obtain ⟨w, h, k1, k2⟩ := itr_inv h0
    have h : m_J7_fill_d0a16_L6 M p0 p1 p4 x3 = some w := h
    unfold m_J7_fill_d0a16_L6 at h
    by_cases c1 : wr p4 ≤ wr x3
    · rw [if_pos c1] at h
      cases h
      cases k2 _ rfl
      exact F
    · rw [if_neg c1] at h
      obtain ⟨c2, h⟩ := of_ck h
      obtain ⟨M3, eM3, h⟩ := of_lt h
      have F := F.sL (by simp) eM3
      cases h
      exact ih _ _  _ (k1 _ rfl) F

set_option maxRecDepth 10000 in
theorem fr_J7_fill_d0a16 {M : Mem} {M2 : Mem} {a0 : Nat} {a1 : Int64} (h : m_J7_fill_d0a16 M a0 a1 = some (M2)) : Fr [a0] M M2 := by
  unfold m_J7_fill_d0a16 at h
  have F : Fr [a0] M M := Fr.rf
  obtain ⟨y4, M5, h9, h⟩ := of_bd2 h
  have F := F.trans (fl_J7_fill_d0a16_L6 a0 a1 ((ly a0).2 : Int) FU _ _ _ h9 Fr.rf) (List.forall_mem_cons.mpr ⟨(by simp), fun _ h => absurd h List.not_mem_nil⟩)
  clear h9
  cases h
  exact F

set_option maxRecDepth 10000 in
theorem fl_X0_pass_L70 (p4 : Int) (p5 : Int) (p6 : Int) (p7 : Int) {M0 : Mem} : ∀ (nn : Nat) (x8 : Int) (M : Mem) (out : Int × Mem), itr (fun s => m_X0_pass_L70 s.2 p4 p5 p6 p7 s.1) nn (x8, M) = some out → Fr [12, 13, 15, 16] M0 M → Fr [12, 13, 15, 16] M0 out.2 := by
  intro nn
  induction nn with
  | zero =>
    intro x8 M out h _
    cases h
  | succ nn ih =>
    intro x8 M out h0 F
    obtain ⟨w, h, k1, k2⟩ := itr_inv h0
    have h : m_X0_pass_L70 M p4 p5 p6 p7 x8 = some w := h
    unfold m_X0_pass_L70 at h
    by_cases c15 : wr (shl 1 (gI M 1 1)) ≤ wr x8
    · rw [if_pos c15] at h
      cases h
      cases k2 _ rfl
      exact F
    · rw [if_neg c15] at h
      obtain ⟨c16, h⟩ := of_ck h
      obtain ⟨c17, h⟩ := of_ck h
      obtain ⟨M37, h9, h⟩ := of_bd1 h
      have F : Fr [12, 13, 15, 16] M0 M37 := by
        have h := h9
        by_cases c18 : (gL M (dR M 14 0) (wr x8)) = (0 : Int64)
        · rw [if_pos c18] at h
          cases h
          exact F
        · rw [if_neg c18] at h
          by_cases c19 : wr p5 = 0
          · rw [if_pos c19] at h
            obtain ⟨c20, h⟩ := of_ck h
            obtain ⟨c21, h⟩ := of_ck h
            obtain ⟨M22, eM22, h⟩ := of_lt h
            have F := F.sL (dr_in (k := (dR M 14 1)) (by with_reducible assumption) (by decide)) eM22
            cases h
            exact F
          · rw [if_neg c19] at h
            by_cases c23 : wr (iand x8 p4) = 0
            · rw [if_pos c23] at h
              obtain ⟨M28, h9, h⟩ := of_bd1 h
              have F : Fr [12, 13, 15, 16] M0 M28 := by
                have h := h9
                by_cases c24 : wr p6 = 0
                · rw [if_pos c24] at h
                  cases h
                  exact F
                · rw [if_neg c24] at h
                  obtain ⟨c25, h⟩ := of_ck h
                  obtain ⟨c26, h⟩ := of_ck h
                  obtain ⟨M27, eM27, h⟩ := of_lt h
                  have F := F.sL (dr_in (k := (dR M 14 1)) (by with_reducible assumption) (by decide)) eM27
                  cases h
                  exact F
              clear h9
              by_cases c29 : wr p7 = 0
              · rw [if_pos c29] at h
                cases h
                exact F
              · rw [if_neg c29] at h
                by_cases c30 : wr (iand x8 (2 * p4)) = 0
                · rw [if_pos c30] at h
                  obtain ⟨c31, h⟩ := of_ck h
                  obtain ⟨c32, h⟩ := of_ck h
                  obtain ⟨M33, eM33, h⟩ := of_lt h
                  have F := F.sL (dr_in (k := (dR M28 14 1)) (by with_reducible assumption) (by decide)) eM33
                  cases h
                  exact F
                · rw [if_neg c30] at h
                  cases h
                  exact F
            · rw [if_neg c23] at h
              obtain ⟨c34, h⟩ := of_ck h
              obtain ⟨c35, h⟩ := of_ck h
              obtain ⟨M36, eM36, h⟩ := of_lt h
              have F := F.sL (dr_in (k := (dR M 14 1)) (by with_reducible assumption) (by decide)) eM36
              cases h
              exact F
      clear h9
      cases h
      exact ih _ _  _ (k1 _ rfl) F

set_option maxRecDepth 10000 in
theorem fr_X0_pass {M : Mem} {M2 : Mem} {a2 : Int} {a3 : Int} (h : m_X0_pass M a2 a3 = some (M2)) : Fr [12, 13, 15, 16] M M2 := by
  unfold m_X0_pass at h
  have F : Fr [12, 13, 15, 16] M M := Fr.rf
  obtain ⟨r2, hc1, h⟩ := of_bd1 h
  obtain ⟨v4, ev4, h⟩ := of_lt h
  obtain ⟨v9, h9, h⟩ := of_bd1 h
  clear h9
  obtain ⟨v14, h9, h⟩ := of_bd1 h
  clear h9
  obtain ⟨y38, M39, h9, h⟩ := of_bd2 h
  have F := F.trans (fl_X0_pass_L70 (shl 1 a3) v4 v9 v14 FU _ _ _ h9 Fr.rf) (by decide)
  clear h9
  cases h
  exact F

set_option maxRecDepth 10000 in
theorem fl_X0_countSound_L38 (p2 : Int) {M0 : Mem} : ∀ (nn : Nat) (x3 : Int) (M : Mem) (out : Int × Mem), itr (fun s => m_X0_countSound_L38 s.2 p2 s.1) nn (x3, M) = some out → Fr [12, 13, 14, 15, 16] M0 M → Fr [12, 13, 14, 15, 16] M0 out.2 := by
  intro nn
  induction nn with
  | zero =>
    intro x3 M out h _
    cases h
  | succ nn ih =>
    intro x3 M out h0 F
    obtain ⟨w, h, k1, k2⟩ := itr_inv h0
    have h : m_X0_countSound_L38 M p2 x3 = some w := h
    unfold m_X0_countSound_L38 at h
    by_cases c11 : wr (gI M 1 1) ≤ wr x3
    · rw [if_pos c11] at h
      cases h
      cases k2 _ rfl
      exact F
    · rw [if_neg c11] at h
      obtain ⟨c12, h⟩ := of_ck h
      obtain ⟨M14, hc13, h⟩ := of_bd1 h
      have F := F.trans (fr_J7_fill_d0a16 hc13) (List.forall_mem_cons.mpr ⟨(dr_in (k := (dR M 14 1)) (by with_reducible assumption) (by decide)), fun _ h => absurd h List.not_mem_nil⟩)
      obtain ⟨M16, hc15, h⟩ := of_bd1 h
      have F := F.trans (fr_X0_pass hc15) (by decide)
      obtain ⟨c17, h⟩ := of_ck h
      obtain ⟨c18, h⟩ := of_ck h
      obtain ⟨M19, eM19, h⟩ := of_lt h
      have F := F.sR (by decide) eM19
      obtain ⟨M20, eM20, h⟩ := of_lt h
      have F := F.sR (by decide) eM20
      cases h
      exact ih _ _  _ (k1 _ rfl) F

set_option maxRecDepth 10000 in
theorem fl_X0_countSound_L17  {M0 : Mem} : ∀ (nn : Nat) (x2 : Int) (M : Mem) (out : Int × Mem), itr (fun s => m_X0_countSound_L17 s.2  s.1) nn (x2, M) = some out → Fr [12, 13, 14, 15, 16] M0 M → Fr [12, 13, 14, 15, 16] M0 out.2 := by
  intro nn
  induction nn with
  | zero =>
    intro x2 M out h _
    cases h
  | succ nn ih =>
    intro x2 M out h0 F
    obtain ⟨w, h, k1, k2⟩ := itr_inv h0
    have h : m_X0_countSound_L17 M  x2 = some w := h
    unfold m_X0_countSound_L17 at h
    by_cases c6 : wr (gI M 1 0) ≤ wr x2
    · rw [if_pos c6] at h
      cases h
      cases k2 _ rfl
      exact F
    · rw [if_neg c6] at h
      obtain ⟨M10, h9, h⟩ := of_bd1 h
      have F : Fr [12, 13, 14, 15, 16] M0 M10 := by
        have h := h9
        by_cases c7 : wr x2 ≤ 0
        · rw [if_pos c7] at h
          cases h
          exact F
        · rw [if_neg c7] at h
          obtain ⟨c8, h⟩ := of_ck h
          obtain ⟨M9, eM9, h⟩ := of_lt h
          have F := F.sL (dr_in (k := (dR M 14 0)) (by with_reducible assumption) (by decide)) eM9
          cases h
          exact F
      clear h9
      obtain ⟨y21, M22, h9, h⟩ := of_bd2 h
      have F := F.trans (fl_X0_countSound_L38 x2 FU _ _ _ h9 Fr.rf) (by decide)
      clear h9
      cases h
      exact ih _ _  _ (k1 _ rfl) F

set_option maxRecDepth 10000 in
theorem fr_X0_countSound {M : Mem} {M2 : Mem}  {r : Int64} (h : m_X0_countSound M = some (r, M2)) : Fr [12, 13, 14, 15, 16] M M2 := by
  unfold m_X0_countSound at h
  have F : Fr [12, 13, 14, 15, 16] M M := Fr.rf
  obtain ⟨c1, h⟩ := of_ck h
  obtain ⟨M3, hc2, h⟩ := of_bd1 h
  have F := F.trans (fr_J7_fill_d0a16 hc2) (List.forall_mem_cons.mpr ⟨(dr_in (k := (dR M 14 0)) (by with_reducible assumption) (by decide)), fun _ h => absurd h List.not_mem_nil⟩)
  obtain ⟨c4, h⟩ := of_ck h
  obtain ⟨M5, eM5, h⟩ := of_lt h
  have F := F.sL (dr_in (k := (dR M3 14 0)) (by with_reducible assumption) (by decide)) eM5
  obtain ⟨y23, M24, h9, h⟩ := of_bd2 h
  have F := F.trans (fl_X0_countSound_L17  FU _ _ _ h9 Fr.rf) (by decide)
  clear h9
  obtain ⟨c25, h⟩ := of_ck h
  cases h
  exact F

set_option maxRecDepth 10000 in
theorem fl_J7_fill_53178_L5 (p0 : Nat) (p1 : Int) (p3 : Int) {M0 : Mem} : ∀ (nn : Nat) (x2 : Int) (M : Mem) (out : Int × Mem), itr (fun s => m_J7_fill_53178_L5 s.2 p0 p1 p3 s.1) nn (x2, M) = some out → Fr [p0] M0 M → Fr [p0] M0 out.2 := by
  intro nn
  induction nn with
  | zero =>
    intro x2 M out h _
    cases h
  | succ nn ih =>
    intro x2 M out h0 F
    obtain ⟨w, h, k1, k2⟩ := itr_inv h0
    have h : m_J7_fill_53178_L5 M p0 p1 p3 x2 = some w := h
    unfold m_J7_fill_53178_L5 at h
    by_cases c1 : wr p3 ≤ wr x2
    · rw [if_pos c1] at h
      cases h
      cases k2 _ rfl
      exact F
    · rw [if_neg c1] at h
      obtain ⟨c2, h⟩ := of_ck h
      obtain ⟨M3, eM3, h⟩ := of_lt h
      have F := F.sI (by simp) eM3
      cases h
      exact ih _ _  _ (k1 _ rfl) F

set_option maxRecDepth 10000 in
theorem fr_J7_fill_53178 {M : Mem} {M2 : Mem} {a0 : Nat} {a1 : Int} (h : m_J7_fill_53178 M a0 a1 = some (M2)) : Fr [a0] M M2 := by
  unfold m_J7_fill_53178 at h
  have F : Fr [a0] M M := Fr.rf
  obtain ⟨y4, M5, h9, h⟩ := of_bd2 h
  have F := F.trans (fl_J7_fill_53178_L5 a0 a1 ((ly a0).2 : Int) FU _ _ _ h9 Fr.rf) (List.forall_mem_cons.mpr ⟨(by simp), fun _ h => absurd h List.not_mem_nil⟩)
  clear h9
  cases h
  exact F

set_option maxRecDepth 10000 in
theorem fl_X9_clear_L7 (p0 : Nat) {M0 : Mem} : ∀ (nn : Nat) (x1 : Int) (M : Mem) (out : Int × Mem), itr (fun s => m_X9_clear_L7 s.2 p0 s.1) nn (x1, M) = some out → Fr [(p0 + 1)] M0 M → Fr [(p0 + 1)] M0 out.2 := by
  intro nn
  induction nn with
  | zero =>
    intro x1 M out h _
    cases h
  | succ nn ih =>
    intro x1 M out h0 F
    obtain ⟨w, h, k1, k2⟩ := itr_inv h0
    have h : m_X9_clear_L7 M p0 x1 = some w := h
    unfold m_X9_clear_L7 at h
    by_cases c2 : wr 100 ≤ wr x1
    · rw [if_pos c2] at h
      cases h
      cases k2 _ rfl
      exact F
    · rw [if_neg c2] at h
      obtain ⟨c3, h⟩ := of_ck h
      obtain ⟨M4, eM4, h⟩ := of_lt h
      have F := F.sI (by simp) eM4
      cases h
      exact ih _ _  _ (k1 _ rfl) F

set_option maxRecDepth 10000 in
theorem fr_X9_clear {M : Mem} {M2 : Mem} {a0 : Nat} (h : m_X9_clear M a0 = some (M2)) : Fr [(a0 + 1), a0] M M2 := by
  unfold m_X9_clear at h
  have F : Fr [(a0 + 1), a0] M M := Fr.rf
  obtain ⟨M1, eM1, h⟩ := of_lt h
  have F := F.sI (by simp) eM1
  obtain ⟨y5, M6, h9, h⟩ := of_bd2 h
  have F := F.trans (fl_X9_clear_L7 a0 FU _ _ _ h9 Fr.rf) (List.forall_mem_cons.mpr ⟨(by simp), fun _ h => absurd h List.not_mem_nil⟩)
  clear h9
  cases h
  exact F

set_option maxRecDepth 10000 in
theorem fr_X9_reach {M : Mem} {M2 : Mem} {a0 : Nat} {a1 : Int} {r : Bool} (h : m_X9_reach M a0 a1 = some (r, M2)) : Fr [(a0 + 1), (a0 + 2), a0] M M2 := by
  unfold m_X9_reach at h
  have F : Fr [(a0 + 1), (a0 + 2), a0] M M := Fr.rf
  by_cases c1 : wr a1 < 0
  · rw [if_pos c1] at h
    cases h
    exact F
  · rw [if_neg c1] at h
    by_cases c2 : wr 100 ≤ wr a1
    · rw [if_pos c2] at h
      cases h
      exact F
    · rw [if_neg c2] at h
      obtain ⟨c3, h⟩ := of_ck h
      by_cases c4 : wr (gI M (a0 + 1) (wr a1)) = 0
      · rw [if_pos c4] at h
        obtain ⟨M5, eM5, h⟩ := of_lt h
        have F := F.sI (by simp) eM5
        obtain ⟨M6, eM6, h⟩ := of_lt h
        have F := F.sI (by simp) eM6
        obtain ⟨c7, h⟩ := of_ck h
        obtain ⟨M8, eM8, h⟩ := of_lt h
        have F := F.sI (by simp) eM8
        cases h
        exact F
      · rw [if_neg c4] at h
        cases h
        exact F

set_option maxRecDepth 10000 in
theorem fl_X1_measure_L15 (p2 : Nat) (p3 : Nat) {M0 : Mem} : ∀ (nn : Nat) (x4 : Int) (M : Mem) (out : Int × Mem), itr (fun s => m_X1_measure_L15 s.2 p2 p3 s.1) nn (x4, M) = some out → Fr [31, (31 + 1), (31 + 2)] M0 M → Fr [31, (31 + 1), (31 + 2)] M0 out.2 := by
  intro nn
  induction nn with
  | zero =>
    intro x4 M out h _
    cases h
  | succ nn ih =>
    intro x4 M out h0 F
    obtain ⟨w, h, k1, k2⟩ := itr_inv h0
    have h : m_X1_measure_L15 M p2 p3 x4 = some w := h
    unfold m_X1_measure_L15 at h
    by_cases c5 : wr 81 ≤ wr x4
    · rw [if_pos c5] at h
      cases h
      cases k2 _ rfl
      exact F
    · rw [if_neg c5] at h
      by_cases c6 : wr (gI M 31 2) = 0
      · rw [if_pos c6] at h
        obtain ⟨b8, hc7, h⟩ := of_bd1 h
        obtain ⟨M13, h9, h⟩ := of_bd1 h
        have F : Fr [31, (31 + 1), (31 + 2)] M0 M13 := by
          have h := h9
          by_cases c9 : wr (bI b8) = 0
          · rw [if_pos c9] at h
            cases h
            exact F
          · rw [if_neg c9] at h
            obtain ⟨b11, M12, hc10, h⟩ := of_bd2 h
            have F := F.trans (fr_X9_reach hc10) (List.forall_mem_cons.mpr ⟨(by simp), List.forall_mem_cons.mpr ⟨(by simp), List.forall_mem_cons.mpr ⟨(by simp), fun _ h => absurd h List.not_mem_nil⟩⟩⟩)
            cases h
            exact F
        clear h9
        cases h
        exact ih _ _  _ (k1 _ rfl) F
      · rw [if_neg c6] at h
        cases h
        cases k2 _ rfl
        exact F

set_option maxRecDepth 10000 in
theorem fl_X1_measure_L102 (p2 : Nat) (p3 : Nat) (p4 : Int) (p5 : Int) {M0 : Mem} : ∀ (nn : Nat) (x6 : Int) (M : Mem) (out : Int × Mem), itr (fun s => m_X1_measure_L102 s.2 p2 p3 p4 p5 s.1) nn (x6, M) = some out → Fr [31, (31 + 1), (31 + 2), p3] M0 M → Fr [31, (31 + 1), (31 + 2), p3] M0 out.2 := by
  intro nn
  induction nn with
  | zero =>
    intro x6 M out h _
    cases h
  | succ nn ih =>
    intro x6 M out h0 F
    obtain ⟨w, h, k1, k2⟩ := itr_inv h0
    have h : m_X1_measure_L102 M p2 p3 p4 p5 x6 = some w := h
    unfold m_X1_measure_L102 at h
    by_cases c19 : wr 4 ≤ wr x6
    · rw [if_pos c19] at h
      cases h
      cases k2 _ rfl
      exact F
    · rw [if_neg c19] at h
      obtain ⟨r21, hc20, h⟩ := of_bd1 h
      obtain ⟨M32, h9, h⟩ := of_bd1 h
      have F : Fr [31, (31 + 1), (31 + 2), p3] M0 M32 := by
        have h := h9
        by_cases c22 : wr r21 = 0
        · rw [if_pos c22] at h
          cases h
          exact F
        · rw [if_neg c22] at h
          by_cases c23 : wr (m_X1_cornerBeside p5 x6) < 0
          · rw [if_pos c23] at h
            cases h
            exact F
          · rw [if_neg c23] at h
            by_cases c24 : wr (m_X1_cornerBeside p5 x6) < wr 81
            · rw [if_pos c24] at h
              obtain ⟨b26, M27, hc25, h⟩ := of_bd2 h
              have F := F.trans (fr_X9_reach hc25) (List.forall_mem_cons.mpr ⟨(by simp), List.forall_mem_cons.mpr ⟨(by simp), List.forall_mem_cons.mpr ⟨(by simp), fun _ h => absurd h List.not_mem_nil⟩⟩⟩)
              by_cases c28 : wr (bI b26) = 0
              · rw [if_pos c28] at h
                cases h
                exact F
              · rw [if_neg c28] at h
                obtain ⟨c29, h⟩ := of_ck h
                obtain ⟨c30, h⟩ := of_ck h
                obtain ⟨M31, eM31, h⟩ := of_lt h
                have F := F.sI (by simp) eM31
                cases h
                exact F
            · rw [if_neg c24] at h
              cases h
              exact F
      clear h9
      cases h
      exact ih _ _  _ (k1 _ rfl) F

set_option maxRecDepth 10000 in
theorem fl_X1_measure_L68 (p2 : Nat) (p3 : Nat) {M0 : Mem} : ∀ (nn : Nat) (x4 : Int) (M : Mem) (out : Int × Mem), itr (fun s => m_X1_measure_L68 s.2 p2 p3 s.1) nn (x4, M) = some out → Fr [31, (31 + 1), (31 + 2), p3] M0 M → Fr [31, (31 + 1), (31 + 2), p3] M0 out.2 := by
  intro nn
  induction nn with
  | zero =>
    intro x4 M out h _
    cases h
  | succ nn ih =>
    intro x4 M out h0 F
    obtain ⟨w, h, k1, k2⟩ := itr_inv h0
    have h : m_X1_measure_L68 M p2 p3 x4 = some w := h
    unfold m_X1_measure_L68 at h
    by_cases c16 : wr 100 ≤ wr x4
    · rw [if_pos c16] at h
      cases h
      cases k2 _ rfl
      exact F
    · rw [if_neg c16] at h
      by_cases c17 : wr (gI M 31 2) ≤ wr x4
      · rw [if_pos c17] at h
        cases h
        cases k2 _ rfl
        exact F
      · rw [if_neg c17] at h
        obtain ⟨c18, h⟩ := of_ck h
        obtain ⟨y33, M34, h9, h⟩ := of_bd2 h
        have F := F.trans (fl_X1_measure_L102 p2 p3 x4 (gI M 33 (wr x4)) FU _ _ _ h9 Fr.rf) (List.forall_mem_cons.mpr ⟨(by simp), List.forall_mem_cons.mpr ⟨(by simp), List.forall_mem_cons.mpr ⟨(by simp), List.forall_mem_cons.mpr ⟨(by simp), fun _ h => absurd h List.not_mem_nil⟩⟩⟩⟩)
        clear h9
        cases h
        exact ih _ _  _ (k1 _ rfl) F

set_option maxRecDepth 10000 in
theorem fr_X1_measure {M : Mem} {M2 : Mem} {a2 : Nat} {a3 : Nat} (h : m_X1_measure M a2 a3 = some (M2)) : Fr [31, (31 + 1), (31 + 2), a3] M M2 := by
  unfold m_X1_measure at h
  have F : Fr [31, (31 + 1), (31 + 2), a3] M M := Fr.rf
  obtain ⟨M2, hc1, h⟩ := of_bd1 h
  have F := F.trans (fr_J7_fill_53178 hc1) (List.forall_mem_cons.mpr ⟨(by simp), fun _ h => absurd h List.not_mem_nil⟩)
  obtain ⟨M4, hc3, h⟩ := of_bd1 h
  have F := F.trans (fr_X9_clear hc3) (List.forall_mem_cons.mpr ⟨(by simp), List.forall_mem_cons.mpr ⟨(by simp), fun _ h => absurd h List.not_mem_nil⟩⟩)
  obtain ⟨y14, M15, h9, h⟩ := of_bd2 h
  have F := F.trans (fl_X1_measure_L15 a2 a3 FU _ _ _ h9 Fr.rf) (List.forall_mem_cons.mpr ⟨(by simp), List.forall_mem_cons.mpr ⟨(by simp), List.forall_mem_cons.mpr ⟨(by simp), fun _ h => absurd h List.not_mem_nil⟩⟩⟩)
  clear h9
  obtain ⟨y35, M36, h9, h⟩ := of_bd2 h
  have F := F.trans (fl_X1_measure_L68 a2 a3 FU _ _ _ h9 Fr.rf) (List.forall_mem_cons.mpr ⟨(by simp), List.forall_mem_cons.mpr ⟨(by simp), List.forall_mem_cons.mpr ⟨(by simp), List.forall_mem_cons.mpr ⟨(by simp), fun _ h => absurd h List.not_mem_nil⟩⟩⟩⟩)
  clear h9
  cases h
  exact F

set_option maxRecDepth 10000 in
theorem fr_X3_put {M : Mem} {M2 : Mem} {a0 : Nat} {a2 : Int} (h : m_X3_put M a0 a2 = some (M2)) : Fr [(a0 + 1)] M M2 := by
  unfold m_X3_put at h
  have F : Fr [(a0 + 1)] M M := Fr.rf
  obtain ⟨c1, h⟩ := of_ck h
  obtain ⟨M2, eM2, h⟩ := of_lt h
  have F := F.sI (by simp) eM2
  obtain ⟨r4, hc3, h⟩ := of_bd1 h
  obtain ⟨M8, h9, h⟩ := of_bd1 h
  have F : Fr [(a0 + 1)] M M8 := by
    have h := h9
    by_cases c5 : wr r4 < 0
    · rw [if_pos c5] at h
      cases h
      exact F
    · rw [if_neg c5] at h
      obtain ⟨c6, h⟩ := of_ck h
      obtain ⟨M7, eM7, h⟩ := of_lt h
      have F := F.sI (by simp) eM7
      cases h
      exact F
  clear h9
  cases h
  exact F

set_option maxRecDepth 10000 in
theorem fr_X1_makeTurn {M : Mem} {M2 : Mem} {a2 : Nat} {a3 : Int} {a4 : Int} (h : m_X1_makeTurn M a2 a3 a4 = some (M2)) : Fr [(a2 + 1)] M M2 := by
  unfold m_X1_makeTurn at h
  have F : Fr [(a2 + 1)] M M := Fr.rf
  obtain ⟨r2, hc1, h⟩ := of_bd1 h
  obtain ⟨r4, hc3, h⟩ := of_bd1 h
  obtain ⟨r6, hc5, h⟩ := of_bd1 h
  by_cases c7 : wr r2 < 0
  · rw [if_pos c7] at h
    cases h
    exact F
  · rw [if_neg c7] at h
    by_cases c8 : wr r4 < 0
    · rw [if_pos c8] at h
      cases h
      exact F
    · rw [if_neg c8] at h
      by_cases c9 : 0 ≤ wr r6
      · rw [if_pos c9] at h
        obtain ⟨c10, h⟩ := of_ck h
        obtain ⟨c11, h⟩ := of_ck h
        obtain ⟨M21, h9, h⟩ := of_bd1 h
        have F : Fr [(a2 + 1)] M M21 := by
          have h := h9
          by_cases c12 : wr (gI M (a2 + 1) (wr r2)) = wr (gI M (a2 + 1) (wr r4))
          · rw [if_pos c12] at h
            obtain ⟨M18, hc17, h⟩ := of_bd1 h
            have F := F.trans (fr_X3_put hc17) (List.forall_mem_cons.mpr ⟨(by simp), fun _ h => absurd h List.not_mem_nil⟩)
            obtain ⟨M20, hc19, h⟩ := of_bd1 h
            have F := F.trans (fr_X3_put hc19) (List.forall_mem_cons.mpr ⟨(by simp), fun _ h => absurd h List.not_mem_nil⟩)
            cases h
            exact F
          · rw [if_neg c12] at h
            obtain ⟨M14, hc13, h⟩ := of_bd1 h
            have F := F.trans (fr_X3_put hc13) (List.forall_mem_cons.mpr ⟨(by simp), fun _ h => absurd h List.not_mem_nil⟩)
            obtain ⟨M16, hc15, h⟩ := of_bd1 h
            have F := F.trans (fr_X3_put hc15) (List.forall_mem_cons.mpr ⟨(by simp), fun _ h => absurd h List.not_mem_nil⟩)
            cases h
            exact F
        clear h9
        cases h
        exact F
      · rw [if_neg c9] at h
        cases h
        exact F

set_option maxRecDepth 10000 in
theorem fl_X1_turnAll_L33 (p2 : Nat) (p3 : Int) (p5 : Int) (p6 : Int) (p7 : Int) {M0 : Mem} : ∀ (nn : Nat) (x4 : Int) (x8 : Int) (M : Mem) (out : Int × Int × Mem), itr (fun s => m_X1_turnAll_L33 s.2.2 p2 p3 p5 p6 p7 s.1 s.2.1) nn (x4, x8, M) = some out → Fr [(p2 + 1)] M0 M → Fr [(p2 + 1)] M0 out.2.2 := by
  intro nn
  induction nn with
  | zero =>
    intro x4 x8 M out h _
    cases h
  | succ nn ih =>
    intro x4 x8 M out h0 F
    obtain ⟨w, h, k1, k2⟩ := itr_inv h0
    have h : m_X1_turnAll_L33 M p2 p3 p5 p6 p7 x4 x8 = some w := h
    unfold m_X1_turnAll_L33 at h
    by_cases c3 : wr (gI M 1 0) ≤ wr x8
    · rw [if_pos c3] at h
      cases h
      cases k2 _ rfl
      exact F
    · rw [if_neg c3] at h
      obtain ⟨r5, hc4, h⟩ := of_bd1 h
      obtain ⟨v9, M10, h9, h⟩ := of_bd2 h
      have F : Fr [(p2 + 1)] M0 M10 := by
        have h := h9
        by_cases c6 : wr r5 = wr p3
        · rw [if_pos c6] at h
          obtain ⟨M8, hc7, h⟩ := of_bd1 h
          have F := F.trans (fr_X1_makeTurn hc7) (List.forall_mem_cons.mpr ⟨(by simp), fun _ h => absurd h List.not_mem_nil⟩)
          cases h
          exact F
        · rw [if_neg c6] at h
          cases h
          exact F
      clear h9
      cases h
      exact ih _ _ _  _ (k1 _ rfl) F

set_option maxRecDepth 10000 in
theorem fl_X1_turnAll_L21 (p2 : Nat) (p3 : Int) (p5 : Int) (p6 : Int) {M0 : Mem} : ∀ (nn : Nat) (x4 : Int) (x7 : Int) (M : Mem) (out : Int × Int × Mem), itr (fun s => m_X1_turnAll_L21 s.2.2 p2 p3 p5 p6 s.1 s.2.1) nn (x4, x7, M) = some out → Fr [(p2 + 1)] M0 M → Fr [(p2 + 1)] M0 out.2.2 := by
  intro nn
  induction nn with
  | zero =>
    intro x4 x7 M out h _
    cases h
  | succ nn ih =>
    intro x4 x7 M out h0 F
    obtain ⟨w, h, k1, k2⟩ := itr_inv h0
    have h : m_X1_turnAll_L21 M p2 p3 p5 p6 x4 x7 = some w := h
    unfold m_X1_turnAll_L21 at h
    by_cases c2 : wr (gI M 1 1) ≤ wr x7
    · rw [if_pos c2] at h
      cases h
      cases k2 _ rfl
      exact F
    · rw [if_neg c2] at h
      obtain ⟨y11, y12, M13, h9, h⟩ := of_bd3 h
      have F := F.trans (fl_X1_turnAll_L33 p2 p3 p5 p6 x7 FU _ _ _ _ h9 Fr.rf) (List.forall_mem_cons.mpr ⟨(by simp), fun _ h => absurd h List.not_mem_nil⟩)
      clear h9
      cases h
      exact ih _ _ _  _ (k1 _ rfl) F

set_option maxRecDepth 10000 in
theorem fl_X1_turnAll_L6 (p2 : Nat) (p3 : Int) {M0 : Mem} : ∀ (nn : Nat) (x4 : Int) (x5 : Int) (M : Mem) (out : Int × Int × Mem), itr (fun s => m_X1_turnAll_L6 s.2.2 p2 p3 s.1 s.2.1) nn (x4, x5, M) = some out → Fr [(p2 + 1)] M0 M → Fr [(p2 + 1)] M0 out.2.2 := by
  intro nn
  induction nn with
  | zero =>
    intro x4 x5 M out h _
    cases h
  | succ nn ih =>
    intro x4 x5 M out h0 F
    obtain ⟨w, h, k1, k2⟩ := itr_inv h0
    have h : m_X1_turnAll_L6 M p2 p3 x4 x5 = some w := h
    unfold m_X1_turnAll_L6 at h
    by_cases c1 : wr 10000 ≤ wr x5
    · rw [if_pos c1] at h
      cases h
      cases k2 _ rfl
      exact F
    · rw [if_neg c1] at h
      obtain ⟨y14, y15, M16, h9, h⟩ := of_bd3 h
      have F := F.trans (fl_X1_turnAll_L21 p2 p3 x5 x4 FU _ _ _ _ h9 Fr.rf) (List.forall_mem_cons.mpr ⟨(by simp), fun _ h => absurd h List.not_mem_nil⟩)
      clear h9
      by_cases c17 : wr y14 = wr x4
      · rw [if_pos c17] at h
        cases h
        cases k2 _ rfl
        exact F
      · rw [if_neg c17] at h
        cases h
        exact ih _ _ _  _ (k1 _ rfl) F

set_option maxRecDepth 10000 in
theorem fr_X1_turnAll {M : Mem} {M2 : Mem} {a2 : Nat} {a3 : Int} {r : Int} (h : m_X1_turnAll M a2 a3 = some (r, M2)) : Fr [(a2 + 1)] M M2 := by
  unfold m_X1_turnAll at h
  have F : Fr [(a2 + 1)] M M := Fr.rf
  obtain ⟨y18, y19, M20, h9, h⟩ := of_bd3 h
  have F := F.trans (fl_X1_turnAll_L6 a2 a3 FU _ _ _ _ h9 Fr.rf) (List.forall_mem_cons.mpr ⟨(by simp), fun _ h => absurd h List.not_mem_nil⟩)
  clear h9
  cases h
  exact F

set_option maxRecDepth 10000 in
theorem fr_X1_distance {M : Mem} {M2 : Mem} {a2 : Nat} {a3 : Nat} {r : Int} (h : m_X1_distance M a2 a3 = some (r, M2)) : Fr [29, 30, 31, (31 + 1), (31 + 2)] M M2 := by
  unfold m_X1_distance at h
  have F : Fr [29, 30, 31, (31 + 1), (31 + 2)] M M := Fr.rf
  obtain ⟨M2, hc1, h⟩ := of_bd1 h
  have F := F.trans (fr_X1_measure hc1) (List.forall_mem_cons.mpr ⟨(by simp), List.forall_mem_cons.mpr ⟨(by simp), List.forall_mem_cons.mpr ⟨(by simp), List.forall_mem_cons.mpr ⟨(by simp), fun _ h => absurd h List.not_mem_nil⟩⟩⟩⟩)
  obtain ⟨M4, hc3, h⟩ := of_bd1 h
  have F := F.trans (fr_X1_measure hc3) (List.forall_mem_cons.mpr ⟨(by simp), List.forall_mem_cons.mpr ⟨(by simp), List.forall_mem_cons.mpr ⟨(by simp), List.forall_mem_cons.mpr ⟨(by simp), fun _ h => absurd h List.not_mem_nil⟩⟩⟩⟩)
  obtain ⟨y7, y8, h9, h⟩ := of_bd2 h
  clear h9
  cases h
  exact F

set_option maxRecDepth 10000 in
theorem fl_X1_turnToward_L35 (p2 : Nat) (p4 : Int) {M0 : Mem} : ∀ (nn : Nat) (x5 : Int) (M : Mem) (out : (Int × Mem) ⊕ (Int × Mem)), itr (fun s => m_X1_turnToward_L35 s.2 p2 p4 s.1) nn (x5, M) = some out → Fr [(p2 + 1)] M0 M → (match out with | .inl s => Fr [(p2 + 1)] M0 s.2 | .inr r => Fr [(p2 + 1)] M0 r.2) := by
  intro nn
  induction nn with
  | zero =>
    intro x5 M out h _
    cases h
  | succ nn ih =>
    intro x5 M out h0 F
    obtain ⟨w, h, k1, k2⟩ := itr_inv h0
    have h : m_X1_turnToward_L35 M p2 p4 x5 = some w := h
    unfold m_X1_turnToward_L35 at h
    by_cases c6 : wr (gI M 1 0) ≤ wr x5
    · rw [if_pos c6] at h
      cases h
      cases k2 _ rfl
      exact F
    · rw [if_neg c6] at h
      obtain ⟨r8, hc7, h⟩ := of_bd1 h
      obtain ⟨c9, h⟩ := of_ck h
      by_cases c10 : wr r8 = wr 1
      · rw [if_pos c10] at h
        by_cases c15 : 0 < wr ((gI M 30 (wr ((p4 * 9) + x5))) - (gI M 29 (wr ((p4 * 9) + x5))))
        · rw [if_pos c15] at h
          obtain ⟨M17, hc16, h⟩ := of_bd1 h
          have F := F.trans (fr_X1_makeTurn hc16) (List.forall_mem_cons.mpr ⟨(by simp), fun _ h => absurd h List.not_mem_nil⟩)
          cases h
          cases k2 _ rfl
          exact F
        · rw [if_neg c15] at h
          by_cases c18 : wr r8 = 0
          · rw [if_pos c18] at h
            by_cases c19 : 0 ≤ wr ((gI M 30 (wr ((p4 * 9) + x5))) - (gI M 29 (wr ((p4 * 9) + x5))))
            · rw [if_pos c19] at h
              cases h
              exact ih _ _  _ (k1 _ rfl) F
            · rw [if_neg c19] at h
              obtain ⟨M21, hc20, h⟩ := of_bd1 h
              have F := F.trans (fr_X1_makeTurn hc20) (List.forall_mem_cons.mpr ⟨(by simp), fun _ h => absurd h List.not_mem_nil⟩)
              cases h
              cases k2 _ rfl
              exact F
          · rw [if_neg c18] at h
            cases h
            exact ih _ _  _ (k1 _ rfl) F
      · rw [if_neg c10] at h
        by_cases c11 : wr r8 = 0
        · rw [if_pos c11] at h
          by_cases c12 : 0 ≤ wr ((gI M 30 (wr ((p4 * 9) + x5))) - (gI M 29 (wr ((p4 * 9) + x5))))
          · rw [if_pos c12] at h
            cases h
            exact ih _ _  _ (k1 _ rfl) F
          · rw [if_neg c12] at h
            obtain ⟨M14, hc13, h⟩ := of_bd1 h
            have F := F.trans (fr_X1_makeTurn hc13) (List.forall_mem_cons.mpr ⟨(by simp), fun _ h => absurd h List.not_mem_nil⟩)
            cases h
            cases k2 _ rfl
            exact F
        · rw [if_neg c11] at h
          cases h
          exact ih _ _  _ (k1 _ rfl) F

set_option maxRecDepth 10000 in
theorem fl_X1_turnToward_L23 (p2 : Nat) {M0 : Mem} : ∀ (nn : Nat) (x4 : Int) (M : Mem) (out : (Int × Mem) ⊕ (Int × Mem)), itr (fun s => m_X1_turnToward_L23 s.2 p2 s.1) nn (x4, M) = some out → Fr [(p2 + 1)] M0 M → (match out with | .inl s => Fr [(p2 + 1)] M0 s.2 | .inr r => Fr [(p2 + 1)] M0 r.2) := by
  intro nn
  induction nn with
  | zero =>
    intro x4 M out h _
    cases h
  | succ nn ih =>
    intro x4 M out h0 F
    obtain ⟨w, h, k1, k2⟩ := itr_inv h0
    have h : m_X1_turnToward_L23 M p2 x4 = some w := h
    unfold m_X1_turnToward_L23 at h
    by_cases c5 : wr (gI M 1 1) ≤ wr x4
    · rw [if_pos c5] at h
      cases h
      cases k2 _ rfl
      exact F
    · rw [if_neg c5] at h
      obtain ⟨w9, h9, h⟩ := of_be2l h
      have F9 := fl_X1_turnToward_L35 p2 x4 FU _ _ w9 h9 Fr.rf
      rcases w9 with ⟨y22, M23⟩ | ⟨r9, M9⟩
      · have h := h.1 _ _  rfl
        have F := F.trans F9 (List.forall_mem_cons.mpr ⟨(by simp), fun _ h => absurd h List.not_mem_nil⟩)
        cases h
        exact ih _ _  _ (k1 _ rfl) F
      · have h := h.2 _ rfl
        have F := F.trans F9 (List.forall_mem_cons.mpr ⟨(by simp), fun _ h => absurd h List.not_mem_nil⟩)
        cases h
        cases k2 _ rfl
        exact F

set_option maxRecDepth 10000 in
theorem fr_X1_turnToward {M : Mem} {M2 : Mem} {a2 : Nat} {a3 : Nat} {r : Int} (h : m_X1_turnToward M a2 a3 = some (r, M2)) : Fr [29, 30, 31, (31 + 1), (31 + 2), (a2 + 1)] M M2 := by
  unfold m_X1_turnToward at h
  have F : Fr [29, 30, 31, (31 + 1), (31 + 2), (a2 + 1)] M M := Fr.rf
  obtain ⟨M2, hc1, h⟩ := of_bd1 h
  have F := F.trans (fr_X1_measure hc1) (List.forall_mem_cons.mpr ⟨(by simp), List.forall_mem_cons.mpr ⟨(by simp), List.forall_mem_cons.mpr ⟨(by simp), List.forall_mem_cons.mpr ⟨(by simp), fun _ h => absurd h List.not_mem_nil⟩⟩⟩⟩)
  obtain ⟨M4, hc3, h⟩ := of_bd1 h
  have F := F.trans (fr_X1_measure hc3) (List.forall_mem_cons.mpr ⟨(by simp), List.forall_mem_cons.mpr ⟨(by simp), List.forall_mem_cons.mpr ⟨(by simp), List.forall_mem_cons.mpr ⟨(by simp), fun _ h => absurd h List.not_mem_nil⟩⟩⟩⟩)
  obtain ⟨w9, h9, h⟩ := of_be2 h
  have F9 := fl_X1_turnToward_L23 a2 FU _ _ w9 h9 Fr.rf
  rcases w9 with ⟨y24, M25⟩ | ⟨r9, M9⟩
  · have h := h.1 _ _  rfl
    have F := F.trans F9 (List.forall_mem_cons.mpr ⟨(by simp), fun _ h => absurd h List.not_mem_nil⟩)
    cases h
    exact F
  · have h := h.2 _ rfl
    have F := F.trans F9 (List.forall_mem_cons.mpr ⟨(by simp), fun _ h => absurd h List.not_mem_nil⟩)
    cases h
    exact F

set_option maxRecDepth 10000 in
theorem fl_X2_swapPath_L4  {M0 : Mem} : ∀ (nn : Nat) (x2 : Int) (x3 : Int) (M : Mem) (out : (Int × Int × Mem) ⊕ (Mem)), itr (fun s => m_X2_swapPath_L4 s.2.2  s.1 s.2.1) nn (x2, x3, M) = some out → Fr [18] M0 M → (match out with | .inl s => Fr [18] M0 s.2.2 | .inr r => Fr [18] M0 r) := by
  intro nn
  induction nn with
  | zero =>
    intro x2 x3 M out h _
    cases h
  | succ nn ih =>
    intro x2 x3 M out h0 F
    obtain ⟨w, h, k1, k2⟩ := itr_inv h0
    have h : m_X2_swapPath_L4 M  x2 x3 = some w := h
    unfold m_X2_swapPath_L4 at h
    by_cases c1 : wr 64 ≤ wr x3
    · rw [if_pos c1] at h
      cases h
      cases k2 _ rfl
      exact F
    · rw [if_neg c1] at h
      by_cases c2 : wr x2 < 0
      · rw [if_pos c2] at h
        cases h
        cases k2 _ rfl
        exact F
      · rw [if_neg c2] at h
        obtain ⟨c3, h⟩ := of_ck h
        by_cases c4 : 0 ≤ wr (gI M 19 (wr x2))
        · rw [if_pos c4] at h
          obtain ⟨c5, h⟩ := of_ck h
          obtain ⟨M6, eM6, h⟩ := of_lt h
          have F := F.sI (by decide) eM6
          obtain ⟨M7, eM7, h⟩ := of_lt h
          have F := F.sI (by decide) eM7
          cases h
          exact ih _ _ _  _ (k1 _ rfl) F
        · rw [if_neg c4] at h
          cases h
          cases k2 _ rfl
          exact F

set_option maxRecDepth 10000 in
theorem fr_X2_swapPath {M : Mem} {M2 : Mem} {a1 : Int} (h : m_X2_swapPath M a1 = some (M2)) : Fr [18] M M2 := by
  unfold m_X2_swapPath at h
  have F : Fr [18] M M := Fr.rf
  obtain ⟨w9, h9, h⟩ := of_be3 h
  have F9 := fl_X2_swapPath_L4  FU _ _ _ w9 h9 Fr.rf
  rcases w9 with ⟨y8, y9, M10⟩ | ⟨M9⟩
  · have h := h.1 _ _ _  rfl
    have F := F.trans F9 (by decide)
    cases h
    exact F
  · have h := h.2 _ rfl
    have F := F.trans F9 (by decide)
    cases h
    exact F

set_option maxRecDepth 10000 in
theorem fl_X2_findMateFor_L57 (p3 : Int) (p4 : Int) {M0 : Mem} : ∀ (nn : Nat) (x5 : Int) (M : Mem) (out : (Int × Mem) ⊕ (Bool × Mem)), itr (fun s => m_X2_findMateFor_L57 s.2 p3 p4 s.1) nn (x5, M) = some out → Fr [18, 19, 21, (21 + 1), (21 + 2)] M0 M → (match out with | .inl s => Fr [18, 19, 21, (21 + 1), (21 + 2)] M0 s.2 | .inr r => Fr [18, 19, 21, (21 + 1), (21 + 2)] M0 r.2) := by
  intro nn
  induction nn with
  | zero =>
    intro x5 M out h _
    cases h
  | succ nn ih =>
    intro x5 M out h0 F
    obtain ⟨w, h, k1, k2⟩ := itr_inv h0
    have h : m_X2_findMateFor_L57 M p3 p4 x5 = some w := h
    unfold m_X2_findMateFor_L57 at h
    by_cases c11 : wr 4 ≤ wr x5
    · rw [if_pos c11] at h
      cases h
      cases k2 _ rfl
      exact F
    · rw [if_neg c11] at h
      obtain ⟨r13, hc12, h⟩ := of_bd1 h
      by_cases c14 : wr r13 < 0
      · rw [if_pos c14] at h
        cases h
        exact ih _ _  _ (k1 _ rfl) F
      · rw [if_neg c14] at h
        obtain ⟨c15, h⟩ := of_ck h
        by_cases c16 : wr (gI M 19 (wr r13)) < 0
        · rw [if_pos c16] at h
          obtain ⟨M17, eM17, h⟩ := of_lt h
          have F := F.sI (by simp) eM17
          by_cases c18 : 0 ≤ wr (gI M17 18 (wr r13))
          · rw [if_pos c18] at h
            obtain ⟨b20, M21, hc19, h⟩ := of_bd2 h
            have F := F.trans (fr_X9_reach hc19) (List.forall_mem_cons.mpr ⟨(by simp), List.forall_mem_cons.mpr ⟨(by simp), List.forall_mem_cons.mpr ⟨(by simp), fun _ h => absurd h List.not_mem_nil⟩⟩⟩)
            cases h
            exact ih _ _  _ (k1 _ rfl) F
          · rw [if_neg c18] at h
            obtain ⟨M23, hc22, h⟩ := of_bd1 h
            have F := F.trans (fr_X2_swapPath hc22) (List.forall_mem_cons.mpr ⟨(by simp), fun _ h => absurd h List.not_mem_nil⟩)
            cases h
            cases k2 _ rfl
            exact F
        · rw [if_neg c16] at h
          cases h
          exact ih _ _  _ (k1 _ rfl) F

set_option maxRecDepth 10000 in
theorem fl_X2_findMateFor_L26  {M0 : Mem} : ∀ (nn : Nat) (x3 : Int) (M : Mem) (out : (Int × Mem) ⊕ (Bool × Mem)), itr (fun s => m_X2_findMateFor_L26 s.2  s.1) nn (x3, M) = some out → Fr [18, 19, 21, (21 + 1), (21 + 2)] M0 M → (match out with | .inl s => Fr [18, 19, 21, (21 + 1), (21 + 2)] M0 s.2 | .inr r => Fr [18, 19, 21, (21 + 1), (21 + 2)] M0 r.2) := by
  intro nn
  induction nn with
  | zero =>
    intro x3 M out h _
    cases h
  | succ nn ih =>
    intro x3 M out h0 F
    obtain ⟨w, h, k1, k2⟩ := itr_inv h0
    have h : m_X2_findMateFor_L26 M  x3 = some w := h
    unfold m_X2_findMateFor_L26 at h
    by_cases c8 : wr 100 ≤ wr x3
    · rw [if_pos c8] at h
      cases h
      cases k2 _ rfl
      exact F
    · rw [if_neg c8] at h
      by_cases c9 : wr (gI M 21 2) ≤ wr x3
      · rw [if_pos c9] at h
        cases h
        cases k2 _ rfl
        exact F
      · rw [if_neg c9] at h
        obtain ⟨c10, h⟩ := of_ck h
        obtain ⟨w9, h9, h⟩ := of_be2l h
        have F9 := fl_X2_findMateFor_L57 x3 (gI M 23 (wr x3)) FU _ _ w9 h9 Fr.rf
        rcases w9 with ⟨y24, M25⟩ | ⟨r9, M9⟩
        · have h := h.1 _ _  rfl
          have F := F.trans F9 (List.forall_mem_cons.mpr ⟨(by simp), List.forall_mem_cons.mpr ⟨(by simp), List.forall_mem_cons.mpr ⟨(by simp), List.forall_mem_cons.mpr ⟨(by simp), List.forall_mem_cons.mpr ⟨(by simp), fun _ h => absurd h List.not_mem_nil⟩⟩⟩⟩⟩)
          cases h
          exact ih _ _  _ (k1 _ rfl) F
        · have h := h.2 _ rfl
          have F := F.trans F9 (List.forall_mem_cons.mpr ⟨(by simp), List.forall_mem_cons.mpr ⟨(by simp), List.forall_mem_cons.mpr ⟨(by simp), List.forall_mem_cons.mpr ⟨(by simp), List.forall_mem_cons.mpr ⟨(by simp), fun _ h => absurd h List.not_mem_nil⟩⟩⟩⟩⟩)
          cases h
          cases k2 _ rfl
          exact F

set_option maxRecDepth 10000 in
theorem fr_X2_findMateFor {M : Mem} {M2 : Mem} {a2 : Int} {r : Bool} (h : m_X2_findMateFor M a2 = some (r, M2)) : Fr [18, 19, 21, (21 + 1), (21 + 2)] M M2 := by
  unfold m_X2_findMateFor at h
  have F : Fr [18, 19, 21, (21 + 1), (21 + 2)] M M := Fr.rf
  obtain ⟨M2, hc1, h⟩ := of_bd1 h
  have F := F.trans (fr_J7_fill_53178 hc1) (List.forall_mem_cons.mpr ⟨(by simp), fun _ h => absurd h List.not_mem_nil⟩)
  obtain ⟨M4, hc3, h⟩ := of_bd1 h
  have F := F.trans (fr_X9_clear hc3) (List.forall_mem_cons.mpr ⟨(by simp), List.forall_mem_cons.mpr ⟨(by simp), fun _ h => absurd h List.not_mem_nil⟩⟩)
  obtain ⟨b6, M7, hc5, h⟩ := of_bd2 h
  have F := F.trans (fr_X9_reach hc5) (List.forall_mem_cons.mpr ⟨(by simp), List.forall_mem_cons.mpr ⟨(by simp), List.forall_mem_cons.mpr ⟨(by simp), fun _ h => absurd h List.not_mem_nil⟩⟩⟩)
  obtain ⟨w9, h9, h⟩ := of_be2 h
  have F9 := fl_X2_findMateFor_L26  FU _ _ w9 h9 Fr.rf
  rcases w9 with ⟨y26, M27⟩ | ⟨r9, M9⟩
  · have h := h.1 _ _  rfl
    have F := F.trans F9 (List.forall_mem_cons.mpr ⟨(by simp), List.forall_mem_cons.mpr ⟨(by simp), List.forall_mem_cons.mpr ⟨(by simp), List.forall_mem_cons.mpr ⟨(by simp), List.forall_mem_cons.mpr ⟨(by simp), fun _ h => absurd h List.not_mem_nil⟩⟩⟩⟩⟩)
    cases h
    exact F
  · have h := h.2 _ rfl
    have F := F.trans F9 (List.forall_mem_cons.mpr ⟨(by simp), List.forall_mem_cons.mpr ⟨(by simp), List.forall_mem_cons.mpr ⟨(by simp), List.forall_mem_cons.mpr ⟨(by simp), List.forall_mem_cons.mpr ⟨(by simp), fun _ h => absurd h List.not_mem_nil⟩⟩⟩⟩⟩)
    cases h
    exact F

set_option maxRecDepth 10000 in
theorem fl_X2_find_L12  {M0 : Mem} : ∀ (nn : Nat) (x2 : Int) (x3 : Int) (M : Mem) (out : Int × Int × Mem), itr (fun s => m_X2_find_L12 s.2.2  s.1 s.2.1) nn (x2, x3, M) = some out → Fr [18, 19, 21, (21 + 1), (21 + 2)] M0 M → Fr [18, 19, 21, (21 + 1), (21 + 2)] M0 out.2.2 := by
  intro nn
  induction nn with
  | zero =>
    intro x2 x3 M out h _
    cases h
  | succ nn ih =>
    intro x2 x3 M out h0 F
    obtain ⟨w, h, k1, k2⟩ := itr_inv h0
    have h : m_X2_find_L12 M  x2 x3 = some w := h
    unfold m_X2_find_L12 at h
    by_cases c3 : wr (m_X10_cells M) ≤ wr x3
    · rw [if_pos c3] at h
      cases h
      cases k2 _ rfl
      exact F
    · rw [if_neg c3] at h
      obtain ⟨c4, h⟩ := of_ck h
      obtain ⟨v12, M13, h9, h⟩ := of_bd2 h
      have F : Fr [18, 19, 21, (21 + 1), (21 + 2)] M0 M13 := by
        have h := h9
        by_cases c5 : wr (gI M 2 (wr x3)) = 0
        · rw [if_pos c5] at h
          cases h
          exact F
        · rw [if_neg c5] at h
          obtain ⟨b7, hc6, h⟩ := of_bd1 h
          by_cases c8 : wr (bI b7) = 0
          · rw [if_pos c8] at h
            cases h
            exact F
          · rw [if_neg c8] at h
            obtain ⟨b10, M11, hc9, h⟩ := of_bd2 h
            have F := F.trans (fr_X2_findMateFor hc9) (List.forall_mem_cons.mpr ⟨(by simp), List.forall_mem_cons.mpr ⟨(by simp), List.forall_mem_cons.mpr ⟨(by simp), List.forall_mem_cons.mpr ⟨(by simp), List.forall_mem_cons.mpr ⟨(by simp), fun _ h => absurd h List.not_mem_nil⟩⟩⟩⟩⟩)
            cases h
            exact F
      clear h9
      cases h
      exact ih _ _ _  _ (k1 _ rfl) F

set_option maxRecDepth 10000 in
theorem fr_X2_find {M : Mem} {M2 : Mem}  {r : Int} (h : m_X2_find M = some (r, M2)) : Fr [18, 19, 21, (21 + 1), (21 + 2)] M M2 := by
  unfold m_X2_find at h
  have F : Fr [18, 19, 21, (21 + 1), (21 + 2)] M M := Fr.rf
  obtain ⟨M2, hc1, h⟩ := of_bd1 h
  have F := F.trans (fr_J7_fill_53178 hc1) (List.forall_mem_cons.mpr ⟨(by simp), fun _ h => absurd h List.not_mem_nil⟩)
  obtain ⟨y14, y15, M16, h9, h⟩ := of_bd3 h
  have F := F.trans (fl_X2_find_L12  FU _ _ _ _ h9 Fr.rf) (List.forall_mem_cons.mpr ⟨(by simp), List.forall_mem_cons.mpr ⟨(by simp), List.forall_mem_cons.mpr ⟨(by simp), List.forall_mem_cons.mpr ⟨(by simp), List.forall_mem_cons.mpr ⟨(by simp), fun _ h => absurd h List.not_mem_nil⟩⟩⟩⟩⟩)
  clear h9
  cases h
  exact F

set_option maxRecDepth 10000 in
theorem fl_X2_markBar_L23 (p2 : Int) {M0 : Mem} : ∀ (nn : Nat) (x3 : Int) (M : Mem) (out : Int × Mem), itr (fun s => m_X2_markBar_L23 s.2 p2 s.1) nn (x3, M) = some out → Fr [21, (21 + 1), (21 + 2)] M0 M → Fr [21, (21 + 1), (21 + 2)] M0 out.2 := by
  intro nn
  induction nn with
  | zero =>
    intro x3 M out h _
    cases h
  | succ nn ih =>
    intro x3 M out h0 F
    obtain ⟨w, h, k1, k2⟩ := itr_inv h0
    have h : m_X2_markBar_L23 M p2 x3 = some w := h
    unfold m_X2_markBar_L23 at h
    by_cases c8 : wr (m_X10_cells M) ≤ wr x3
    · rw [if_pos c8] at h
      cases h
      cases k2 _ rfl
      exact F
    · rw [if_neg c8] at h
      obtain ⟨c9, h⟩ := of_ck h
      obtain ⟨M18, h9, h⟩ := of_bd1 h
      have F : Fr [21, (21 + 1), (21 + 2)] M0 M18 := by
        have h := h9
        by_cases c10 : wr (gI M 2 (wr x3)) = 0
        · rw [if_pos c10] at h
          cases h
          exact F
        · rw [if_neg c10] at h
          obtain ⟨b12, hc11, h⟩ := of_bd1 h
          by_cases c13 : wr (bI b12) = wr p2
          · rw [if_pos c13] at h
            by_cases c14 : 0 ≤ wr (gI M 18 (wr x3))
            · rw [if_pos c14] at h
              cases h
              exact F
            · rw [if_neg c14] at h
              obtain ⟨b16, M17, hc15, h⟩ := of_bd2 h
              have F := F.trans (fr_X9_reach hc15) (List.forall_mem_cons.mpr ⟨(by simp), List.forall_mem_cons.mpr ⟨(by simp), List.forall_mem_cons.mpr ⟨(by simp), fun _ h => absurd h List.not_mem_nil⟩⟩⟩)
              cases h
              exact F
          · rw [if_neg c13] at h
            cases h
            exact F
      clear h9
      cases h
      exact ih _ _  _ (k1 _ rfl) F

set_option maxRecDepth 10000 in
theorem fl_X2_markBar_L114 (p3 : Int) (p4 : Int) {M0 : Mem} : ∀ (nn : Nat) (x5 : Int) (M : Mem) (out : Int × Mem), itr (fun s => m_X2_markBar_L114 s.2 p3 p4 s.1) nn (x5, M) = some out → Fr [20, 21, (21 + 1), (21 + 2)] M0 M → Fr [20, 21, (21 + 1), (21 + 2)] M0 out.2 := by
  intro nn
  induction nn with
  | zero =>
    intro x5 M out h _
    cases h
  | succ nn ih =>
    intro x5 M out h0 F
    obtain ⟨w, h, k1, k2⟩ := itr_inv h0
    have h : m_X2_markBar_L114 M p3 p4 x5 = some w := h
    unfold m_X2_markBar_L114 at h
    by_cases c26 : wr 4 ≤ wr x5
    · rw [if_pos c26] at h
      cases h
      cases k2 _ rfl
      exact F
    · rw [if_neg c26] at h
      obtain ⟨r28, hc27, h⟩ := of_bd1 h
      obtain ⟨M35, h9, h⟩ := of_bd1 h
      have F : Fr [20, 21, (21 + 1), (21 + 2)] M0 M35 := by
        have h := h9
        by_cases c29 : 0 ≤ wr r28
        · rw [if_pos c29] at h
          obtain ⟨c30, h⟩ := of_ck h
          obtain ⟨M31, eM31, h⟩ := of_lt h
          have F := F.sI (by simp) eM31
          obtain ⟨b33, M34, hc32, h⟩ := of_bd2 h
          have F := F.trans (fr_X9_reach hc32) (List.forall_mem_cons.mpr ⟨(by simp), List.forall_mem_cons.mpr ⟨(by simp), List.forall_mem_cons.mpr ⟨(by simp), fun _ h => absurd h List.not_mem_nil⟩⟩⟩)
          cases h
          exact F
        · rw [if_neg c29] at h
          cases h
          exact F
      clear h9
      cases h
      exact ih _ _  _ (k1 _ rfl) F

set_option maxRecDepth 10000 in
theorem fl_X2_markBar_L75  {M0 : Mem} : ∀ (nn : Nat) (x3 : Int) (M : Mem) (out : Int × Mem), itr (fun s => m_X2_markBar_L75 s.2  s.1) nn (x3, M) = some out → Fr [20, 21, (21 + 1), (21 + 2)] M0 M → Fr [20, 21, (21 + 1), (21 + 2)] M0 out.2 := by
  intro nn
  induction nn with
  | zero =>
    intro x3 M out h _
    cases h
  | succ nn ih =>
    intro x3 M out h0 F
    obtain ⟨w, h, k1, k2⟩ := itr_inv h0
    have h : m_X2_markBar_L75 M  x3 = some w := h
    unfold m_X2_markBar_L75 at h
    by_cases c21 : wr 100 ≤ wr x3
    · rw [if_pos c21] at h
      cases h
      cases k2 _ rfl
      exact F
    · rw [if_neg c21] at h
      by_cases c22 : wr (gI M 21 2) ≤ wr x3
      · rw [if_pos c22] at h
        cases h
        cases k2 _ rfl
        exact F
      · rw [if_neg c22] at h
        obtain ⟨c23, h⟩ := of_ck h
        obtain ⟨c24, h⟩ := of_ck h
        obtain ⟨M25, eM25, h⟩ := of_lt h
        have F := F.sI (by simp) eM25
        obtain ⟨y36, M37, h9, h⟩ := of_bd2 h
        have F := F.trans (fl_X2_markBar_L114 x3 (gI M 23 (wr x3)) FU _ _ _ h9 Fr.rf) (List.forall_mem_cons.mpr ⟨(by simp), List.forall_mem_cons.mpr ⟨(by simp), List.forall_mem_cons.mpr ⟨(by simp), List.forall_mem_cons.mpr ⟨(by simp), fun _ h => absurd h List.not_mem_nil⟩⟩⟩⟩)
        clear h9
        cases h
        exact ih _ _  _ (k1 _ rfl) F

set_option maxRecDepth 10000 in
theorem fr_X2_markBar {M : Mem} {M2 : Mem} {a2 : Int} (h : m_X2_markBar M a2 = some (M2)) : Fr [18, 19, 20, 21, (21 + 1), (21 + 2)] M M2 := by
  unfold m_X2_markBar at h
  have F : Fr [18, 19, 20, 21, (21 + 1), (21 + 2)] M M := Fr.rf
  obtain ⟨r2, M3, hc1, h⟩ := of_bd2 h
  have F := F.trans (fr_X2_find hc1) (List.forall_mem_cons.mpr ⟨(by simp), List.forall_mem_cons.mpr ⟨(by simp), List.forall_mem_cons.mpr ⟨(by simp), List.forall_mem_cons.mpr ⟨(by simp), List.forall_mem_cons.mpr ⟨(by simp), fun _ h => absurd h List.not_mem_nil⟩⟩⟩⟩⟩)
  obtain ⟨M5, hc4, h⟩ := of_bd1 h
  have F := F.trans (fr_J7_fill_53178 hc4) (List.forall_mem_cons.mpr ⟨(by simp), fun _ h => absurd h List.not_mem_nil⟩)
  obtain ⟨M7, hc6, h⟩ := of_bd1 h
  have F := F.trans (fr_X9_clear hc6) (List.forall_mem_cons.mpr ⟨(by simp), List.forall_mem_cons.mpr ⟨(by simp), fun _ h => absurd h List.not_mem_nil⟩⟩)
  obtain ⟨y19, M20, h9, h⟩ := of_bd2 h
  have F := F.trans (fl_X2_markBar_L23 a2 FU _ _ _ h9 Fr.rf) (List.forall_mem_cons.mpr ⟨(by simp), List.forall_mem_cons.mpr ⟨(by simp), List.forall_mem_cons.mpr ⟨(by simp), fun _ h => absurd h List.not_mem_nil⟩⟩⟩)
  clear h9
  obtain ⟨y38, M39, h9, h⟩ := of_bd2 h
  have F := F.trans (fl_X2_markBar_L75  FU _ _ _ h9 Fr.rf) (List.forall_mem_cons.mpr ⟨(by simp), List.forall_mem_cons.mpr ⟨(by simp), List.forall_mem_cons.mpr ⟨(by simp), List.forall_mem_cons.mpr ⟨(by simp), fun _ h => absurd h List.not_mem_nil⟩⟩⟩⟩)
  clear h9
  cases h
  exact F

set_option maxRecDepth 10000 in
theorem fr_X3_take {M : Mem} {M2 : Mem} {a0 : Nat} {a1 : Nat} (h : m_X3_take M a0 a1 = some (M2)) : Fr [(a0 + 1), a0] M M2 := by
  unfold m_X3_take at h
  have F : Fr [(a0 + 1), a0] M M := Fr.rf
  obtain ⟨M1, eM1, h⟩ := of_lt h
  have F := F.sI (by simp) eM1
  obtain ⟨c2, h⟩ := of_ck h
  obtain ⟨M3, eM3, h⟩ := of_lt h
  have F := F.cpI (by simp) eM3
  cases h
  exact F

set_option maxRecDepth 10000 in
theorem fl_X3_takeBricks_L5 (M : Mem) (p0 : Nat) (p2 : Nat) {M0 : Mem} : ∀ (nn : Nat) (x3 : Int64) (x5 : Int) (out : (Int64 × Int) ⊕ (Bool × Mem)), itr (fun s => m_X3_takeBricks_L5 M p0 p2 s.1 s.2) nn (x3, x5) = some out → Fr [] M0 M → (match out with | .inl s => True | .inr r => Fr [] M0 r.2) := by
  intro nn
  induction nn with
  | zero =>
    intro x3 x5 out h _
    cases h
  | succ nn ih =>
    intro x3 x5 out h0 F
    obtain ⟨w, h, k1, k2⟩ := itr_inv h0
    have h : m_X3_takeBricks_L5 M p0 p2 x3 x5 = some w := h
    unfold m_X3_takeBricks_L5 at h
    by_cases c1 : wr (gI M p2 2) ≤ wr x5
    · rw [if_pos c1] at h
      cases h
      cases k2 _ rfl
      exact trivial
    · rw [if_neg c1] at h
      obtain ⟨c2, h⟩ := of_ck h
      obtain ⟨b4, hc3, h⟩ := of_bd1 h
      by_cases c5 : wr (bI b4) = 0
      · rw [if_pos c5] at h
        cases h
        cases k2 _ rfl
        exact F
      · rw [if_neg c5] at h
        obtain ⟨r7, hc6, h⟩ := of_bd1 h
        by_cases c8 : (x3 &&& ((lshl (1 : Int64) (idv (gI M (p2 + 1) (wr x5)) 2)) ||| (lshl (1 : Int64) r7))) = (0 : Int64)
        · rw [if_pos c8] at h
          cases h
          exact ih _ _  _ (k1 _ rfl) F
        · rw [if_neg c8] at h
          cases h
          cases k2 _ rfl
          exact F

set_option maxRecDepth 10000 in
theorem fl_X3_takeBricks_L91 (p0 : Nat) (p2 : Nat) {M0 : Mem} : ∀ (nn : Nat) (x5 : Int) (M : Mem) (out : Int × Mem), itr (fun s => m_X3_takeBricks_L91 s.2 p0 p2 s.1) nn (x5, M) = some out → Fr [(p0 + 1)] M0 M → Fr [(p0 + 1)] M0 out.2 := by
  intro nn
  induction nn with
  | zero =>
    intro x5 M out h _
    cases h
  | succ nn ih =>
    intro x5 M out h0 F
    obtain ⟨w, h, k1, k2⟩ := itr_inv h0
    have h : m_X3_takeBricks_L91 M p0 p2 x5 = some w := h
    unfold m_X3_takeBricks_L91 at h
    by_cases c14 : wr (gI M p2 2) ≤ wr x5
    · rw [if_pos c14] at h
      cases h
      cases k2 _ rfl
      exact F
    · rw [if_neg c14] at h
      obtain ⟨c15, h⟩ := of_ck h
      obtain ⟨M17, hc16, h⟩ := of_bd1 h
      have F := F.trans (fr_X3_put hc16) (List.forall_mem_cons.mpr ⟨(by simp), fun _ h => absurd h List.not_mem_nil⟩)
      cases h
      exact ih _ _  _ (k1 _ rfl) F

set_option maxRecDepth 10000 in
theorem fr_X3_takeBricks {M : Mem} {M2 : Mem} {a0 : Nat} {a2 : Nat} {r : Bool} (h : m_X3_takeBricks M a0 a2 = some (r, M2)) : Fr [(a0 + 1), a0] M M2 := by
  unfold m_X3_takeBricks at h
  have F : Fr [(a0 + 1), a0] M M := Fr.rf
  obtain ⟨w9, h9, h⟩ := of_be2 h
  have F9 := fl_X3_takeBricks_L5 M a0 a2 FU _ _ w9 h9 Fr.rf
  rcases w9 with ⟨y9, y10⟩ | ⟨r9, M9⟩
  · have h := h.1 _ _  rfl
    obtain ⟨r12, hc11, h⟩ := of_bd1 h
    by_cases c13 : wr (2 * (gI M a2 2)) = wr r12
    · rw [if_pos c13] at h
      obtain ⟨y18, M19, h9, h⟩ := of_bd2 h
      have F := F.trans (fl_X3_takeBricks_L91 a0 a2 FU _ _ _ h9 Fr.rf) (List.forall_mem_cons.mpr ⟨(by simp), fun _ h => absurd h List.not_mem_nil⟩)
      clear h9
      obtain ⟨M20, eM20, h⟩ := of_lt h
      have F := F.sI (by simp) eM20
      cases h
      exact F
    · rw [if_neg c13] at h
      cases h
      exact F
  · have h := h.2 _ rfl
    have F := F.trans F9 (fun _ h => absurd h List.not_mem_nil)
    cases h
    exact F

set_option maxRecDepth 10000 in
theorem fl_X4_goRound_L10 (p2 : Nat) (p3 : Nat) (p5 : Int) {M0 : Mem} : ∀ (nn : Nat) (x6 : Int) (x7 : Int) (x8 : Int) (M : Mem) (out : Int × Int × Int × Mem), itr (fun s => m_X4_goRound_L10 s.2.2.2 p2 p3 p5 s.1 s.2.1 s.2.2.1) nn (x6, x7, x8, M) = some out → Fr [36] M0 M → Fr [36] M0 out.2.2.2 := by
  intro nn
  induction nn with
  | zero =>
    intro x6 x7 x8 M out h _
    cases h
  | succ nn ih =>
    intro x6 x7 x8 M out h0 F
    obtain ⟨w, h, k1, k2⟩ := itr_inv h0
    have h : m_X4_goRound_L10 M p2 p3 p5 x6 x7 x8 = some w := h
    unfold m_X4_goRound_L10 at h
    by_cases c1 : wr 64 ≤ wr x8
    · rw [if_pos c1] at h
      cases h
      cases k2 _ rfl
      exact F
    · rw [if_neg c1] at h
      by_cases c2 : wr x7 < 0
      · rw [if_pos c2] at h
        cases h
        cases k2 _ rfl
        exact F
      · rw [if_neg c2] at h
        obtain ⟨c3, h⟩ := of_ck h
        by_cases c4 : 0 ≤ wr (gI M 36 (wr x7))
        · rw [if_pos c4] at h
          cases h
          cases k2 _ rfl
          exact F
        · rw [if_neg c4] at h
          obtain ⟨M5, eM5, h⟩ := of_lt h
          have F := F.sI (by decide) eM5
          obtain ⟨v7, ev7, h⟩ := of_lt h
          obtain ⟨r9, hc8, h⟩ := of_bd1 h
          cases h
          exact ih _ _ _ _  _ (k1 _ rfl) F

set_option maxRecDepth 10000 in
theorem fr_X4_goRound {M : Mem} {M2 : Mem} {a2 : Nat} {a3 : Nat} {a4 : Int} {a5 : Int} {r : Int} (h : m_X4_goRound M a2 a3 a4 a5 = some (r, M2)) : Fr [36] M M2 := by
  unfold m_X4_goRound at h
  have F : Fr [36] M M := Fr.rf
  obtain ⟨y10, y11, y12, M13, h9, h⟩ := of_bd4 h
  have F := F.trans (fl_X4_goRound_L10 a2 a3 a5 FU _ _ _ _ _ h9 Fr.rf) (by decide)
  clear h9
  cases h
  exact F

set_option maxRecDepth 10000 in
theorem fl_X4_trace_L14 (p2 : Nat) (p3 : Nat) {M0 : Mem} : ∀ (nn : Nat) (x4 : Int) (x5 : Int) (M : Mem) (out : Int × Int × Mem), itr (fun s => m_X4_trace_L14 s.2.2 p2 p3 s.1 s.2.1) nn (x4, x5, M) = some out → Fr [35, 36] M0 M → Fr [35, 36] M0 out.2.2 := by
  intro nn
  induction nn with
  | zero =>
    intro x4 x5 M out h _
    cases h
  | succ nn ih =>
    intro x4 x5 M out h0 F
    obtain ⟨w, h, k1, k2⟩ := itr_inv h0
    have h : m_X4_trace_L14 M p2 p3 x4 x5 = some w := h
    unfold m_X4_trace_L14 at h
    by_cases c3 : wr (m_X10_cells M) ≤ wr x5
    · rw [if_pos c3] at h
      cases h
      cases k2 _ rfl
      exact F
    · rw [if_neg c3] at h
      obtain ⟨c4, h⟩ := of_ck h
      obtain ⟨v13, M14, h9, h⟩ := of_bd2 h
      have F : Fr [35, 36] M0 M14 := by
        have h := h9
        by_cases c5 : wr (gI M 2 (wr x5)) = 0
        · rw [if_pos c5] at h
          cases h
          exact F
        · rw [if_neg c5] at h
          by_cases c6 : 0 ≤ wr (gI M 36 (wr x5))
          · rw [if_pos c6] at h
            cases h
            exact F
          · rw [if_neg c6] at h
            by_cases c7 : wr (gI M (p2 + 1) (wr x5)) = wr (gI M (p3 + 1) (wr x5))
            · rw [if_pos c7] at h
              cases h
              exact F
            · rw [if_neg c7] at h
              obtain ⟨r9, M10, hc8, h⟩ := of_bd2 h
              have F := F.trans (fr_X4_goRound hc8) (by decide)
              obtain ⟨c11, h⟩ := of_ck h
              obtain ⟨M12, eM12, h⟩ := of_lt h
              have F := F.sI (by decide) eM12
              cases h
              exact F
      clear h9
      cases h
      exact ih _ _ _  _ (k1 _ rfl) F

set_option maxRecDepth 10000 in
theorem fr_X4_trace {M : Mem} {M2 : Mem} {a2 : Nat} {a3 : Nat} {r : Int} (h : m_X4_trace M a2 a3 = some (r, M2)) : Fr [35, 36] M M2 := by
  unfold m_X4_trace at h
  have F : Fr [35, 36] M M := Fr.rf
  obtain ⟨M2, hc1, h⟩ := of_bd1 h
  have F := F.trans (fr_J7_fill_53178 hc1) (by decide)
  obtain ⟨y15, y16, M17, h9, h⟩ := of_bd3 h
  have F := F.trans (fl_X4_trace_L14 a2 a3 FU _ _ _ _ h9 Fr.rf) (by decide)
  clear h9
  cases h
  exact F

set_option maxRecDepth 10000 in
theorem fl_X4_takeOver_L3 (p2 : Nat) (p3 : Nat) (p4 : Int) {M0 : Mem} : ∀ (nn : Nat) (x5 : Int) (M : Mem) (out : Int × Mem), itr (fun s => m_X4_takeOver_L3 s.2 p2 p3 p4 s.1) nn (x5, M) = some out → Fr [(p2 + 1)] M0 M → Fr [(p2 + 1)] M0 out.2 := by
  intro nn
  induction nn with
  | zero =>
    intro x5 M out h _
    cases h
  | succ nn ih =>
    intro x5 M out h0 F
    obtain ⟨w, h, k1, k2⟩ := itr_inv h0
    have h : m_X4_takeOver_L3 M p2 p3 p4 x5 = some w := h
    unfold m_X4_takeOver_L3 at h
    by_cases c1 : wr (m_X10_cells M) ≤ wr x5
    · rw [if_pos c1] at h
      cases h
      cases k2 _ rfl
      exact F
    · rw [if_neg c1] at h
      obtain ⟨c2, h⟩ := of_ck h
      obtain ⟨M5, h9, h⟩ := of_bd1 h
      have F : Fr [(p2 + 1)] M0 M5 := by
        have h := h9
        by_cases c3 : wr (gI M 36 (wr x5)) = wr p4
        · rw [if_pos c3] at h
          obtain ⟨M4, eM4, h⟩ := of_lt h
          have F := F.sI (by simp) eM4
          cases h
          exact F
        · rw [if_neg c3] at h
          cases h
          exact F
      clear h9
      cases h
      exact ih _ _  _ (k1 _ rfl) F

set_option maxRecDepth 10000 in
theorem fr_X4_takeOver {M : Mem} {M2 : Mem} {a2 : Nat} {a3 : Nat} {a4 : Int} (h : m_X4_takeOver M a2 a3 a4 = some (M2)) : Fr [(a2 + 1)] M M2 := by
  unfold m_X4_takeOver at h
  have F : Fr [(a2 + 1)] M M := Fr.rf
  obtain ⟨y6, M7, h9, h⟩ := of_bd2 h
  have F := F.trans (fl_X4_takeOver_L3 a2 a3 a4 FU _ _ _ h9 Fr.rf) (List.forall_mem_cons.mpr ⟨(by simp), fun _ h => absurd h List.not_mem_nil⟩)
  clear h9
  cases h
  exact F

set_option maxRecDepth 10000 in
theorem fl_X5_openIsOne_L9  {M0 : Mem} : ∀ (nn : Nat) (x2 : Int) (M : Mem) (out : Int × Mem), itr (fun s => m_X5_openIsOne_L9 s.2  s.1) nn (x2, M) = some out → Fr [25, (25 + 1), (25 + 2)] M0 M → Fr [25, (25 + 1), (25 + 2)] M0 out.2 := by
  intro nn
  induction nn with
  | zero =>
    intro x2 M out h _
    cases h
  | succ nn ih =>
    intro x2 M out h0 F
    obtain ⟨w, h, k1, k2⟩ := itr_inv h0
    have h : m_X5_openIsOne_L9 M  x2 = some w := h
    unfold m_X5_openIsOne_L9 at h
    by_cases c3 : wr (m_X10_cells M) ≤ wr x2
    · rw [if_pos c3] at h
      cases h
      cases k2 _ rfl
      exact F
    · rw [if_neg c3] at h
      by_cases c4 : wr (gI M 25 2) = 0
      · rw [if_pos c4] at h
        obtain ⟨c5, h⟩ := of_ck h
        obtain ⟨M10, h9, h⟩ := of_bd1 h
        have F : Fr [25, (25 + 1), (25 + 2)] M0 M10 := by
          have h := h9
          by_cases c6 : wr (gI M 2 (wr x2)) = 0
          · rw [if_pos c6] at h
            cases h
            exact F
          · rw [if_neg c6] at h
            obtain ⟨b8, M9, hc7, h⟩ := of_bd2 h
            have F := F.trans (fr_X9_reach hc7) (List.forall_mem_cons.mpr ⟨(by simp), List.forall_mem_cons.mpr ⟨(by simp), List.forall_mem_cons.mpr ⟨(by simp), fun _ h => absurd h List.not_mem_nil⟩⟩⟩)
            cases h
            exact F
        clear h9
        cases h
        exact ih _ _  _ (k1 _ rfl) F
      · rw [if_neg c4] at h
        cases h
        cases k2 _ rfl
        exact F

set_option maxRecDepth 10000 in
theorem fl_X5_openIsOne_L72 (p2 : Int) {M0 : Mem} : ∀ (nn : Nat) (x3 : Int) (M : Mem) (out : Int × Mem), itr (fun s => m_X5_openIsOne_L72 s.2 p2 s.1) nn (x3, M) = some out → Fr [25, (25 + 1), (25 + 2)] M0 M → Fr [25, (25 + 1), (25 + 2)] M0 out.2 := by
  intro nn
  induction nn with
  | zero =>
    intro x3 M out h _
    cases h
  | succ nn ih =>
    intro x3 M out h0 F
    obtain ⟨w, h, k1, k2⟩ := itr_inv h0
    have h : m_X5_openIsOne_L72 M p2 x3 = some w := h
    unfold m_X5_openIsOne_L72 at h
    by_cases c15 : wr 4 ≤ wr x3
    · rw [if_pos c15] at h
      cases h
      cases k2 _ rfl
      exact F
    · rw [if_neg c15] at h
      obtain ⟨c16, h⟩ := of_ck h
      obtain ⟨r18, hc17, h⟩ := of_bd1 h
      obtain ⟨b20, M21, hc19, h⟩ := of_bd2 h
      have F := F.trans (fr_X9_reach hc19) (List.forall_mem_cons.mpr ⟨(by simp), List.forall_mem_cons.mpr ⟨(by simp), List.forall_mem_cons.mpr ⟨(by simp), fun _ h => absurd h List.not_mem_nil⟩⟩⟩)
      cases h
      exact ih _ _  _ (k1 _ rfl) F

set_option maxRecDepth 10000 in
theorem fl_X5_openIsOne_L53  {M0 : Mem} : ∀ (nn : Nat) (x2 : Int) (M : Mem) (out : Int × Mem), itr (fun s => m_X5_openIsOne_L53 s.2  s.1) nn (x2, M) = some out → Fr [25, (25 + 1), (25 + 2)] M0 M → Fr [25, (25 + 1), (25 + 2)] M0 out.2 := by
  intro nn
  induction nn with
  | zero =>
    intro x2 M out h _
    cases h
  | succ nn ih =>
    intro x2 M out h0 F
    obtain ⟨w, h, k1, k2⟩ := itr_inv h0
    have h : m_X5_openIsOne_L53 M  x2 = some w := h
    unfold m_X5_openIsOne_L53 at h
    by_cases c13 : wr 100 ≤ wr x2
    · rw [if_pos c13] at h
      cases h
      cases k2 _ rfl
      exact F
    · rw [if_neg c13] at h
      by_cases c14 : wr (gI M 25 2) ≤ wr x2
      · rw [if_pos c14] at h
        cases h
        cases k2 _ rfl
        exact F
      · rw [if_neg c14] at h
        obtain ⟨y22, M23, h9, h⟩ := of_bd2 h
        have F := F.trans (fl_X5_openIsOne_L72 x2 FU _ _ _ h9 Fr.rf) (List.forall_mem_cons.mpr ⟨(by simp), List.forall_mem_cons.mpr ⟨(by simp), List.forall_mem_cons.mpr ⟨(by simp), fun _ h => absurd h List.not_mem_nil⟩⟩⟩)
        clear h9
        cases h
        exact ih _ _  _ (k1 _ rfl) F

set_option maxRecDepth 10000 in
theorem fr_X5_openIsOne {M : Mem} {M2 : Mem}  {r : Bool} (h : m_X5_openIsOne M = some (r, M2)) : Fr [25, (25 + 1), (25 + 2)] M M2 := by
  unfold m_X5_openIsOne at h
  have F : Fr [25, (25 + 1), (25 + 2)] M M := Fr.rf
  obtain ⟨M2, hc1, h⟩ := of_bd1 h
  have F := F.trans (fr_X9_clear hc1) (List.forall_mem_cons.mpr ⟨(by simp), List.forall_mem_cons.mpr ⟨(by simp), fun _ h => absurd h List.not_mem_nil⟩⟩)
  obtain ⟨y11, M12, h9, h⟩ := of_bd2 h
  have F := F.trans (fl_X5_openIsOne_L9  FU _ _ _ h9 Fr.rf) (List.forall_mem_cons.mpr ⟨(by simp), List.forall_mem_cons.mpr ⟨(by simp), List.forall_mem_cons.mpr ⟨(by simp), fun _ h => absurd h List.not_mem_nil⟩⟩⟩)
  clear h9
  obtain ⟨y24, M25, h9, h⟩ := of_bd2 h
  have F := F.trans (fl_X5_openIsOne_L53  FU _ _ _ h9 Fr.rf) (List.forall_mem_cons.mpr ⟨(by simp), List.forall_mem_cons.mpr ⟨(by simp), List.forall_mem_cons.mpr ⟨(by simp), fun _ h => absurd h List.not_mem_nil⟩⟩⟩)
  clear h9
  obtain ⟨v30, h9, h⟩ := of_bd1 h
  clear h9
  obtain ⟨cz, h⟩ := of_ck h
  cases h
  exact F

set_option maxRecDepth 10000 in
theorem fl_X5_closedIsOne_L37 (p2 : Int) {M0 : Mem} : ∀ (nn : Nat) (x3 : Int) (M : Mem) (out : Int × Mem), itr (fun s => m_X5_closedIsOne_L37 s.2 p2 s.1) nn (x3, M) = some out → Fr [25, (25 + 1), (25 + 2)] M0 M → Fr [25, (25 + 1), (25 + 2)] M0 out.2 := by
  intro nn
  induction nn with
  | zero =>
    intro x3 M out h _
    cases h
  | succ nn ih =>
    intro x3 M out h0 F
    obtain ⟨w, h, k1, k2⟩ := itr_inv h0
    have h : m_X5_closedIsOne_L37 M p2 x3 = some w := h
    unfold m_X5_closedIsOne_L37 at h
    by_cases c8 : wr 9 ≤ wr x3
    · rw [if_pos c8] at h
      cases h
      cases k2 _ rfl
      exact F
    · rw [if_neg c8] at h
      obtain ⟨c9, h⟩ := of_ck h
      obtain ⟨b11, hc10, h⟩ := of_bd1 h
      obtain ⟨M16, h9, h⟩ := of_bd1 h
      have F : Fr [25, (25 + 1), (25 + 2)] M0 M16 := by
        have h := h9
        by_cases c12 : wr (bI b11) = 0
        · rw [if_pos c12] at h
          cases h
          exact F
        · rw [if_neg c12] at h
          obtain ⟨b14, M15, hc13, h⟩ := of_bd2 h
          have F := F.trans (fr_X9_reach hc13) (List.forall_mem_cons.mpr ⟨(by simp), List.forall_mem_cons.mpr ⟨(by simp), List.forall_mem_cons.mpr ⟨(by simp), fun _ h => absurd h List.not_mem_nil⟩⟩⟩)
          cases h
          exact F
      clear h9
      cases h
      exact ih _ _  _ (k1 _ rfl) F

set_option maxRecDepth 10000 in
theorem fl_X5_closedIsOne_L18  {M0 : Mem} : ∀ (nn : Nat) (x2 : Int) (M : Mem) (out : Int × Mem), itr (fun s => m_X5_closedIsOne_L18 s.2  s.1) nn (x2, M) = some out → Fr [25, (25 + 1), (25 + 2)] M0 M → Fr [25, (25 + 1), (25 + 2)] M0 out.2 := by
  intro nn
  induction nn with
  | zero =>
    intro x2 M out h _
    cases h
  | succ nn ih =>
    intro x2 M out h0 F
    obtain ⟨w, h, k1, k2⟩ := itr_inv h0
    have h : m_X5_closedIsOne_L18 M  x2 = some w := h
    unfold m_X5_closedIsOne_L18 at h
    by_cases c6 : wr 100 ≤ wr x2
    · rw [if_pos c6] at h
      cases h
      cases k2 _ rfl
      exact F
    · rw [if_neg c6] at h
      by_cases c7 : wr (gI M 25 2) ≤ wr x2
      · rw [if_pos c7] at h
        cases h
        cases k2 _ rfl
        exact F
      · rw [if_neg c7] at h
        obtain ⟨y17, M18, h9, h⟩ := of_bd2 h
        have F := F.trans (fl_X5_closedIsOne_L37 x2 FU _ _ _ h9 Fr.rf) (List.forall_mem_cons.mpr ⟨(by simp), List.forall_mem_cons.mpr ⟨(by simp), List.forall_mem_cons.mpr ⟨(by simp), fun _ h => absurd h List.not_mem_nil⟩⟩⟩)
        clear h9
        cases h
        exact ih _ _  _ (k1 _ rfl) F

set_option maxRecDepth 10000 in
theorem fr_X5_closedIsOne {M : Mem} {M2 : Mem}  {r : Bool} (h : m_X5_closedIsOne M = some (r, M2)) : Fr [25, (25 + 1), (25 + 2)] M M2 := by
  unfold m_X5_closedIsOne at h
  have F : Fr [25, (25 + 1), (25 + 2)] M M := Fr.rf
  obtain ⟨M2, hc1, h⟩ := of_bd1 h
  have F := F.trans (fr_X9_clear hc1) (List.forall_mem_cons.mpr ⟨(by simp), List.forall_mem_cons.mpr ⟨(by simp), fun _ h => absurd h List.not_mem_nil⟩⟩)
  obtain ⟨b4, M5, hc3, h⟩ := of_bd2 h
  have F := F.trans (fr_X9_reach hc3) (List.forall_mem_cons.mpr ⟨(by simp), List.forall_mem_cons.mpr ⟨(by simp), List.forall_mem_cons.mpr ⟨(by simp), fun _ h => absurd h List.not_mem_nil⟩⟩⟩)
  obtain ⟨y19, M20, h9, h⟩ := of_bd2 h
  have F := F.trans (fl_X5_closedIsOne_L18  FU _ _ _ h9 Fr.rf) (List.forall_mem_cons.mpr ⟨(by simp), List.forall_mem_cons.mpr ⟨(by simp), List.forall_mem_cons.mpr ⟨(by simp), fun _ h => absurd h List.not_mem_nil⟩⟩⟩)
  clear h9
  obtain ⟨r22, hc21, h⟩ := of_bd1 h
  obtain ⟨v24, ev24, h⟩ := of_lt h
  obtain ⟨cz, h⟩ := of_ck h
  cases h
  exact F

set_option maxRecDepth 10000 in
theorem fr_X5_isWhole {M : Mem} {M2 : Mem}  {r : Bool} (h : m_X5_isWhole M = some (r, M2)) : Fr [25, (25 + 1), (25 + 2)] M M2 := by
  unfold m_X5_isWhole at h
  have F : Fr [25, (25 + 1), (25 + 2)] M M := Fr.rf
  obtain ⟨b2, M3, hc1, h⟩ := of_bd2 h
  have F := F.trans (fr_X5_openIsOne hc1) (List.forall_mem_cons.mpr ⟨(by simp), List.forall_mem_cons.mpr ⟨(by simp), List.forall_mem_cons.mpr ⟨(by simp), fun _ h => absurd h List.not_mem_nil⟩⟩⟩)
  obtain ⟨v12, M13, h9, h⟩ := of_bd2 h
  have F : Fr [25, (25 + 1), (25 + 2)] M M13 := by
    have h := h9
    by_cases c4 : wr (bI b2) = 0
    · rw [if_pos c4] at h
      cases h
      exact F
    · rw [if_neg c4] at h
      obtain ⟨b6, M7, hc5, h⟩ := of_bd2 h
      have F := F.trans (fr_X5_closedIsOne hc5) (List.forall_mem_cons.mpr ⟨(by simp), List.forall_mem_cons.mpr ⟨(by simp), List.forall_mem_cons.mpr ⟨(by simp), fun _ h => absurd h List.not_mem_nil⟩⟩⟩)
      by_cases c8 : wr (bI b6) = 0
      · rw [if_pos c8] at h
        cases h
        exact F
      · rw [if_neg c8] at h
        obtain ⟨b10, hc9, h⟩ := of_bd1 h
        by_cases c11 : wr (bI b10) = 0
        · rw [if_pos c11] at h
          cases h
          exact F
        · rw [if_neg c11] at h
          cases h
          exact F
  clear h9
  obtain ⟨cz, h⟩ := of_ck h
  cases h
  exact F

set_option maxRecDepth 10000 in
theorem fr_X6_start {M : Mem} {M2 : Mem} {a0 : Nat} {a1 : Int} {a2 : Int} (h : m_X6_start M a0 a1 a2 = some (M2)) : Fr [(a0 + 1), a0] M M2 := by
  unfold m_X6_start at h
  have F : Fr [(a0 + 1), a0] M M := Fr.rf
  obtain ⟨M1, eM1, h⟩ := of_lt h
  have F := F.sI (by simp) eM1
  obtain ⟨M2, eM2, h⟩ := of_lt h
  have F := F.sI (by simp) eM2
  obtain ⟨M3, eM3, h⟩ := of_lt h
  have F := F.sI (by simp) eM3
  obtain ⟨M5, hc4, h⟩ := of_bd1 h
  have F := F.trans (fr_J7_fill_53178 hc4) (List.forall_mem_cons.mpr ⟨(by simp), fun _ h => absurd h List.not_mem_nil⟩)
  cases h
  exact F

set_option maxRecDepth 10000 in
theorem fr_X6_put {M : Mem} {M2 : Mem} {a0 : Nat} {a1 : Int} {a2 : Int} (h : m_X6_put M a0 a1 a2 = some (M2)) : Fr [(a0 + 1)] M M2 := by
  unfold m_X6_put at h
  have F : Fr [(a0 + 1)] M M := Fr.rf
  obtain ⟨M10, h9, h⟩ := of_bd1 h
  have F : Fr [(a0 + 1)] M M10 := by
    have h := h9
    by_cases c1 : wr (gI M a0 1) = 0
    · rw [if_pos c1] at h
      obtain ⟨v7, ev7, h⟩ := of_lt h
      obtain ⟨c8, h⟩ := of_ck h
      obtain ⟨M9, eM9, h⟩ := of_lt h
      have F := F.sI (by simp) eM9
      cases h
      exact F
    · rw [if_neg c1] at h
      obtain ⟨v3, ev3, h⟩ := of_lt h
      obtain ⟨c4, h⟩ := of_ck h
      obtain ⟨M5, eM5, h⟩ := of_lt h
      have F := F.sI (by simp) eM5
      cases h
      exact F
  clear h9
  cases h
  exact F

set_option maxRecDepth 10000 in
theorem fr_X7_forget {M : Mem} {M2 : Mem}  (h : m_X7_forget M = some (M2)) : Fr [8] M M2 := by
  unfold m_X7_forget at h
  have F : Fr [8] M M := Fr.rf
  obtain ⟨M1, eM1, h⟩ := of_lt h
  have F := F.sI (by decide) eM1
  obtain ⟨M2, eM2, h⟩ := of_lt h
  have F := F.sI (by decide) eM2
  cases h
  exact F

set_option maxRecDepth 10000 in
theorem fl_X7_dropOthers_L8 (p2 : Int) (p3 : Int) {M0 : Mem} : ∀ (nn : Nat) (x4 : Int) (M : Mem) (out : Int × Mem), itr (fun s => m_X7_dropOthers_L8 s.2 p2 p3 s.1) nn (x4, M) = some out → Fr [11] M0 M → Fr [11] M0 out.2 := by
  intro nn
  induction nn with
  | zero =>
    intro x4 M out h _
    cases h
  | succ nn ih =>
    intro x4 M out h0 F
    obtain ⟨w, h, k1, k2⟩ := itr_inv h0
    have h : m_X7_dropOthers_L8 M p2 p3 x4 = some w := h
    unfold m_X7_dropOthers_L8 at h
    by_cases c2 : wr 4 ≤ wr x4
    · rw [if_pos c2] at h
      cases h
      cases k2 _ rfl
      exact F
    · rw [if_neg c2] at h
      obtain ⟨r4, hc3, h⟩ := of_bd1 h
      obtain ⟨M9, h9, h⟩ := of_bd1 h
      have F : Fr [11] M0 M9 := by
        have h := h9
        by_cases c5 : wr r4 < 0
        · rw [if_pos c5] at h
          cases h
          exact F
        · rw [if_neg c5] at h
          by_cases c6 : wr r4 = wr p3
          · rw [if_pos c6] at h
            cases h
            exact F
          · rw [if_neg c6] at h
            obtain ⟨c7, h⟩ := of_ck h
            obtain ⟨M8, eM8, h⟩ := of_lt h
            have F := F.sI (by decide) eM8
            cases h
            exact F
      clear h9
      cases h
      exact ih _ _  _ (k1 _ rfl) F

set_option maxRecDepth 10000 in
theorem fr_X7_dropOthers {M : Mem} {M2 : Mem} {a2 : Int} {a3 : Int} (h : m_X7_dropOthers M a2 a3 = some (M2)) : Fr [11] M M2 := by
  unfold m_X7_dropOthers at h
  have F : Fr [11] M M := Fr.rf
  by_cases c1 : 0 ≤ wr a2
  · rw [if_pos c1] at h
    obtain ⟨y10, M11, h9, h⟩ := of_bd2 h
    have F := F.trans (fl_X7_dropOthers_L8 a2 a3 FU _ _ _ h9 Fr.rf) (by decide)
    clear h9
    cases h
    exact F
  · rw [if_neg c1] at h
    cases h
    exact F

set_option maxRecDepth 10000 in
theorem fl_X7_findFits_L9 (p2 : Int) {M0 : Mem} : ∀ (nn : Nat) (x3 : Int) (M : Mem) (out : Int × Mem), itr (fun s => m_X7_findFits_L9 s.2 p2 s.1) nn (x3, M) = some out → Fr [11] M0 M → Fr [11] M0 out.2 := by
  intro nn
  induction nn with
  | zero =>
    intro x3 M out h _
    cases h
  | succ nn ih =>
    intro x3 M out h0 F
    obtain ⟨w, h, k1, k2⟩ := itr_inv h0
    have h : m_X7_findFits_L9 M p2 x3 = some w := h
    unfold m_X7_findFits_L9 at h
    by_cases c1 : wr p2 ≤ wr x3
    · rw [if_pos c1] at h
      cases h
      cases k2 _ rfl
      exact F
    · rw [if_neg c1] at h
      obtain ⟨b3, hc2, h⟩ := of_bd1 h
      obtain ⟨v7, h9, h⟩ := of_bd1 h
      clear h9
      obtain ⟨c8, h⟩ := of_ck h
      obtain ⟨c9, h⟩ := of_ck h
      obtain ⟨M10, eM10, h⟩ := of_lt h
      have F := F.sI (by decide) eM10
      cases h
      exact ih _ _  _ (k1 _ rfl) F

set_option maxRecDepth 10000 in
theorem fl_X7_findFits_L51 (p2 : Int) {M0 : Mem} : ∀ (nn : Nat) (x3 : Int) (M : Mem) (out : Int × Mem), itr (fun s => m_X7_findFits_L51 s.2 p2 s.1) nn (x3, M) = some out → Fr [11] M0 M → Fr [11] M0 out.2 := by
  intro nn
  induction nn with
  | zero =>
    intro x3 M out h _
    cases h
  | succ nn ih =>
    intro x3 M out h0 F
    obtain ⟨w, h, k1, k2⟩ := itr_inv h0
    have h : m_X7_findFits_L51 M p2 x3 = some w := h
    unfold m_X7_findFits_L51 at h
    by_cases c13 : wr p2 ≤ wr x3
    · rw [if_pos c13] at h
      cases h
      cases k2 _ rfl
      exact F
    · rw [if_neg c13] at h
      obtain ⟨c14, h⟩ := of_ck h
      obtain ⟨M22, h9, h⟩ := of_bd1 h
      have F : Fr [11] M0 M22 := by
        have h := h9
        by_cases c15 : wr (gI M 3 (wr x3)) = wr 1
        · rw [if_pos c15] at h
          obtain ⟨M17, hc16, h⟩ := of_bd1 h
          have F := F.trans (fr_X7_dropOthers hc16) (by decide)
          obtain ⟨r19, hc18, h⟩ := of_bd1 h
          obtain ⟨M21, hc20, h⟩ := of_bd1 h
          have F := F.trans (fr_X7_dropOthers hc20) (by decide)
          cases h
          exact F
        · rw [if_neg c15] at h
          cases h
          exact F
      clear h9
      cases h
      exact ih _ _  _ (k1 _ rfl) F

set_option maxRecDepth 10000 in
theorem fr_X7_findFits {M : Mem} {M2 : Mem}  (h : m_X7_findFits M = some (M2)) : Fr [11] M M2 := by
  unfold m_X7_findFits at h
  have F : Fr [11] M M := Fr.rf
  obtain ⟨y11, M12, h9, h⟩ := of_bd2 h
  have F := F.trans (fl_X7_findFits_L9 (2 * (m_X10_cells M)) FU _ _ _ h9 Fr.rf) (by decide)
  clear h9
  obtain ⟨y23, M24, h9, h⟩ := of_bd2 h
  have F := F.trans (fl_X7_findFits_L51 (2 * (m_X10_cells M)) FU _ _ _ h9 Fr.rf) (by decide)
  clear h9
  cases h
  exact F

set_option maxRecDepth 10000 in
theorem fl_X7_startTable_L13 (p2 : Int64) (p4 : Int64) (p6 : Int) {M0 : Mem} : ∀ (nn : Nat) (x7 : Int) (M : Mem) (out : Int × Mem), itr (fun s => m_X7_startTable_L13 s.2 p2 p4 p6 s.1) nn (x7, M) = some out → Fr [9] M0 M → Fr [9] M0 out.2 := by
  intro nn
  induction nn with
  | zero =>
    intro x7 M out h _
    cases h
  | succ nn ih =>
    intro x7 M out h0 F
    obtain ⟨w, h, k1, k2⟩ := itr_inv h0
    have h : m_X7_startTable_L13 M p2 p4 p6 x7 = some w := h
    unfold m_X7_startTable_L13 at h
    by_cases c1 : wr (shl 1 (gI M 1 0)) ≤ wr x7
    · rw [if_pos c1] at h
      cases h
      cases k2 _ rfl
      exact F
    · rw [if_neg c1] at h
      obtain ⟨c2, h⟩ := of_ck h
      obtain ⟨M3, eM3, h⟩ := of_lt h
      have F := F.sL (by decide) eM3
      cases h
      exact ih _ _  _ (k1 _ rfl) F

set_option maxRecDepth 10000 in
theorem fr_X7_startTable {M : Mem} {M2 : Mem} {a2 : Int64} {a3 : Int64} (h : m_X7_startTable M a2 a3 = some (M2)) : Fr [9] M M2 := by
  unfold m_X7_startTable at h
  have F : Fr [9] M M := Fr.rf
  obtain ⟨y4, M5, h9, h⟩ := of_bd2 h
  have F := F.trans (fl_X7_startTable_L13 a2 a3 ((m_X10_cells M) * 256) FU _ _ _ h9 Fr.rf) (by decide)
  clear h9
  obtain ⟨c6, h⟩ := of_ck h
  obtain ⟨M7, eM7, h⟩ := of_lt h
  have F := F.sL (by decide) eM7
  cases h
  exact F

set_option maxRecDepth 10000 in
theorem fl_X7_fillWaysAt_L47 (p2 : Int) (p3 : Int) (p4 : Int) (p5 : Int) (p6 : Int) (p7 : Int) {M0 : Mem} : ∀ (nn : Nat) (x8 : Int) (M : Mem) (out : Int × Mem), itr (fun s => m_X7_fillWaysAt_L47 s.2 p2 p3 p4 p5 p6 p7 s.1) nn (x8, M) = some out → Fr [9] M0 M → Fr [9] M0 out.2 := by
  intro nn
  induction nn with
  | zero =>
    intro x8 M out h _
    cases h
  | succ nn ih =>
    intro x8 M out h0 F
    obtain ⟨w, h, k1, k2⟩ := itr_inv h0
    have h : m_X7_fillWaysAt_L47 M p2 p3 p4 p5 p6 p7 x8 = some w := h
    unfold m_X7_fillWaysAt_L47 at h
    by_cases c5 : wr (shl 1 (gI M 1 0)) ≤ wr x8
    · rw [if_pos c5] at h
      cases h
      cases k2 _ rfl
      exact F
    · rw [if_neg c5] at h
      obtain ⟨c6, h⟩ := of_ck h
      obtain ⟨v18, h9, h⟩ := of_bd1 h
      clear h9
      obtain ⟨c19, h⟩ := of_ck h
      obtain ⟨M20, eM20, h⟩ := of_lt h
      have F := F.sL (by decide) eM20
      cases h
      exact ih _ _  _ (k1 _ rfl) F

set_option maxRecDepth 10000 in
theorem fr_X7_fillWaysAt {M : Mem} {M2 : Mem} {a2 : Int} (h : m_X7_fillWaysAt M a2 = some (M2)) : Fr [9] M M2 := by
  unfold m_X7_fillWaysAt at h
  have F : Fr [9] M M := Fr.rf
  obtain ⟨r2, hc1, h⟩ := of_bd1 h
  obtain ⟨c3, h⟩ := of_ck h
  obtain ⟨c4, h⟩ := of_ck h
  obtain ⟨y21, M22, h9, h⟩ := of_bd2 h
  have F := F.trans (fl_X7_fillWaysAt_L47 a2 (a2 * 256) ((a2 * 256) + 256) (shl 1 r2) (gI M 11 (wr (2 * a2))) (gI M 11 (wr ((2 * a2) + 1))) FU _ _ _ h9 Fr.rf) (by decide)
  clear h9
  cases h
  exact F

set_option maxRecDepth 10000 in
theorem fl_X7_fillWays_L28  {M0 : Mem} : ∀ (nn : Nat) (x2 : Int) (M : Mem) (out : Int × Mem), itr (fun s => m_X7_fillWays_L28 s.2  s.1) nn (x2, M) = some out → Fr [9] M0 M → Fr [9] M0 out.2 := by
  intro nn
  induction nn with
  | zero =>
    intro x2 M out h _
    cases h
  | succ nn ih =>
    intro x2 M out h0 F
    obtain ⟨w, h, k1, k2⟩ := itr_inv h0
    have h : m_X7_fillWays_L28 M  x2 = some w := h
    unfold m_X7_fillWays_L28 at h
    by_cases c6 : wr x2 < 0
    · rw [if_pos c6] at h
      cases h
      cases k2 _ rfl
      exact F
    · rw [if_neg c6] at h
      obtain ⟨M8, hc7, h⟩ := of_bd1 h
      have F := F.trans (fr_X7_fillWaysAt hc7) (by decide)
      cases h
      exact ih _ _  _ (k1 _ rfl) F

set_option maxRecDepth 10000 in
theorem fr_X7_fillWays {M : Mem} {M2 : Mem}  (h : m_X7_fillWays M = some (M2)) : Fr [8, 9, 11] M M2 := by
  unfold m_X7_fillWays at h
  have F : Fr [8, 9, 11] M M := Fr.rf
  by_cases c1 : wr (gI M 8 5) = wr 1
  · rw [if_pos c1] at h
    cases h
    exact F
  · rw [if_neg c1] at h
    obtain ⟨M3, hc2, h⟩ := of_bd1 h
    have F := F.trans (fr_X7_findFits hc2) (by decide)
    obtain ⟨M5, hc4, h⟩ := of_bd1 h
    have F := F.trans (fr_X7_startTable hc4) (by decide)
    obtain ⟨y9, M10, h9, h⟩ := of_bd2 h
    have F := F.trans (fl_X7_fillWays_L28  FU _ _ _ h9 Fr.rf) (by decide)
    clear h9
    obtain ⟨M11, eM11, h⟩ := of_lt h
    have F := F.sI (by decide) eM11
    cases h
    exact F

set_option maxRecDepth 10000 in
theorem fr_X7_total {M : Mem} {M2 : Mem}  {r : Int64} (h : m_X7_total M = some (r, M2)) : Fr [8, 9, 11] M M2 := by
  unfold m_X7_total at h
  have F : Fr [8, 9, 11] M M := Fr.rf
  obtain ⟨M2, hc1, h⟩ := of_bd1 h
  have F := F.trans (fr_X7_fillWays hc1) (by decide)
  cases h
  exact F

set_option maxRecDepth 10000 in
theorem fl_X7_fillCostsAt_L25 (p2 : Int) (p3 : Int) (p4 : Int) (p5 : Int) {M0 : Mem} : ∀ (nn : Nat) (x6 : Int) (M : Mem) (out : Int × Mem), itr (fun s => m_X7_fillCostsAt_L25 s.2 p2 p3 p4 p5 s.1) nn (x6, M) = some out → Fr [9] M0 M → Fr [9] M0 out.2 := by
  intro nn
  induction nn with
  | zero =>
    intro x6 M out h _
    cases h
  | succ nn ih =>
    intro x6 M out h0 F
    obtain ⟨w, h, k1, k2⟩ := itr_inv h0
    have h : m_X7_fillCostsAt_L25 M p2 p3 p4 p5 x6 = some w := h
    unfold m_X7_fillCostsAt_L25 at h
    by_cases c3 : wr (shl 1 (gI M 1 0)) ≤ wr x6
    · rw [if_pos c3] at h
      cases h
      cases k2 _ rfl
      exact F
    · rw [if_neg c3] at h
      obtain ⟨c4, h⟩ := of_ck h
      obtain ⟨v14, h9, h⟩ := of_bd1 h
      clear h9
      obtain ⟨c15, h⟩ := of_ck h
      obtain ⟨M16, eM16, h⟩ := of_lt h
      have F := F.sL (by decide) eM16
      cases h
      exact ih _ _  _ (k1 _ rfl) F

set_option maxRecDepth 10000 in
theorem fr_X7_fillCostsAt {M : Mem} {M2 : Mem} {a2 : Int} (h : m_X7_fillCostsAt M a2 = some (M2)) : Fr [9] M M2 := by
  unfold m_X7_fillCostsAt at h
  have F : Fr [9] M M := Fr.rf
  obtain ⟨r2, hc1, h⟩ := of_bd1 h
  obtain ⟨y17, M18, h9, h⟩ := of_bd2 h
  have F := F.trans (fl_X7_fillCostsAt_L25 a2 (a2 * 256) ((a2 * 256) + 256) (shl 1 r2) FU _ _ _ h9 Fr.rf) (by decide)
  clear h9
  cases h
  exact F

set_option maxRecDepth 10000 in
theorem fl_X7_fillCosts_L30  {M0 : Mem} : ∀ (nn : Nat) (x2 : Int) (M : Mem) (out : Int × Mem), itr (fun s => m_X7_fillCosts_L30 s.2  s.1) nn (x2, M) = some out → Fr [9] M0 M → Fr [9] M0 out.2 := by
  intro nn
  induction nn with
  | zero =>
    intro x2 M out h _
    cases h
  | succ nn ih =>
    intro x2 M out h0 F
    obtain ⟨w, h, k1, k2⟩ := itr_inv h0
    have h : m_X7_fillCosts_L30 M  x2 = some w := h
    unfold m_X7_fillCosts_L30 at h
    by_cases c6 : wr x2 < 0
    · rw [if_pos c6] at h
      cases h
      cases k2 _ rfl
      exact F
    · rw [if_neg c6] at h
      obtain ⟨M8, hc7, h⟩ := of_bd1 h
      have F := F.trans (fr_X7_fillCostsAt hc7) (by decide)
      cases h
      exact ih _ _  _ (k1 _ rfl) F

set_option maxRecDepth 10000 in
theorem fr_X7_fillCosts {M : Mem} {M2 : Mem}  (h : m_X7_fillCosts M = some (M2)) : Fr [8, 9, 11] M M2 := by
  unfold m_X7_fillCosts at h
  have F : Fr [8, 9, 11] M M := Fr.rf
  by_cases c1 : wr (gI M 8 5) = wr 2
  · rw [if_pos c1] at h
    cases h
    exact F
  · rw [if_neg c1] at h
    obtain ⟨M3, hc2, h⟩ := of_bd1 h
    have F := F.trans (fr_X7_findFits hc2) (by decide)
    obtain ⟨M5, hc4, h⟩ := of_bd1 h
    have F := F.trans (fr_X7_startTable hc4) (by decide)
    obtain ⟨y9, M10, h9, h⟩ := of_bd2 h
    have F := F.trans (fl_X7_fillCosts_L30  FU _ _ _ h9 Fr.rf) (by decide)
    clear h9
    obtain ⟨M11, eM11, h⟩ := of_lt h
    have F := F.sI (by decide) eM11
    cases h
    exact F

set_option maxRecDepth 10000 in
theorem fr_X7_leastCost {M : Mem} {M2 : Mem}  {r : Int64} (h : m_X7_leastCost M = some (r, M2)) : Fr [8, 9, 11] M M2 := by
  unfold m_X7_leastCost at h
  have F : Fr [8, 9, 11] M M := Fr.rf
  obtain ⟨M2, hc1, h⟩ := of_bd1 h
  have F := F.trans (fr_X7_fillCosts hc1) (by decide)
  cases h
  exact F

set_option maxRecDepth 10000 in
theorem fl_X7_layByRank_L14 (p4 : Nat) {M0 : Mem} : ∀ (nn : Nat) (x5 : Int64) (x7 : Int) (x8 : Int) (M : Mem) (out : Int64 × Int × Int × Mem), itr (fun s => m_X7_layByRank_L14 s.2.2.2 p4 s.1 s.2.1 s.2.2.1) nn (x5, x7, x8, M) = some out → Fr [(p4 + 1)] M0 M → Fr [(p4 + 1)] M0 out.2.2.2 := by
  intro nn
  induction nn with
  | zero =>
    intro x5 x7 x8 M out h _
    cases h
  | succ nn ih =>
    intro x5 x7 x8 M out h0 F
    obtain ⟨w, h, k1, k2⟩ := itr_inv h0
    have h : m_X7_layByRank_L14 M p4 x5 x7 x8 = some w := h
    unfold m_X7_layByRank_L14 at h
    by_cases c3 : wr (m_X10_cells M) ≤ wr x8
    · rw [if_pos c3] at h
      cases h
      cases k2 _ rfl
      exact F
    · rw [if_neg c3] at h
      obtain ⟨b5, hc4, h⟩ := of_bd1 h
      obtain ⟨v21, v22, M23, h9, h⟩ := of_bd3 h
      have F : Fr [(p4 + 1)] M0 M23 := by
        have h := h9
        by_cases c6 : wr (bI b5) = 0
        · rw [if_pos c6] at h
          obtain ⟨r8, hc7, h⟩ := of_bd1 h
          cases h
          exact F
        · rw [if_neg c6] at h
          obtain ⟨r10, hc9, h⟩ := of_bd1 h
          obtain ⟨v12, ev12, h⟩ := of_lt h
          obtain ⟨v14, ev14, h⟩ := of_lt h
          obtain ⟨v16, ev16, h⟩ := of_lt h
          obtain ⟨M18, hc17, h⟩ := of_bd1 h
          have F := F.trans (fr_X3_put hc17) (List.forall_mem_cons.mpr ⟨(by simp), fun _ h => absurd h List.not_mem_nil⟩)
          obtain ⟨r20, hc19, h⟩ := of_bd1 h
          cases h
          exact F
      clear h9
      cases h
      exact ih _ _ _ _  _ (k1 _ rfl) F

set_option maxRecDepth 10000 in
theorem fr_X7_layByRank {M : Mem} {M2 : Mem} {a2 : Int64} {a3 : Nat} (h : m_X7_layByRank M a2 a3 = some (M2)) : Fr [8, 9, 11, (a3 + 1), a3] M M2 := by
  unfold m_X7_layByRank at h
  have F : Fr [8, 9, 11, (a3 + 1), a3] M M := Fr.rf
  obtain ⟨M2, hc1, h⟩ := of_bd1 h
  have F := F.trans (fr_X7_fillWays hc1) (List.forall_mem_cons.mpr ⟨(by simp), List.forall_mem_cons.mpr ⟨(by simp), List.forall_mem_cons.mpr ⟨(by simp), fun _ h => absurd h List.not_mem_nil⟩⟩⟩)
  obtain ⟨y24, y25, y26, M27, h9, h⟩ := of_bd4 h
  have F := F.trans (fl_X7_layByRank_L14 a3 FU _ _ _ _ _ h9 Fr.rf) (List.forall_mem_cons.mpr ⟨(by simp), fun _ h => absurd h List.not_mem_nil⟩)
  clear h9
  obtain ⟨M28, eM28, h⟩ := of_lt h
  have F := F.sI (by simp) eM28
  cases h
  exact F

set_option maxRecDepth 10000 in
theorem fl_X7_layCheapest_L10 (p2 : Nat) {M0 : Mem} : ∀ (nn : Nat) (x3 : Int) (x4 : Int) (M : Mem) (out : Int × Int × Mem), itr (fun s => m_X7_layCheapest_L10 s.2.2 p2 s.1 s.2.1) nn (x3, x4, M) = some out → Fr [(p2 + 1)] M0 M → Fr [(p2 + 1)] M0 out.2.2 := by
  intro nn
  induction nn with
  | zero =>
    intro x3 x4 M out h _
    cases h
  | succ nn ih =>
    intro x3 x4 M out h0 F
    obtain ⟨w, h, k1, k2⟩ := itr_inv h0
    have h : m_X7_layCheapest_L10 M p2 x3 x4 = some w := h
    unfold m_X7_layCheapest_L10 at h
    by_cases c3 : wr (m_X10_cells M) ≤ wr x4
    · rw [if_pos c3] at h
      cases h
      cases k2 _ rfl
      exact F
    · rw [if_neg c3] at h
      obtain ⟨b5, hc4, h⟩ := of_bd1 h
      obtain ⟨v21, M22, h9, h⟩ := of_bd2 h
      have F : Fr [(p2 + 1)] M0 M22 := by
        have h := h9
        by_cases c6 : wr (bI b5) = 0
        · rw [if_pos c6] at h
          obtain ⟨r8, hc7, h⟩ := of_bd1 h
          cases h
          exact F
        · rw [if_neg c6] at h
          obtain ⟨r10, hc9, h⟩ := of_bd1 h
          obtain ⟨r12, hc11, h⟩ := of_bd1 h
          obtain ⟨v14, ev14, h⟩ := of_lt h
          obtain ⟨v16, ev16, h⟩ := of_lt h
          obtain ⟨M18, hc17, h⟩ := of_bd1 h
          have F := F.trans (fr_X3_put hc17) (List.forall_mem_cons.mpr ⟨(by simp), fun _ h => absurd h List.not_mem_nil⟩)
          obtain ⟨r20, hc19, h⟩ := of_bd1 h
          cases h
          exact F
      clear h9
      cases h
      exact ih _ _ _  _ (k1 _ rfl) F

set_option maxRecDepth 10000 in
theorem fr_X7_layCheapest {M : Mem} {M2 : Mem} {a2 : Nat} (h : m_X7_layCheapest M a2 = some (M2)) : Fr [8, 9, 11, (a2 + 1), a2] M M2 := by
  unfold m_X7_layCheapest at h
  have F : Fr [8, 9, 11, (a2 + 1), a2] M M := Fr.rf
  obtain ⟨M2, hc1, h⟩ := of_bd1 h
  have F := F.trans (fr_X7_fillCosts hc1) (List.forall_mem_cons.mpr ⟨(by simp), List.forall_mem_cons.mpr ⟨(by simp), List.forall_mem_cons.mpr ⟨(by simp), fun _ h => absurd h List.not_mem_nil⟩⟩⟩)
  obtain ⟨y23, y24, M25, h9, h⟩ := of_bd3 h
  have F := F.trans (fl_X7_layCheapest_L10 a2 FU _ _ _ _ h9 Fr.rf) (List.forall_mem_cons.mpr ⟨(by simp), fun _ h => absurd h List.not_mem_nil⟩)
  clear h9
  obtain ⟨M26, eM26, h⟩ := of_lt h
  have F := F.sI (by simp) eM26
  cases h
  exact F

set_option maxRecDepth 10000 in
theorem fl_X7_rankOf_L13 (M : Mem) (p2 : Nat) {M0 : Mem} : ∀ (nn : Nat) (x3 : Int64) (x5 : Int) (x6 : Int) (out : (Int64 × Int × Int) ⊕ (Int64 × Mem)), itr (fun s => m_X7_rankOf_L13 M p2 s.1 s.2.1 s.2.2) nn (x3, x5, x6) = some out → Fr [] M0 M → (match out with | .inl s => True | .inr r => Fr [] M0 r.2) := by
  intro nn
  induction nn with
  | zero =>
    intro x3 x5 x6 out h _
    cases h
  | succ nn ih =>
    intro x3 x5 x6 out h0 F
    obtain ⟨w, h, k1, k2⟩ := itr_inv h0
    have h : m_X7_rankOf_L13 M p2 x3 x5 x6 = some w := h
    unfold m_X7_rankOf_L13 at h
    by_cases c3 : wr (m_X10_cells M) ≤ wr x6
    · rw [if_pos c3] at h
      cases h
      cases k2 _ rfl
      exact trivial
    · rw [if_neg c3] at h
      obtain ⟨b5, hc4, h⟩ := of_bd1 h
      by_cases c6 : wr (bI b5) = 0
      · rw [if_pos c6] at h
        obtain ⟨r8, hc7, h⟩ := of_bd1 h
        cases h
        exact ih _ _ _  _ (k1 _ rfl) F
      · rw [if_neg c6] at h
        obtain ⟨c9, h⟩ := of_ck h
        obtain ⟨c10, h⟩ := of_ck h
        by_cases c11 : wr (gI M 11 (wr (gI M (p2 + 1) (wr x6)))) = 0
        · rw [if_pos c11] at h
          cases h
          cases k2 _ rfl
          exact F
        · rw [if_neg c11] at h
          obtain ⟨v13, ev13, h⟩ := of_lt h
          obtain ⟨v17, h9, h⟩ := of_bd1 h
          clear h9
          obtain ⟨r19, hc18, h⟩ := of_bd1 h
          cases h
          exact ih _ _ _  _ (k1 _ rfl) F

set_option maxRecDepth 10000 in
theorem fr_X7_rankOf {M : Mem} {M2 : Mem} {a2 : Nat} {r : Int64} (h : m_X7_rankOf M a2 = some (r, M2)) : Fr [8, 9, 11] M M2 := by
  unfold m_X7_rankOf at h
  have F : Fr [8, 9, 11] M M := Fr.rf
  obtain ⟨M2, hc1, h⟩ := of_bd1 h
  have F := F.trans (fr_X7_fillWays hc1) (by decide)
  obtain ⟨w9, h9, h⟩ := of_be3 h
  have F9 := fl_X7_rankOf_L13 M2 a2 FU _ _ _ w9 h9 Fr.rf
  rcases w9 with ⟨y20, y21, y22⟩ | ⟨r9, M9⟩
  · have h := h.1 _ _ _  rfl
    cases h
    exact F
  · have h := h.2 _ rfl
    have F := F.trans F9 (by decide)
    cases h
    exact F

set_option maxRecDepth 10000 in
theorem fl_X7_shareAt_L20 (p2 : Int) (p3 : Int) (p4 : Int) {M0 : Mem} : ∀ (nn : Nat) (x5 : Int) (M : Mem) (out : Int × Mem), itr (fun s => m_X7_shareAt_L20 s.2 p2 p3 p4 s.1) nn (x5, M) = some out → Fr [10, 12, 13, 15, 16] M0 M → Fr [10, 12, 13, 15, 16] M0 out.2 := by
  intro nn
  induction nn with
  | zero =>
    intro x5 M out h _
    cases h
  | succ nn ih =>
    intro x5 M out h0 F
    obtain ⟨w, h, k1, k2⟩ := itr_inv h0
    have h : m_X7_shareAt_L20 M p2 p3 p4 x5 = some w := h
    unfold m_X7_shareAt_L20 at h
    by_cases c3 : wr (shl 1 (gI M 1 0)) ≤ wr x5
    · rw [if_pos c3] at h
      cases h
      cases k2 _ rfl
      exact F
    · rw [if_neg c3] at h
      obtain ⟨c4, h⟩ := of_ck h
      obtain ⟨c5, h⟩ := of_ck h
      obtain ⟨M30, h9, h⟩ := of_bd1 h
      have F : Fr [10, 12, 13, 15, 16] M0 M30 := by
        have h := h9
        by_cases c6 : (gL M (dR M 8 3) (wr x5)) = (0 : Int64)
        · rw [if_pos c6] at h
          cases h
          exact F
        · rw [if_neg c6] at h
          obtain ⟨b8, hc7, h⟩ := of_bd1 h
          by_cases c9 : wr (bI b8) = 0
          · rw [if_pos c9] at h
            obtain ⟨c27, h⟩ := of_ck h
            obtain ⟨c28, h⟩ := of_ck h
            obtain ⟨M29, eM29, h⟩ := of_lt h
            have F := F.sL (dr_in (k := (dR M 8 4)) (by with_reducible assumption) (by decide)) eM29
            cases h
            exact F
          · rw [if_neg c9] at h
            obtain ⟨b11, hc10, h⟩ := of_bd1 h
            obtain ⟨M19, h9, h⟩ := of_bd1 h
            have F : Fr [10, 12, 13, 15, 16] M0 M19 := by
              have h := h9
              by_cases c12 : wr (bI b11) = 0
              · rw [if_pos c12] at h
                cases h
                exact F
              · rw [if_neg c12] at h
                obtain ⟨c13, h⟩ := of_ck h
                obtain ⟨c14, h⟩ := of_ck h
                obtain ⟨M15, eM15, h⟩ := of_lt h
                have F := F.sL (dr_in (k := (dR M 8 4)) (by with_reducible assumption) (by decide)) eM15
                obtain ⟨c16, h⟩ := of_ck h
                obtain ⟨c17, h⟩ := of_ck h
                obtain ⟨M18, eM18, h⟩ := of_lt h
                have F := F.sL (by decide) eM18
                cases h
                exact F
            clear h9
            obtain ⟨c20, h⟩ := of_ck h
            by_cases c21 : wr (gI M19 11 (wr ((2 * p2) + 1))) = 0
            · rw [if_pos c21] at h
              cases h
              exact F
            · rw [if_neg c21] at h
              obtain ⟨c22, h⟩ := of_ck h
              obtain ⟨c23, h⟩ := of_ck h
              obtain ⟨M24, eM24, h⟩ := of_lt h
              have F := F.sL (dr_in (k := (dR M19 8 4)) (by with_reducible assumption) (by decide)) eM24
              obtain ⟨c25, h⟩ := of_ck h
              obtain ⟨M26, eM26, h⟩ := of_lt h
              have F := F.sL (by decide) eM26
              cases h
              exact F
      clear h9
      cases h
      exact ih _ _  _ (k1 _ rfl) F

set_option maxRecDepth 10000 in
theorem fr_X7_shareAt {M : Mem} {M2 : Mem} {a2 : Int} (h : m_X7_shareAt M a2 = some (M2)) : Fr [10, 12, 13, 15, 16] M M2 := by
  unfold m_X7_shareAt at h
  have F : Fr [10, 12, 13, 15, 16] M M := Fr.rf
  obtain ⟨r2, hc1, h⟩ := of_bd1 h
  obtain ⟨y31, M32, h9, h⟩ := of_bd2 h
  have F := F.trans (fl_X7_shareAt_L20 a2 ((a2 + 1) * 256) (shl 1 r2) FU _ _ _ h9 Fr.rf) (by decide)
  clear h9
  cases h
  exact F

set_option maxRecDepth 10000 in
theorem fl_X7_fillShares_L38  {M0 : Mem} : ∀ (nn : Nat) (x2 : Int) (M : Mem) (out : Int × Mem), itr (fun s => m_X7_fillShares_L38 s.2  s.1) nn (x2, M) = some out → Fr [8, 10, 12, 13, 15, 16] M0 M → Fr [8, 10, 12, 13, 15, 16] M0 out.2 := by
  intro nn
  induction nn with
  | zero =>
    intro x2 M out h _
    cases h
  | succ nn ih =>
    intro x2 M out h0 F
    obtain ⟨w, h, k1, k2⟩ := itr_inv h0
    have h : m_X7_fillShares_L38 M  x2 = some w := h
    unfold m_X7_fillShares_L38 at h
    by_cases c11 : wr (m_X10_cells M) ≤ wr x2
    · rw [if_pos c11] at h
      cases h
      cases k2 _ rfl
      exact F
    · rw [if_neg c11] at h
      obtain ⟨c12, h⟩ := of_ck h
      obtain ⟨M14, hc13, h⟩ := of_bd1 h
      have F := F.trans (fr_J7_fill_d0a16 hc13) (List.forall_mem_cons.mpr ⟨(dr_in (k := (dR M 8 4)) (by with_reducible assumption) (by decide)), fun _ h => absurd h List.not_mem_nil⟩)
      obtain ⟨M16, hc15, h⟩ := of_bd1 h
      have F := F.trans (fr_X7_shareAt hc15) (by decide)
      obtain ⟨c17, h⟩ := of_ck h
      obtain ⟨c18, h⟩ := of_ck h
      obtain ⟨M19, eM19, h⟩ := of_lt h
      have F := F.sR (by decide) eM19
      obtain ⟨M20, eM20, h⟩ := of_lt h
      have F := F.sR (by decide) eM20
      cases h
      exact ih _ _  _ (k1 _ rfl) F

set_option maxRecDepth 10000 in
theorem fr_X7_fillShares {M : Mem} {M2 : Mem}  (h : m_X7_fillShares M = some (M2)) : Fr [8, 9, 10, 11, 12, 13, 15, 16] M M2 := by
  unfold m_X7_fillShares at h
  have F : Fr [8, 9, 10, 11, 12, 13, 15, 16] M M := Fr.rf
  by_cases c1 : wr (gI M 8 6) = 0
  · rw [if_pos c1] at h
    obtain ⟨M3, hc2, h⟩ := of_bd1 h
    have F := F.trans (fr_X7_fillWays hc2) (by decide)
    obtain ⟨M5, hc4, h⟩ := of_bd1 h
    have F := F.trans (fr_J7_fill_d0a16 hc4) (by decide)
    obtain ⟨c6, h⟩ := of_ck h
    obtain ⟨M8, hc7, h⟩ := of_bd1 h
    have F := F.trans (fr_J7_fill_d0a16 hc7) (List.forall_mem_cons.mpr ⟨(dr_in (k := (dR M5 8 3)) (by with_reducible assumption) (by decide)), fun _ h => absurd h List.not_mem_nil⟩)
    obtain ⟨c9, h⟩ := of_ck h
    obtain ⟨M10, eM10, h⟩ := of_lt h
    have F := F.sL (dr_in (k := (dR M8 8 3)) (by with_reducible assumption) (by decide)) eM10
    obtain ⟨y21, M22, h9, h⟩ := of_bd2 h
    have F := F.trans (fl_X7_fillShares_L38  FU _ _ _ h9 Fr.rf) (by decide)
    clear h9
    obtain ⟨M23, eM23, h⟩ := of_lt h
    have F := F.sI (by decide) eM23
    cases h
    exact F
  · rw [if_neg c1] at h
    cases h
    exact F

set_option maxRecDepth 10000 in
theorem fl_X8_append_L5 (p1 : Int64) {M0 : Mem} : ∀ (nn : Nat) (x4 : Int) (M : Mem) (out : Int × Mem), itr (fun s => m_X8_append_L5 s.2 p1 s.1) nn (x4, M) = some out → Fr [5, 6] M0 M → Fr [5, 6] M0 out.2 := by
  intro nn
  induction nn with
  | zero =>
    intro x4 M out h _
    cases h
  | succ nn ih =>
    intro x4 M out h0 F
    obtain ⟨w, h, k1, k2⟩ := itr_inv h0
    have h : m_X8_append_L5 M p1 x4 = some w := h
    unfold m_X8_append_L5 at h
    by_cases c1 : wr x4 < 0
    · rw [if_pos c1] at h
      cases h
      cases k2 _ rfl
      exact F
    · rw [if_neg c1] at h
      obtain ⟨M2, eM2, h⟩ := of_lt h
      have F := F.sI (by decide) eM2
      obtain ⟨c3, h⟩ := of_ck h
      obtain ⟨M4, eM4, h⟩ := of_lt h
      have F := F.sI (by decide) eM4
      cases h
      exact ih _ _  _ (k1 _ rfl) F

set_option maxRecDepth 10000 in
theorem fr_X8_append {M : Mem} {M2 : Mem} {a1 : Int64} {a2 : Int} {r : Int} (h : m_X8_append M a1 a2 = some (r, M2)) : Fr [5, 6] M M2 := by
  unfold m_X8_append at h
  have F : Fr [5, 6] M M := Fr.rf
  obtain ⟨y5, M6, h9, h⟩ := of_bd2 h
  have F := F.trans (fl_X8_append_L5 a1 FU _ _ _ h9 Fr.rf) (by decide)
  clear h9
  cases h
  exact F

set_option maxRecDepth 10000 in
theorem fl_X8_parse_L12  {M0 : Mem} : ∀ (nn : Nat) (x1 : Int) (x2 : Int) (x3 : Int) (M : Mem) (out : (Int × Int × Int × Mem) ⊕ (Int × Mem)), itr (fun s => m_X8_parse_L12 s.2.2.2  s.1 s.2.1 s.2.2.1) nn (x1, x2, x3, M) = some out → Fr [5, 7] M0 M → (match out with | .inl s => Fr [5, 7] M0 s.2.2.2 | .inr r => Fr [5, 7] M0 r.2) := by
  intro nn
  induction nn with
  | zero =>
    intro x1 x2 x3 M out h _
    cases h
  | succ nn ih =>
    intro x1 x2 x3 M out h0 F
    obtain ⟨w, h, k1, k2⟩ := itr_inv h0
    have h : m_X8_parse_L12 M  x1 x2 x3 = some w := h
    unfold m_X8_parse_L12 at h
    by_cases c2 : wr (gI M 5 2) ≤ wr x3
    · rw [if_pos c2] at h
      cases h
      cases k2 _ rfl
      exact F
    · rw [if_neg c2] at h
      obtain ⟨c3, h⟩ := of_ck h
      by_cases c4 : wr (gI M 6 (wr x3)) = wr 32
      · rw [if_pos c4] at h
        cases h
        exact ih _ _ _ _  _ (k1 _ rfl) F
      · rw [if_neg c4] at h
        by_cases c5 : wr (gI M 6 (wr x3)) = wr 46
        · rw [if_pos c5] at h
          by_cases c6 : wr (gI M 5 3) ≤ wr x2
          · rw [if_pos c6] at h
            by_cases c7 : wr (gI M 6 (wr x3)) = wr 59
            · rw [if_pos c7] at h
              obtain ⟨b9, hc8, h⟩ := of_bd1 h
              by_cases c10 : wr (bI b9) = 0
              · rw [if_pos c10] at h
                cases h
                cases k2 _ rfl
                exact F
              · rw [if_neg c10] at h
                by_cases c11 : wr 7 ≤ wr x1
                · rw [if_pos c11] at h
                  cases h
                  cases k2 _ rfl
                  exact F
                · rw [if_neg c11] at h
                  obtain ⟨M12, eM12, h⟩ := of_lt h
                  have F := F.sI (by decide) eM12
                  cases h
                  exact ih _ _ _ _  _ (k1 _ rfl) F
            · rw [if_neg c7] at h
              cases h
              cases k2 _ rfl
              exact F
          · rw [if_neg c6] at h
            obtain ⟨v14, ev14, h⟩ := of_lt h
            obtain ⟨c15, h⟩ := of_ck h
            obtain ⟨c16, h⟩ := of_ck h
            obtain ⟨M17, eM17, h⟩ := of_lt h
            have F := F.sI (by decide) eM17
            cases h
            exact ih _ _ _ _  _ (k1 _ rfl) F
        · rw [if_neg c5] at h
          by_cases c18 : wr (gI M 6 (wr x3)) = wr 35
          · rw [if_pos c18] at h
            by_cases c25 : wr (gI M 5 3) ≤ wr x2
            · rw [if_pos c25] at h
              by_cases c26 : wr (gI M 6 (wr x3)) = wr 59
              · rw [if_pos c26] at h
                obtain ⟨b28, hc27, h⟩ := of_bd1 h
                by_cases c29 : wr (bI b28) = 0
                · rw [if_pos c29] at h
                  cases h
                  cases k2 _ rfl
                  exact F
                · rw [if_neg c29] at h
                  by_cases c30 : wr 7 ≤ wr x1
                  · rw [if_pos c30] at h
                    cases h
                    cases k2 _ rfl
                    exact F
                  · rw [if_neg c30] at h
                    obtain ⟨M31, eM31, h⟩ := of_lt h
                    have F := F.sI (by decide) eM31
                    cases h
                    exact ih _ _ _ _  _ (k1 _ rfl) F
              · rw [if_neg c26] at h
                cases h
                cases k2 _ rfl
                exact F
            · rw [if_neg c25] at h
              obtain ⟨v33, ev33, h⟩ := of_lt h
              obtain ⟨c34, h⟩ := of_ck h
              obtain ⟨c35, h⟩ := of_ck h
              obtain ⟨M36, eM36, h⟩ := of_lt h
              have F := F.sI (by decide) eM36
              cases h
              exact ih _ _ _ _  _ (k1 _ rfl) F
          · rw [if_neg c18] at h
            by_cases c19 : wr (gI M 6 (wr x3)) = wr 59
            · rw [if_pos c19] at h
              obtain ⟨b21, hc20, h⟩ := of_bd1 h
              by_cases c22 : wr (bI b21) = 0
              · rw [if_pos c22] at h
                cases h
                cases k2 _ rfl
                exact F
              · rw [if_neg c22] at h
                by_cases c23 : wr 7 ≤ wr x1
                · rw [if_pos c23] at h
                  cases h
                  cases k2 _ rfl
                  exact F
                · rw [if_neg c23] at h
                  obtain ⟨M24, eM24, h⟩ := of_lt h
                  have F := F.sI (by decide) eM24
                  cases h
                  exact ih _ _ _ _  _ (k1 _ rfl) F
            · rw [if_neg c19] at h
              cases h
              cases k2 _ rfl
              exact F

set_option maxRecDepth 10000 in
theorem fr_X8_parse {M : Mem} {M2 : Mem}  {r : Int} (h : m_X8_parse M = some (r, M2)) : Fr [5, 7] M M2 := by
  unfold m_X8_parse at h
  have F : Fr [5, 7] M M := Fr.rf
  obtain ⟨M1, eM1, h⟩ := of_lt h
  have F := F.sI (by decide) eM1
  obtain ⟨w9, h9, h⟩ := of_be4 h
  have F9 := fl_X8_parse_L12  FU _ _ _ _ w9 h9 Fr.rf
  rcases w9 with ⟨y37, y38, y39, M40⟩ | ⟨r9, M9⟩
  · have h := h.1 _ _ _ _  rfl
    have F := F.trans F9 (by decide)
    obtain ⟨b42, hc41, h⟩ := of_bd1 h
    by_cases c43 : wr (bI b42) = 0
    · rw [if_pos c43] at h
      cases h
      exact F
    · rw [if_neg c43] at h
      obtain ⟨M44, eM44, h⟩ := of_lt h
      have F := F.sI (by decide) eM44
      obtain ⟨M45, eM45, h⟩ := of_lt h
      have F := F.sI (by decide) eM45
      cases h
      exact F
  · have h := h.2 _ rfl
    have F := F.trans F9 (by decide)
    cases h
    exact F

set_option maxRecDepth 10000 in
theorem fl_X10_start_L12  {M0 : Mem} : ∀ (nn : Nat) (x3 : Int) (M : Mem) (out : Int × Mem), itr (fun s => m_X10_start_L12 s.2  s.1) nn (x3, M) = some out → Fr [2] M0 M → Fr [2] M0 out.2 := by
  intro nn
  induction nn with
  | zero =>
    intro x3 M out h _
    cases h
  | succ nn ih =>
    intro x3 M out h0 F
    obtain ⟨w, h, k1, k2⟩ := itr_inv h0
    have h : m_X10_start_L12 M  x3 = some w := h
    unfold m_X10_start_L12 at h
    by_cases c3 : wr 64 ≤ wr x3
    · rw [if_pos c3] at h
      cases h
      cases k2 _ rfl
      exact F
    · rw [if_neg c3] at h
      obtain ⟨c4, h⟩ := of_ck h
      obtain ⟨M5, eM5, h⟩ := of_lt h
      have F := F.sI (by decide) eM5
      cases h
      exact ih _ _  _ (k1 _ rfl) F

set_option maxRecDepth 10000 in
theorem fr_X10_start {M : Mem} {M2 : Mem} {a1 : Int} {a2 : Int} (h : m_X10_start M a1 a2 = some (M2)) : Fr [1, 2, 3, 4] M M2 := by
  unfold m_X10_start at h
  have F : Fr [1, 2, 3, 4] M M := Fr.rf
  obtain ⟨M1, eM1, h⟩ := of_lt h
  have F := F.sI (by decide) eM1
  obtain ⟨M2, eM2, h⟩ := of_lt h
  have F := F.sI (by decide) eM2
  obtain ⟨y6, M7, h9, h⟩ := of_bd2 h
  have F := F.trans (fl_X10_start_L12  FU _ _ _ h9 Fr.rf) (by decide)
  clear h9
  obtain ⟨M9, hc8, h⟩ := of_bd1 h
  have F := F.trans (fr_J7_fill_53178 hc8) (by decide)
  obtain ⟨M11, hc10, h⟩ := of_bd1 h
  have F := F.trans (fr_J7_fill_53178 hc10) (by decide)
  cases h
  exact F

set_option maxRecDepth 10000 in
theorem fl_X10_change_L9 (p1 : Int) {M0 : Mem} : ∀ (nn : Nat) (x3 : Int) (M : Mem) (out : Int × Mem), itr (fun s => m_X10_change_L9 s.2 p1 s.1) nn (x3, M) = some out → Fr [3, 4] M0 M → Fr [3, 4] M0 out.2 := by
  intro nn
  induction nn with
  | zero =>
    intro x3 M out h _
    cases h
  | succ nn ih =>
    intro x3 M out h0 F
    obtain ⟨w, h, k1, k2⟩ := itr_inv h0
    have h : m_X10_change_L9 M p1 x3 = some w := h
    unfold m_X10_change_L9 at h
    by_cases c4 : wr 4 ≤ wr x3
    · rw [if_pos c4] at h
      cases h
      cases k2 _ rfl
      exact F
    · rw [if_neg c4] at h
      obtain ⟨r6, hc5, h⟩ := of_bd1 h
      obtain ⟨M11, h9, h⟩ := of_bd1 h
      have F : Fr [3, 4] M0 M11 := by
        have h := h9
        by_cases c7 : 0 ≤ wr r6
        · rw [if_pos c7] at h
          obtain ⟨c8, h⟩ := of_ck h
          obtain ⟨M9, eM9, h⟩ := of_lt h
          have F := F.sI (by decide) eM9
          obtain ⟨M10, eM10, h⟩ := of_lt h
          have F := F.sI (by decide) eM10
          cases h
          exact F
        · rw [if_neg c7] at h
          cases h
          exact F
      clear h9
      cases h
      exact ih _ _  _ (k1 _ rfl) F

set_option maxRecDepth 10000 in
theorem fr_X10_change {M : Mem} {M2 : Mem} {a1 : Int} {a2 : Int} (h : m_X10_change M a1 a2 = some (M2)) : Fr [2, 3, 4] M M2 := by
  unfold m_X10_change at h
  have F : Fr [2, 3, 4] M M := Fr.rf
  obtain ⟨c1, h⟩ := of_ck h
  obtain ⟨c2, h⟩ := of_ck h
  obtain ⟨M3, eM3, h⟩ := of_lt h
  have F := F.sI (by decide) eM3
  obtain ⟨y12, M13, h9, h⟩ := of_bd2 h
  have F := F.trans (fl_X10_change_L9 a1 FU _ _ _ h9 Fr.rf) (by decide)
  clear h9
  cases h
  exact F

set_option maxRecDepth 10000 in
theorem fl_X11_yardChanged_L9  {M0 : Mem} : ∀ (nn : Nat) (x1 : Int) (M : Mem) (out : Int × Mem), itr (fun s => m_X11_yardChanged_L9 s.2  s.1) nn (x1, M) = some out → Fr [39, 40, 41, 42, 43, 44, 45, 46] M0 M → Fr [39, 40, 41, 42, 43, 44, 45, 46] M0 out.2 := by
  intro nn
  induction nn with
  | zero =>
    intro x1 M out h _
    cases h
  | succ nn ih =>
    intro x1 M out h0 F
    obtain ⟨w, h, k1, k2⟩ := itr_inv h0
    have h : m_X11_yardChanged_L9 M  x1 = some w := h
    unfold m_X11_yardChanged_L9 at h
    by_cases c3 : wr 4 ≤ wr x1
    · rw [if_pos c3] at h
      cases h
      cases k2 _ rfl
      exact F
    · rw [if_neg c3] at h
      obtain ⟨c4, h⟩ := of_ck h
      obtain ⟨M5, eM5, h⟩ := of_lt h
      have F := F.sI (slo_in (by with_reducible assumption) (by decide)) eM5
      cases h
      exact ih _ _  _ (k1 _ rfl) F

set_option maxRecDepth 10000 in
theorem fr_X11_yardChanged {M : Mem} {M2 : Mem}  (h : m_X11_yardChanged M = some (M2)) : Fr [8, 39, 40, 41, 42, 43, 44, 45, 46] M M2 := by
  unfold m_X11_yardChanged at h
  have F : Fr [8, 39, 40, 41, 42, 43, 44, 45, 46] M M := Fr.rf
  obtain ⟨M2, hc1, h⟩ := of_bd1 h
  have F := F.trans (fr_X7_forget hc1) (by decide)
  obtain ⟨y6, M7, h9, h⟩ := of_bd2 h
  have F := F.trans (fl_X11_yardChanged_L9  FU _ _ _ h9 Fr.rf) (by decide)
  clear h9
  cases h
  exact F

set_option maxRecDepth 10000 in
theorem fr_X11_startYard {M : Mem} {M2 : Mem} {a1 : Int} {a2 : Int} (h : m_X11_startYard M a1 a2 = some (M2)) : Fr [1, 2, 3, 4, 8, 39, 40, 41, 42, 43, 44, 45, 46] M M2 := by
  unfold m_X11_startYard at h
  have F : Fr [1, 2, 3, 4, 8, 39, 40, 41, 42, 43, 44, 45, 46] M M := Fr.rf
  obtain ⟨M2, hc1, h⟩ := of_bd1 h
  have F := F.trans (fr_X10_start hc1) (by decide)
  obtain ⟨M4, hc3, h⟩ := of_bd1 h
  have F := F.trans (fr_X11_yardChanged hc3) (by decide)
  cases h
  exact F

set_option maxRecDepth 10000 in
theorem fr_X11_yard {M : Mem} {M2 : Mem} {a1 : Int} {a2 : Int} {r : Int} (h : m_X11_yard M a1 a2 = some (r, M2)) : Fr [1, 2, 3, 4, 8, 39, 40, 41, 42, 43, 44, 45, 46] M M2 := by
  unfold m_X11_yard at h
  have F : Fr [1, 2, 3, 4, 8, 39, 40, 41, 42, 43, 44, 45, 46] M M := Fr.rf
  by_cases c1 : wr a1 < wr 1
  · rw [if_pos c1] at h
    cases h
    exact F
  · rw [if_neg c1] at h
    by_cases c2 : wr 8 < wr a1
    · rw [if_pos c2] at h
      cases h
      exact F
    · rw [if_neg c2] at h
      by_cases c3 : wr a2 < wr 1
      · rw [if_pos c3] at h
        cases h
        exact F
      · rw [if_neg c3] at h
        by_cases c4 : wr a2 ≤ wr 8
        · rw [if_pos c4] at h
          obtain ⟨M6, hc5, h⟩ := of_bd1 h
          have F := F.trans (fr_X11_startYard hc5) (by decide)
          cases h
          exact F
        · rw [if_neg c4] at h
          cases h
          exact F

set_option maxRecDepth 10000 in
theorem fr_X11_changeCell {M : Mem} {M2 : Mem} {a1 : Int} {a2 : Int} {r : Bool} (h : m_X11_changeCell M a1 a2 = some (r, M2)) : Fr [2, 3, 4, 8, 39, 40, 41, 42, 43, 44, 45, 46] M M2 := by
  unfold m_X11_changeCell at h
  have F : Fr [2, 3, 4, 8, 39, 40, 41, 42, 43, 44, 45, 46] M M := Fr.rf
  obtain ⟨c1, h⟩ := of_ck h
  obtain ⟨M7, h9, h⟩ := of_bd1 h
  have F : Fr [2, 3, 4, 8, 39, 40, 41, 42, 43, 44, 45, 46] M M7 := by
    have h := h9
    by_cases c2 : wr (gI M 2 (wr a1)) = wr a2
    · rw [if_pos c2] at h
      cases h
      exact F
    · rw [if_neg c2] at h
      obtain ⟨M4, hc3, h⟩ := of_bd1 h
      have F := F.trans (fr_X10_change hc3) (by decide)
      obtain ⟨M6, hc5, h⟩ := of_bd1 h
      have F := F.trans (fr_X11_yardChanged hc5) (by decide)
      cases h
      exact F
  clear h9
  obtain ⟨cz, h⟩ := of_ck h
  cases h
  exact F

set_option maxRecDepth 10000 in
theorem fr_X11_cell {M : Mem} {M2 : Mem} {a1 : Int} {a2 : Int} {r : Int} (h : m_X11_cell M a1 a2 = some (r, M2)) : Fr [2, 3, 4, 8, 39, 40, 41, 42, 43, 44, 45, 46] M M2 := by
  unfold m_X11_cell at h
  have F : Fr [2, 3, 4, 8, 39, 40, 41, 42, 43, 44, 45, 46] M M := Fr.rf
  obtain ⟨b2, hc1, h⟩ := of_bd1 h
  by_cases c3 : wr (bI b2) = 0
  · rw [if_pos c3] at h
    cases h
    exact F
  · rw [if_neg c3] at h
    obtain ⟨b5, M6, hc4, h⟩ := of_bd2 h
    have F := F.trans (fr_X11_changeCell hc4) (by decide)
    cases h
    exact F

set_option maxRecDepth 10000 in
theorem fr_X11_type {M : Mem} {M2 : Mem} {a1 : Int64} {a2 : Int} {r : Int} (h : m_X11_type M a1 a2 = some (r, M2)) : Fr [5, 6] M M2 := by
  unfold m_X11_type at h
  have F : Fr [5, 6] M M := Fr.rf
  by_cases c1 : wr a2 < wr 1
  · rw [if_pos c1] at h
    cases h
    exact F
  · rw [if_neg c1] at h
    by_cases c2 : wr 8 < wr a2
    · rw [if_pos c2] at h
      cases h
      exact F
    · rw [if_neg c2] at h
      obtain ⟨b4, hc3, h⟩ := of_bd1 h
      by_cases c5 : wr (bI b4) = 0
      · rw [if_pos c5] at h
        cases h
        exact F
      · rw [if_neg c5] at h
        by_cases c6 : wr ((gI M 5 2) + a2) ≤ wr 90
        · rw [if_pos c6] at h
          obtain ⟨r8, M9, hc7, h⟩ := of_bd2 h
          have F := F.trans (fr_X8_append hc7) (by decide)
          cases h
          exact F
        · rw [if_neg c6] at h
          cases h
          exact F

set_option maxRecDepth 10000 in
theorem fl_X11_read_L42  {M0 : Mem} : ∀ (nn : Nat) (x2 : Int) (M : Mem) (out : Int × Mem), itr (fun s => m_X11_read_L42 s.2  s.1) nn (x2, M) = some out → Fr [2, 3, 4, 8, 39, 40, 41, 42, 43, 44, 45, 46] M0 M → Fr [2, 3, 4, 8, 39, 40, 41, 42, 43, 44, 45, 46] M0 out.2 := by
  intro nn
  induction nn with
  | zero =>
    intro x2 M out h _
    cases h
  | succ nn ih =>
    intro x2 M out h0 F
    obtain ⟨w, h, k1, k2⟩ := itr_inv h0
    have h : m_X11_read_L42 M  x2 = some w := h
    unfold m_X11_read_L42 at h
    by_cases c8 : wr (m_X10_cells M) ≤ wr x2
    · rw [if_pos c8] at h
      cases h
      cases k2 _ rfl
      exact F
    · rw [if_neg c8] at h
      obtain ⟨r10, hc9, h⟩ := of_bd1 h
      obtain ⟨r12, hc11, h⟩ := of_bd1 h
      obtain ⟨b14, hc13, h⟩ := of_bd1 h
      obtain ⟨b16, M17, hc15, h⟩ := of_bd2 h
      have F := F.trans (fr_X11_changeCell hc15) (by decide)
      cases h
      exact ih _ _  _ (k1 _ rfl) F

set_option maxRecDepth 10000 in
theorem fr_X11_read {M : Mem} {M2 : Mem}  {r : Int} (h : m_X11_read M = some (r, M2)) : Fr [1, 2, 3, 4, 5, 7, 8, 39, 40, 41, 42, 43, 44, 45, 46] M M2 := by
  unfold m_X11_read at h
  have F : Fr [1, 2, 3, 4, 5, 7, 8, 39, 40, 41, 42, 43, 44, 45, 46] M M := Fr.rf
  obtain ⟨r2, M3, hc1, h⟩ := of_bd2 h
  have F := F.trans (fr_X8_parse hc1) (by decide)
  obtain ⟨M4, eM4, h⟩ := of_lt h
  have F := F.sI (by decide) eM4
  by_cases c5 : 0 ≤ wr r2
  · rw [if_pos c5] at h
    obtain ⟨M7, hc6, h⟩ := of_bd1 h
    have F := F.trans (fr_X11_startYard hc6) (by decide)
    obtain ⟨y18, M19, h9, h⟩ := of_bd2 h
    have F := F.trans (fl_X11_read_L42  FU _ _ _ h9 Fr.rf) (by decide)
    clear h9
    obtain ⟨r21, hc20, h⟩ := of_bd1 h
    cases h
    exact F
  · rw [if_neg c5] at h
    cases h
    exact F

set_option maxRecDepth 10000 in
theorem fl_X11_lay_L92 (p1 : Int) (p3 : Int) (p5 : Nat) (p6 : Int) {M0 : Mem} : ∀ (nn : Nat) (x7 : Int) (M : Mem) (out : Int × Mem), itr (fun s => m_X11_lay_L92 s.2 p1 p3 p5 p6 s.1) nn (x7, M) = some out → Fr [2, 3, 4, 8, 39, 40, 41, 42, 43, 44, 45, 46] M0 M → Fr [2, 3, 4, 8, 39, 40, 41, 42, 43, 44, 45, 46] M0 out.2 := by
  intro nn
  induction nn with
  | zero =>
    intro x7 M out h _
    cases h
  | succ nn ih =>
    intro x7 M out h0 F
    obtain ⟨w, h, k1, k2⟩ := itr_inv h0
    have h : m_X11_lay_L92 M p1 p3 p5 p6 x7 = some w := h
    unfold m_X11_lay_L92 at h
    by_cases c13 : wr p6 ≤ wr x7
    · rw [if_pos c13] at h
      cases h
      cases k2 _ rfl
      exact F
    · rw [if_neg c13] at h
      obtain ⟨c14, h⟩ := of_ck h
      obtain ⟨v16, ev16, h⟩ := of_lt h
      obtain ⟨b18, M19, hc17, h⟩ := of_bd2 h
      have F := F.trans (fr_X11_changeCell hc17) (by decide)
      cases h
      exact ih _ _  _ (k1 _ rfl) F

set_option maxRecDepth 10000 in
theorem fr_X11_lay {M : Mem} {M2 : Mem} {a1 : Int} {a2 : Int} {a3 : Int} {r : Int} (h : m_X11_lay M a1 a2 a3 = some (r, M2)) : Fr [2, 3, 4, 8, 39, 40, 41, 42, 43, 44, 45, 46] M M2 := by
  unfold m_X11_lay at h
  have F : Fr [2, 3, 4, 8, 39, 40, 41, 42, 43, 44, 45, 46] M M := Fr.rf
  by_cases c1 : wr a1 < 0
  · rw [if_pos c1] at h
    cases h
    exact F
  · rw [if_neg c1] at h
    by_cases c2 : wr (m_X10_cells M) < wr a1
    · rw [if_pos c2] at h
      cases h
      exact F
    · rw [if_neg c2] at h
      obtain ⟨b4, hc3, h⟩ := of_bd1 h
      by_cases c5 : wr (bI b4) = 0
      · rw [if_pos c5] at h
        cases h
        exact F
      · rw [if_neg c5] at h
        obtain ⟨r7, hc6, h⟩ := of_bd1 h
        by_cases c8 : 0 ≤ wr r7
        · rw [if_pos c8] at h
          obtain ⟨c9, h⟩ := of_ck h
          by_cases c10 : wr a3 < 0
          · rw [if_pos c10] at h
            cases h
            exact F
          · rw [if_neg c10] at h
            by_cases c11 : wr a3 ≤ wr (gI M (47 + 2 * (wr a2).toNat) 2)
            · rw [if_pos c11] at h
              by_cases c12 : wr ((gI M (47 + 2 * (wr a2).toNat) 2) - a3) ≤ wr ((m_X10_cells M) - a1)
              · rw [if_pos c12] at h
                obtain ⟨y20, M21, h9, h⟩ := of_bd2 h
                have F := F.trans (fl_X11_lay_L92 a1 a3 (47 + 2 * (wr a2).toNat) ((gI M (47 + 2 * (wr a2).toNat) 2) - a3) FU _ _ _ h9 Fr.rf) (by decide)
                clear h9
                cases h
                exact F
              · rw [if_neg c12] at h
                cases h
                exact F
            · rw [if_neg c11] at h
              cases h
              exact F
        · rw [if_neg c8] at h
          cases h
          exact F

set_option maxRecDepth 10000 in
theorem fr_X11_want {M : Mem} {M2 : Mem} {a1 : Int} {a2 : Int} {r : Int} (h : m_X11_want M a1 a2 = some (r, M2)) : Fr [3, 8] M M2 := by
  unfold m_X11_want at h
  have F : Fr [3, 8] M M := Fr.rf
  by_cases c1 : wr a2 < 0
  · rw [if_pos c1] at h
    cases h
    exact F
  · rw [if_neg c1] at h
    by_cases c2 : wr 2 < wr a2
    · rw [if_pos c2] at h
      cases h
      exact F
    · rw [if_neg c2] at h
      obtain ⟨b4, hc3, h⟩ := of_bd1 h
      by_cases c5 : wr (bI b4) = 0
      · rw [if_pos c5] at h
        cases h
        exact F
      · rw [if_neg c5] at h
        obtain ⟨c6, h⟩ := of_ck h
        obtain ⟨M7, eM7, h⟩ := of_lt h
        have F := F.sI (by decide) eM7
        obtain ⟨M11, h9, h⟩ := of_bd1 h
        have F : Fr [3, 8] M M11 := by
          have h := h9
          by_cases c8 : wr (gI M 3 (wr a1)) = wr a2
          · rw [if_pos c8] at h
            cases h
            exact F
          · rw [if_neg c8] at h
            obtain ⟨M10, hc9, h⟩ := of_bd1 h
            have F := F.trans (fr_X7_forget hc9) (by decide)
            cases h
            exact F
        clear h9
        cases h
        exact F

set_option maxRecDepth 10000 in
theorem fr_X11_price {M : Mem} {M2 : Mem} {a1 : Int} {a2 : Int} {r : Int} (h : m_X11_price M a1 a2 = some (r, M2)) : Fr [4, 8] M M2 := by
  unfold m_X11_price at h
  have F : Fr [4, 8] M M := Fr.rf
  by_cases c1 : wr a2 < 0
  · rw [if_pos c1] at h
    cases h
    exact F
  · rw [if_neg c1] at h
    by_cases c2 : wr 999 < wr a2
    · rw [if_pos c2] at h
      cases h
      exact F
    · rw [if_neg c2] at h
      obtain ⟨b4, hc3, h⟩ := of_bd1 h
      by_cases c5 : wr (bI b4) = 0
      · rw [if_pos c5] at h
        cases h
        exact F
      · rw [if_neg c5] at h
        obtain ⟨c6, h⟩ := of_ck h
        obtain ⟨M7, eM7, h⟩ := of_lt h
        have F := F.sI (by decide) eM7
        obtain ⟨M11, h9, h⟩ := of_bd1 h
        have F : Fr [4, 8] M M11 := by
          have h := h9
          by_cases c8 : wr (gI M 4 (wr a1)) = wr a2
          · rw [if_pos c8] at h
            cases h
            exact F
          · rw [if_neg c8] at h
            obtain ⟨M10, hc9, h⟩ := of_bd1 h
            have F := F.trans (fr_X7_forget hc9) (by decide)
            cases h
            exact F
        clear h9
        cases h
        exact F

set_option maxRecDepth 10000 in
theorem fr_X11_pavings {M : Mem} {M2 : Mem}  {r : Int64} (h : m_X11_pavings M = some (r, M2)) : Fr [8, 9, 11] M M2 := by
  unfold m_X11_pavings at h
  have F : Fr [8, 9, 11] M M := Fr.rf
  obtain ⟨r2, M3, hc1, h⟩ := of_bd2 h
  have F := F.trans (fr_X7_total hc1) (by decide)
  cases h
  exact F

set_option maxRecDepth 10000 in
theorem fr_X11_share {M : Mem} {M2 : Mem} {a1 : Int} {r : Int64} (h : m_X11_share M a1 = some (r, M2)) : Fr [8, 9, 10, 11, 12, 13, 15, 16] M M2 := by
  unfold m_X11_share at h
  have F : Fr [8, 9, 10, 11, 12, 13, 15, 16] M M := Fr.rf
  obtain ⟨b2, hc1, h⟩ := of_bd1 h
  by_cases c3 : wr (bI b2) = 0
  · rw [if_pos c3] at h
    cases h
    exact F
  · rw [if_neg c3] at h
    obtain ⟨M5, hc4, h⟩ := of_bd1 h
    have F := F.trans (fr_X7_fillShares hc4) (by decide)
    obtain ⟨c6, h⟩ := of_ck h
    cases h
    exact F

set_option maxRecDepth 10000 in
theorem fr_X11_sure {M : Mem} {M2 : Mem} {a1 : Int} {r : Int} (h : m_X11_sure M a1 = some (r, M2)) : Fr [8, 9, 10, 11, 12, 13, 15, 16] M M2 := by
  unfold m_X11_sure at h
  have F : Fr [8, 9, 10, 11, 12, 13, 15, 16] M M := Fr.rf
  by_cases c1 : wr a1 = 0
  · rw [if_pos c1] at h
    obtain ⟨r3, M4, hc2, h⟩ := of_bd2 h
    have F := F.trans (fr_X7_total hc2) (by decide)
    by_cases c5 : r3 = (0 : Int64)
    · rw [if_pos c5] at h
      cases h
      exact F
    · rw [if_neg c5] at h
      obtain ⟨M7, hc6, h⟩ := of_bd1 h
      have F := F.trans (fr_X7_fillShares hc6) (by decide)
      obtain ⟨v9, ev9, h⟩ := of_lt h
      obtain ⟨r11, hc10, h⟩ := of_bd1 h
      cases h
      exact F
  · rw [if_neg c1] at h
    by_cases c12 : wr a1 = wr 1
    · rw [if_pos c12] at h
      obtain ⟨r14, M15, hc13, h⟩ := of_bd2 h
      have F := F.trans (fr_X7_total hc13) (by decide)
      by_cases c16 : r14 = (0 : Int64)
      · rw [if_pos c16] at h
        cases h
        exact F
      · rw [if_neg c16] at h
        obtain ⟨M18, hc17, h⟩ := of_bd1 h
        have F := F.trans (fr_X7_fillShares hc17) (by decide)
        obtain ⟨v20, ev20, h⟩ := of_lt h
        obtain ⟨r22, hc21, h⟩ := of_bd1 h
        cases h
        exact F
    · rw [if_neg c12] at h
      cases h
      exact F

set_option maxRecDepth 10000 in
theorem fr_X11_place {M : Mem} {M2 : Mem} {a1 : Int} {a2 : Int64} {r : Int} (h : m_X11_place M a1 a2 = some (r, M2)) : Fr [8, 9, 11, 39, 40, 41, 42, 43, 44, 45, 46] M M2 := by
  unfold m_X11_place at h
  have F : Fr [8, 9, 11, 39, 40, 41, 42, 43, 44, 45, 46] M M := Fr.rf
  obtain ⟨b2, hc1, h⟩ := of_bd1 h
  by_cases c3 : wr (bI b2) = 0
  · rw [if_pos c3] at h
    cases h
    exact F
  · rw [if_neg c3] at h
    by_cases c4 : a2 < (0 : Int64)
    · rw [if_pos c4] at h
      cases h
      exact F
    · rw [if_neg c4] at h
      obtain ⟨r6, M7, hc5, h⟩ := of_bd2 h
      have F := F.trans (fr_X7_total hc5) (by decide)
      by_cases c8 : a2 < r6
      · rw [if_pos c8] at h
        obtain ⟨c9, h⟩ := of_ck h
        obtain ⟨M11, hc10, h⟩ := of_bd1 h
        have F := F.trans (fr_X7_layByRank hc10) (List.forall_mem_cons.mpr ⟨(by decide), List.forall_mem_cons.mpr ⟨(by decide), List.forall_mem_cons.mpr ⟨(by decide), List.forall_mem_cons.mpr ⟨(slo_in1 (by with_reducible assumption) (by decide)), List.forall_mem_cons.mpr ⟨(slo_in (by with_reducible assumption) (by decide)), fun _ h => absurd h List.not_mem_nil⟩⟩⟩⟩⟩)
        obtain ⟨r13, hc12, h⟩ := of_bd1 h
        cases h
        exact F
      · rw [if_neg c8] at h
        cases h
        exact F

set_option maxRecDepth 10000 in
theorem fr_X11_rank {M : Mem} {M2 : Mem} {a1 : Int} {r : Int64} (h : m_X11_rank M a1 = some (r, M2)) : Fr [8, 9, 11] M M2 := by
  unfold m_X11_rank at h
  have F : Fr [8, 9, 11] M M := Fr.rf
  obtain ⟨r2, hc1, h⟩ := of_bd1 h
  by_cases c3 : 0 ≤ wr r2
  · rw [if_pos c3] at h
    obtain ⟨c4, h⟩ := of_ck h
    obtain ⟨r6, M7, hc5, h⟩ := of_bd2 h
    have F := F.trans (fr_X7_rankOf hc5) (by decide)
    cases h
    exact F
  · rw [if_neg c3] at h
    cases h
    exact F

