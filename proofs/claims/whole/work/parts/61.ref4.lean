/-! THE REFERENCE'S WHOLE EVENING -/
theorem beginAt_loop {P : Pa} {x : Nat} (hx : x ≤ 1) : ∀ c i f (μ : Mm), PR μ P → i + c = pN P → c < f → ∃ μ1, F_X9_beginAt_2 f (kI x) (kI i) μ = F_X9_beginAt_2 (f - c) (kI x) (kI (pN P)) μ1 ∧ (∀ k, i ≤ k → k < pN P → gI μ1 118 (7 * x + k) = kO none ∧ gI μ1 119 (7 * x + k) = kI 0) ∧ (∀ k, k < i → gI μ1 118 (7 * x + k) = gI μ 118 (7 * x + k) ∧ gI μ1 119 (7 * x + k) = gI μ 119 (7 * x + k)) ∧ FrC (fun a j => (a = 118 ∨ a = 119) ∧ 7 * x ≤ j ∧ j < 7 * x + 7) μ μ1 := by
  intro c
  induction c with
  | zero =>
    intro i f μ hP hi hf
    have : i = pN P := by omega
    subst this
    exact ⟨μ, rfl, fun k h1 h2 => absurd h2 (by omega), fun k h => ⟨rfl, rfl⟩, FrC.refl⟩
  | succ c ih =>
    intro i f μ hP hi hf
    have hn := hP.n7
    have en := hP.n
    obtain ⟨f, rfl⟩ : ∃ g, f = g + 1 := ⟨f - 1, by omega⟩
    have fr : FrC (fun a j => (a = 118 ∨ a = 119) ∧ 7 * x ≤ j ∧ j < 7 * x + 7) μ (pI (pI μ 118 (7 * x + i) (iI (-1))) 119 (7 * x + i) (kI 0)) := (FrC.refl.put (by omega)).put (by omega)
    have hP2 : PR (pI (pI μ 118 (7 * x + i) (iI (-1))) 119 (7 * x + i) (kI 0)) P := hP.fr fr (fun a j q z => by unfold CP at z; omega)
    obtain ⟨μ1, i1, i2, i3, i4⟩ := ih (i + 1) f _ hP2 (by omega) (by omega)
    refine ⟨μ1, ?_, fun k h1 h2 => ?_, fun k h => ?_, fr.trans i4⟩
    · rw [show f + 1 - (c + 1) = f - c by omega, ← i1]
      rw [F_X9_beginAt_2]
      simp (disch := omega) only [en, show ¬ pN P ≤ i by omega, iI_lit, kI_add, kI_mul, kI_eq, kI_lt, kI_le, kI_neg1, neg1_kI, neg1_lt0, neg1_0le, kO_none, kO_some, nm_eq, bnd_some, rz_0, rz_1, zb_0, zb_1, rd_kI, wrI_kI, wrL_kI, dvI_kI, rmI_kI, if_true, if_false, ite_true, ite_false, reduceIte, Nat.lt_irrefl, Nat.le_refl, not_true, not_false_iff, true_and, and_true, false_and, and_false, and_self, Bool.false_eq_true, eq_self, Decidable.not_not]
    · by_cases z : k = i
      · obtain ⟨g1, g2⟩ := i3 k (by omega)
        rw [g1, g2, z]
        simp [gI_pI, kO_none]
      · exact i2 k (by omega) h2
    · obtain ⟨g1, g2⟩ := i3 k (by omega)
      rw [g1, g2]
      simp [gI_pI, show ¬ k = i by omega]
theorem beginAt_eq {μ : Mm} {P : Pa} {x : Nat} {lot : Nat → Nat} (hx : x ≤ 1) (hP : PR μ P) (hlt : ∀ j, j < pN P → gI μ 117 j = kI (lot j)) (w g : Int32) : Wp (F_X9_beginAt (kI x) μ) fun _ μ' => RR μ' x P lot (wrE w g (kI 0)) ∧ FrC (CX9 x) μ μ' := by
  have hn := hP.n7
  obtain ⟨μ1, i1, i2, i3, i4⟩ := beginAt_loop (P := P) hx (pN P) 0 FU μ hP (by omega) (by unfold FU; omega)
  obtain ⟨f, hf⟩ : ∃ f, FU - pN P = f + 1 := ⟨FU - pN P - 1, by unfold FU; omega⟩
  rw [hf] at i1
  have hP1 : PR μ1 P := hP.fr i4 (fun a j q z => by unfold CP at z; omega)
  have en := hP1.n
  have f0 : FrC (CX9 x) μ μ1 := i4.mono (fun a j q => Or.inl q)
  have c120 : CX9 x 120 x := by unfold CX9; omega
  have c121 : CX9 x 121 x := by unfold CX9; omega
  have c122 : CX9 x 122 x := by unfold CX9; omega
  have c123 : CX9 x 123 x := by unfold CX9; omega
  have c124 : CX9 x 124 x := by unfold CX9; omega
  have ew := wr_new hn
  have fin : ∀ v, kO (cu P lot (wrE w g (kI 0))) = v → RR (pI (pI (pI (pI (pI μ1 120 x (kI (wr (pN P) 0))) 123 x (iI (-1))) 124 x (kI 0)) 121 x v) 122 x (kI 1)) x P lot (wrE w g (kI 0)) ∧ FrC (CX9 x) μ (pI (pI (pI (pI (pI μ1 120 x (kI (wr (pN P) 0))) 123 x (iI (-1))) 124 x (kI 0)) 121 x v) 122 x (kI 1)) := by
    intro v hv
    refine ⟨⟨hx, fun k hk => ?_, fun k hk => ?_, ?_, ?_, fun _ => ?_, fun _ => ?_, fun z => ?_, fun j hj => ?_⟩, ((((f0.put c120).put c123).put c124).put c121).put c122⟩
    · simp [gI_pI, (i2 k (by omega) hk).1]; rfl
    · simp [gI_pI, (i2 k (by omega) hk).2]; rfl
    · simp [gI_pI]; rfl
    · simp [gI_pI, hv]
    · simp [gI_pI]; rfl
    · simp [gI_pI]; rfl
    · simp [gI_pI]; rfl
    · simp [gI_pI, i4.1 117 j (by omega), hlt j hj]
  unfold F_X9_beginAt
  simp only [iI_lit]
  rw [i1]
  rw [F_X9_beginAt_2]
  unfold F_X9_beginAt_90
  by_cases z : pN P ≤ 0
  · obtain ⟨f1, f2⟩ := fin (iI (-1)) (by
      show kO (if 0 < pN P then some (lot 0) else none) = _
      rw [if_neg (by omega)]; rfl)
    refine ⟨(), _, ?_, f1, f2⟩
    simp (disch := omega) only [en, ew, z, gI_pI, show ¬ (113 : Nat) = 120 by omega, show ¬ (113 : Nat) = 123 by omega, show ¬ (113 : Nat) = 124 by omega, iI_lit, kI_add, kI_mul, kI_eq, kI_lt, kI_le, kI_neg1, neg1_kI, neg1_lt0, neg1_0le, kO_none, kO_some, nm_eq, bnd_some, rz_0, rz_1, zb_0, zb_1, rd_kI, wrI_kI, wrL_kI, dvI_kI, rmI_kI, if_true, if_false, ite_true, ite_false, reduceIte, Nat.lt_irrefl, Nat.le_refl, not_true, not_false_iff, true_and, and_true, false_and, and_false, and_self, Bool.false_eq_true, eq_self, Decidable.not_not]
  · obtain ⟨f1, f2⟩ := fin (kI (lot 0)) (by
      show kO (if 0 < pN P then some (lot 0) else none) = _
      rw [if_pos (by omega)]; rfl)
    refine ⟨(), _, ?_, f1, f2⟩
    have e7 : gI μ1 117 0 = kI (lot 0) := by rw [i4.1 117 0 (by omega)]; exact hlt 0 (by omega)
    simp (disch := omega) only [en, ew, e7, z, gI_pI, show ¬ (113 : Nat) = 120 by omega, show ¬ (113 : Nat) = 123 by omega, show ¬ (113 : Nat) = 124 by omega, show ¬ (117 : Nat) = 120 by omega, show ¬ (117 : Nat) = 123 by omega, show ¬ (117 : Nat) = 124 by omega, iI_lit, kI_add, kI_mul, kI_eq, kI_lt, kI_le, kI_neg1, neg1_kI, neg1_lt0, neg1_0le, kO_none, kO_some, nm_eq, bnd_some, rz_0, rz_1, zb_0, zb_1, rd_kI, wrI_kI, wrL_kI, dvI_kI, rmI_kI, if_true, if_false, ite_true, ite_false, reduceIte, Nat.lt_irrefl, Nat.le_refl, not_true, not_false_iff, true_and, and_true, false_and, and_false, and_self, Bool.false_eq_true, eq_self, Decidable.not_not]
theorem againChoice_loop {μ : Mm} {P : Pa} {x p k0 : Nat} {lot : Nat → Nat} {e : Ev} (hP : PR μ P) (h : RR μ x P lot e) (hb : BdE e) (hp : p < pN P) (hk : k0 < pN P) (ho : eP e = pN P) : ∀ c i b f, i + c = pN P → c < f → (∀ w, b = some w → w < pN P) → pW P p k0 ≤ pW P p (b.getD k0) → F_X9_againChoice_20 f (kI x) (kI p) (kI k0) (kO b) (kI i) μ = some (kO (pk (cA P e) (fun k => kI (pW P p k)) c i (kI (pW P p (b.getD k0))) b), μ) := by
  have hn := hP.n7
  have en := hP.n
  have em := hP.m
  have hM := hP.ok.2.2.2.2.2.1
  obtain ⟨hx, h1, h2, -⟩ := h
  intro c
  induction c with
  | zero =>
    intro i b f hi hf hb1 hb2
    obtain ⟨f, rfl⟩ : ∃ g, f = g + 1 := ⟨f - 1, by omega⟩
    unfold F_X9_againChoice_20 pk
    simp (disch := omega) only [en, show pN P ≤ i by omega, iI_lit, kI_add, kI_mul, kI_eq, kI_lt, kI_le, kI_neg1, neg1_kI, neg1_lt0, neg1_0le, kO_none, kO_some, nm_eq, bnd_some, rz_0, rz_1, zb_0, zb_1, rd_kI, wrI_kI, wrL_kI, dvI_kI, rmI_kI, if_true, if_false, ite_true, ite_false, reduceIte, Nat.lt_irrefl, Nat.le_refl, not_true, not_false_iff, true_and, and_true, false_and, and_false, and_self, Bool.false_eq_true, eq_self, Decidable.not_not]
  | succ c ih =>
    intro i b f hi hf hb1 hb2
    obtain ⟨f, rfl⟩ : ∃ g, f = g + 1 := ⟨f - 1, by omega⟩
    have e2 := h2 i (by omega)
    have bt := hb.2.1 i
    have ew := hP.w (p := p) (k := i) (by omega) (by omega)
    have hwi := hP.ok.2.1 p i
    have hw0 := hP.ok.2.1 p k0
    have hwb := hP.ok.2.1 p (b.getD k0)
    have hbl : b.getD k0 < pN P := by
      cases b with
      | none => exact hk
      | some w => exact hb1 w rfl
    have ewb := hP.w (p := p) (k := b.getD k0) (by omega) (by omega)
    have rest := ih (i + 1) b f (by omega) (by omega) hb1 hb2
    have next := ih (i + 1) (some i) f (by omega) (by omega) (fun w q => by cases q; omega)
    unfold F_X9_againChoice_20 F_X9_againChoice_85 F_X9_againChoice_97 pk
    by_cases z : i = k0
    · have : ¬ (cA P e i = true ∧ kI (pW P p (b.getD k0)) < kI (pW P p i)) := fun q => by
        have := q.2
        rw [kI_lt (by omega) (by omega), z] at this
        omega
      rw [if_neg this]
      simp (disch := omega) only [en, z, show ¬ pN P ≤ i by omega, iI_lit, kI_add, kI_mul, kI_eq, kI_lt, kI_le, kI_neg1, neg1_kI, neg1_lt0, neg1_0le, kO_none, kO_some, nm_eq, bnd_some, rz_0, rz_1, zb_0, zb_1, rd_kI, wrI_kI, wrL_kI, dvI_kI, rmI_kI, if_true, if_false, ite_true, ite_false, reduceIte, Nat.lt_irrefl, Nat.le_refl, not_true, not_false_iff, true_and, and_true, false_and, and_false, and_self, Bool.false_eq_true, eq_self, Decidable.not_not]
      rw [z] at rest
      simp (disch := omega) only [rest, show ¬ pN P ≤ k0 by omega, if_false, ite_false]
    · by_cases hm : pM P ≤ eT e i
      · have hc : ¬ cA P e i = true := by rw [cA_iff]; omega
        simp (disch := omega) only [en, em, e2, hm, hc, z, show ¬ pN P ≤ i by omega, rest, iI_lit, kI_add, kI_mul, kI_eq, kI_lt, kI_le, kI_neg1, neg1_kI, neg1_lt0, neg1_0le, kO_none, kO_some, nm_eq, bnd_some, rz_0, rz_1, zb_0, zb_1, rd_kI, wrI_kI, wrL_kI, dvI_kI, rmI_kI, if_true, if_false, ite_true, ite_false, reduceIte, Nat.lt_irrefl, Nat.le_refl, not_true, not_false_iff, true_and, and_true, false_and, and_false, and_self, Bool.false_eq_true, eq_self, Decidable.not_not]
      · have hc : cA P e i = true := by rw [cA_iff]; omega
        cases b with
        | none =>
          have ewb : gI μ 114 (7 * p + k0) = kI (pW P p k0) := ewb
          have rest : F_X9_againChoice_20 f (kI x) (kI p) (kI k0) (kO none) (kI (i + 1)) μ = some (kO (pk (cA P e) (fun k => kI (pW P p k)) c (i + 1) (kI (pW P p k0)) none), μ) := rest
          show _ = some (kO (if cA P e i = true ∧ kI (pW P p k0) < kI (pW P p i) then _ else pk (cA P e) (fun k => kI (pW P p k)) c (i + 1) (kI (pW P p k0)) none), μ)
          by_cases hg : pW P p k0 < pW P p i
          · have := next (by show pW P p k0 ≤ pW P p i; omega)
            rw [kO_some] at this
            rw [kO_none]
            simp (disch := omega) only [en, em, e2, ew, ewb, hm, hc, z, hg, show ¬ pN P ≤ i by omega, this, Option.getD_some, iI_lit, kI_add, kI_mul, kI_eq, kI_lt, kI_le, kI_neg1, neg1_kI, neg1_lt0, neg1_0le, kO_none, kO_some, nm_eq, bnd_some, rz_0, rz_1, zb_0, zb_1, rd_kI, wrI_kI, wrL_kI, dvI_kI, rmI_kI, if_true, if_false, ite_true, ite_false, reduceIte, Nat.lt_irrefl, Nat.le_refl, not_true, not_false_iff, true_and, and_true, false_and, and_false, and_self, Bool.false_eq_true, eq_self, Decidable.not_not]
          · rw [kO_none] at rest ⊢
            simp (disch := omega) only [en, em, e2, ew, ewb, hm, hc, z, hg, show ¬ pN P ≤ i by omega, rest, iI_lit, kI_add, kI_mul, kI_eq, kI_lt, kI_le, kI_neg1, neg1_kI, neg1_lt0, neg1_0le, kO_none, kO_some, nm_eq, bnd_some, rz_0, rz_1, zb_0, zb_1, rd_kI, wrI_kI, wrL_kI, dvI_kI, rmI_kI, if_true, if_false, ite_true, ite_false, reduceIte, Nat.lt_irrefl, Nat.le_refl, not_true, not_false_iff, true_and, and_true, false_and, and_false, and_self, Bool.false_eq_true, eq_self, Decidable.not_not]
        | some w =>
          have hw7 := hb1 w rfl
          have ewb : gI μ 114 (7 * p + w) = kI (pW P p w) := ewb
          have rest : F_X9_againChoice_20 f (kI x) (kI p) (kI k0) (kO (some w)) (kI (i + 1)) μ = some (kO (pk (cA P e) (fun k => kI (pW P p k)) c (i + 1) (kI (pW P p w)) (some w)), μ) := rest
          have hwb : pW P p w ≤ 99 := hwb
          have hb2 : pW P p k0 ≤ pW P p w := hb2
          show _ = some (kO (if cA P e i = true ∧ kI (pW P p w) < kI (pW P p i) then _ else pk (cA P e) (fun k => kI (pW P p k)) c (i + 1) (kI (pW P p w)) (some w)), μ)
          by_cases hg : pW P p w < pW P p i
          · have := next (by show pW P p k0 ≤ pW P p i; omega)
            rw [kO_some] at this
            rw [kO_some]
            simp (disch := omega) only [en, em, e2, ew, ewb, hm, hc, z, hg, Nat.zero_le, show ¬ pN P ≤ i by omega, this, Option.getD_some, iI_lit, kI_add, kI_mul, kI_eq, kI_lt, kI_le, kI_neg1, neg1_kI, neg1_lt0, neg1_0le, kO_none, kO_some, nm_eq, bnd_some, rz_0, rz_1, zb_0, zb_1, rd_kI, wrI_kI, wrL_kI, dvI_kI, rmI_kI, if_true, if_false, ite_true, ite_false, reduceIte, Nat.lt_irrefl, Nat.le_refl, not_true, not_false_iff, true_and, and_true, false_and, and_false, and_self, Bool.false_eq_true, eq_self, Decidable.not_not]
          · rw [kO_some] at rest ⊢
            simp (disch := omega) only [en, em, e2, ew, ewb, hm, hc, z, hg, Nat.zero_le, show ¬ pN P ≤ i by omega, rest, iI_lit, kI_add, kI_mul, kI_eq, kI_lt, kI_le, kI_neg1, neg1_kI, neg1_lt0, neg1_0le, kO_none, kO_some, nm_eq, bnd_some, rz_0, rz_1, zb_0, zb_1, rd_kI, wrI_kI, wrL_kI, dvI_kI, rmI_kI, if_true, if_false, ite_true, ite_false, reduceIte, Nat.lt_irrefl, Nat.le_refl, not_true, not_false_iff, true_and, and_true, false_and, and_false, and_self, Bool.false_eq_true, eq_self, Decidable.not_not]
theorem againChoice_eq {μ : Mm} {P : Pa} {x : Nat} {lot : Nat → Nat} {e : Ev} (hP : PR μ P) (h : RR μ x P lot e) (hl : LotOk (pN P) P lot) (hw : WfE (pN P) P lot e) (h1 : 0 < eP e) (h2 : eP e = pN P) : ∃ k0, eH e (lot 0) = some k0 ∧ k0 < pN P ∧ F_X9_hasIn (kI x) (kI (lot 0)) μ = some (kI k0, μ) ∧ F_X9_againChoice (kI x) μ = some (kO (agC P lot e), μ) := by
  have hn := hP.n7
  have hb := hw.1
  have hp : lot 0 < pN P := hl.2.2 0 (by omega)
  have hR : eR e = none := by
    cases q : eR e with
    | none => rfl
    | some r => have := (hw.2.2.2.2.2.2.1 r q).1; omega
  obtain ⟨k0, hk0⟩ : ∃ k0, eH e (lot 0) = some k0 := by
    cases q : eH e (lot 0) with
    | none => exact absurd q (hw.2.2.2.2.2.2.2 0 (Or.inl h1) (by rw [hR]; intro z; cases z))
    | some k => exact ⟨k, rfl⟩
  have hk : k0 < pN P := by
    have := (hw.2.2.2.2.1 _ _).mp hk0
    by_cases z : k0 < eP e
    · omega
    · rw [(hw.2.2.2.1 k0 (by omega)).1] at this; cases this
  have eh := hasIn_eq (x := x) hP h hw (p := lot 0) (by omega)
  rw [hk0, cI_some] at eh
  refine ⟨k0, hk0, hk, eh, ?_⟩
  have lp := againChoice_loop hP h hb hp hk h2 (pN P) 0 none FU (by omega) (by unfold FU; omega) (fun w q => by cases q) (Nat.le_refl _)
  have e8 := h.2.2.2.2.2.2.2.2 0 (by omega)
  have ea : agC P lot e = pk (cA P e) (fun k => kI (pW P (lot 0) k)) (pN P) 0 (kI (pW P (lot 0) k0)) none := by
    unfold agC
    rw [hk0, wo_some hp hk, h2]
  have lp : F_X9_againChoice_20 FU (kI x) (kI (lot 0)) (kI k0) (iI (-1)) (kI 0) μ = some (kO (agC P lot e), μ) := by rw [ea]; exact lp
  unfold F_X9_againChoice
  simp (disch := omega) only [e8, eh, lp, iI_lit, kI_add, kI_mul, kI_eq, kI_lt, kI_le, kI_neg1, neg1_kI, neg1_lt0, neg1_0le, kO_none, kO_some, nm_eq, bnd_some, rz_0, rz_1, zb_0, zb_1, rd_kI, wrI_kI, wrL_kI, dvI_kI, rmI_kI, if_true, if_false, ite_true, ite_false, reduceIte, Nat.lt_irrefl, Nat.le_refl, not_true, not_false_iff, true_and, and_true, false_and, and_false, and_self, Bool.false_eq_true, eq_self, Decidable.not_not]
theorem cu_end {P : Pa} {lot : Nat → Nat} {e : Ev} (hw : WfE (pN P) P lot e) (h : eP e = pN P) : cu P lot e = none := by
  unfold cu
  cases q : eR e with
  | none =>
    show (if eP e < pN P then _ else none) = none
    rw [if_neg (by omega)]
  | some r => have := (hw.2.2.2.2.2.2.1 r q).1; omega
theorem changeAt_eq {μ : Mm} {P : Pa} {x w k0 : Nat} {lot : Nat → Nat} {e : Ev} (hP : PR μ P) (h : RR μ x P lot e) (hl : LotOk (pN P) P lot) (hw : WfE (pN P) P lot e) (h1 : 0 < eP e) (h2 : eP e = pN P) (hk0 : eH e (lot 0) = some k0) (hk : k0 < pN P) (hww : w < pN P) : Wp (F_X9_changeAt (kI x) (kI w) μ) fun _ μ' => RR μ' x P lot (xcE (lot 0) k0 w (own0 e w) (setA e)) ∧ FrC (CX9 x) μ μ' := by
  have hn := hP.n7
  have hp : lot 0 < pN P := hl.2.2 0 (by omega)
  have eh := hasIn_eq (x := x) hP h hw (p := lot 0) (by omega)
  rw [hk0, cI_some] at eh
  obtain ⟨o1, o2⟩ := own_of hw (show w < eP e by omega)
  have hcu := cu_end hw h2
  obtain ⟨hx, g1, g2, h3, h4, h5, h6, h7, h8⟩ := h
  have e1 := g1 w hww
  rw [o1, kO_some] at e1
  have e2 := g2 w hww
  have e8 := h8 0 (by omega)
  have c118 : CX9 x 118 (7 * x + k0) := by unfold CX9; omega
  have c118' : CX9 x 118 (7 * x + w) := by unfold CX9; omega
  have c119 : CX9 x 119 (7 * x + w) := by unfold CX9; omega
  have c124 : CX9 x 124 x := by unfold CX9; omega
  refine ⟨(), pI (pI (pI (pI μ 118 (7 * x + k0) (kI (own0 e w))) 118 (7 * x + w) (kI (lot 0))) 119 (7 * x + w) (kI (eT e w + 1))) 124 x (gI μ 124 x + kI 1), ?_, ⟨hx, fun j hj => ?_, fun j hj => ?_, ?_, ?_, fun z5 => ?_, fun z6 => ?_, fun z => ?_, fun j hj => ?_⟩, (((FrC.refl.put c118).put c118').put c119).put c124⟩
  · unfold F_X9_changeAt
    simp (disch := omega) only [e8, eh, e1, e2, gI_pI, show ¬ (119 : Nat) = 118 by omega, show ¬ (124 : Nat) = 118 by omega, show ¬ (124 : Nat) = 119 by omega, iI_lit, kI_add, kI_mul, kI_eq, kI_lt, kI_le, kI_neg1, neg1_kI, neg1_lt0, neg1_0le, kO_none, kO_some, nm_eq, bnd_some, rz_0, rz_1, zb_0, zb_1, rd_kI, wrI_kI, wrL_kI, dvI_kI, rmI_kI, if_true, if_false, ite_true, ite_false, reduceIte, Nat.lt_irrefl, Nat.le_refl, not_true, not_false_iff, true_and, and_true, false_and, and_false, and_self, Bool.false_eq_true, eq_self, Decidable.not_not]
  · show _ = kO (up (up (eO e) k0 (some (own0 e w))) w (some (lot 0)) j)
    by_cases z : j = w
    · simp [gI_pI, z, up_at, kO_some]
    · by_cases y : j = k0
      · have zq : k0 ≠ w := fun v => z (y.trans v)
        rw [y, up_ne zq, up_at, kO_some]
        simp [gI_pI, zq]
      · rw [up_ne z, up_ne y]
        simp [gI_pI, z, y, g1 j hj]
  · show _ = kI (up (eT e) w (eT e w + 1) j)
    by_cases z : j = w
    · simp [gI_pI, z, up_at]
    · simp [gI_pI, z, up_ne z, g2 j hj]
  · show _ = kI (wr (pN P) (eP e))
    simp [gI_pI, h3]
  · show _ = kO (cu P lot e)
    simp [gI_pI, h4]
  · show _ = kI (eP e + 1)
    simp [gI_pI, h5 z5]
  · show _ = kO (eJ e)
    simp [gI_pI, h6 z6]
  · show _ = eN e + kI 1
    simp [gI_pI, h7 z]
  · simp [gI_pI, h8 j hj]
theorem RR.set {μ : Mm} {x : Nat} {P : Pa} {lot : Nat → Nat} {e : Ev} (h : RR μ x P lot e) : RR μ x P lot (setA e) := h
theorem goEv_loop {P : Pa} {lot : Nat → Nat} (hl : LotOk (pN P) P lot) : ∀ g e f (μ : Mm), left P e ≤ g → g < f → PR μ P → RR μ 1 P lot e → WfE (pN P) P lot e → Wp (F_X9_goEvening_5 f μ) fun _ μ' => RR μ' 1 P lot (clE P lot (plE P lot (pN P) g e).1) ∧ FrC (CX9 1) μ μ' := by
  intro g
  have last : ∀ e f (μ : Mm), eP e = pN P → PR μ P → RR μ 1 P lot e → WfE (pN P) P lot e → Wp (F_X9_goEvening_5 (f + 1) μ) fun _ μ' => RR μ' 1 P lot (clE P lot e) ∧ FrC (CX9 1) μ μ' := by
    intro e f μ he hP h hw
    have hn := hP.n7
    have en := hP.n
    have ea := hP.a
    have hA := hP.ok.2.2.2.2.2.2
    have e4 := h.2.2.2.2.1
    rw [cu_end hw he, kO_none] at e4
    rw [F_X9_goEvening_5]
    by_cases a1 : pA P = 1
    · by_cases n0 : pN P = 0
      · have ec : clE P lot e = e := if_neg (fun q => by omega)
        rw [ec]
        refine ⟨(), _, ?_, h, FrC.refl⟩
        simp (disch := omega) only [e4, ea, en, n0, iI_lit, kI_add, kI_mul, kI_eq, kI_lt, kI_le, kI_neg1, neg1_kI, neg1_lt0, neg1_0le, kO_none, kO_some, nm_eq, bnd_some, rz_0, rz_1, zb_0, zb_1, rd_kI, wrI_kI, wrL_kI, dvI_kI, rmI_kI, if_true, if_false, ite_true, ite_false, reduceIte, Nat.lt_irrefl, Nat.le_refl, not_true, not_false_iff, true_and, and_true, false_and, and_false, and_self, Bool.false_eq_true, eq_self, Decidable.not_not]
        simp only [ite_self]
      · have ec : clE P lot e = agE P lot e := if_pos ⟨a1, by omega, by omega⟩
        rw [ec]
        obtain ⟨k0, k1, k2, k3, k4⟩ := againChoice_eq hP h hl hw (by omega) he
        unfold agE
        cases hc : agC P lot e with
        | none =>
          rw [hc, kO_none] at k4
          refine ⟨(), _, ?_, h.set, FrC.refl⟩
          simp (disch := omega) only [e4, ea, en, a1, n0, k4, Nat.one_ne_zero, iI_lit, kI_add, kI_mul, kI_eq, kI_lt, kI_le, kI_neg1, neg1_kI, neg1_lt0, neg1_0le, kO_none, kO_some, nm_eq, bnd_some, rz_0, rz_1, zb_0, zb_1, rd_kI, wrI_kI, wrL_kI, dvI_kI, rmI_kI, if_true, if_false, ite_true, ite_false, reduceIte, Nat.lt_irrefl, Nat.le_refl, not_true, not_false_iff, true_and, and_true, false_and, and_false, and_self, Bool.false_eq_true, eq_self, Decidable.not_not]
        | some w =>
          have hwb : w < pN P := by
            unfold agC at hc
            rcases pick_in _ _ _ _ _ hc with z | z
            · cases z
            · omega
          rw [hc, kO_some] at k4
          obtain ⟨_, μ', c1, c2, c3⟩ := changeAt_eq (w := w) hP h hl hw (by omega) he k1 k2 hwb
          refine ⟨(), μ', ?_, ?_, c3⟩
          · simp (disch := omega) only [e4, ea, en, a1, n0, k4, c1, Nat.not_lt_zero, Nat.one_ne_zero, iI_lit, kI_add, kI_mul, kI_eq, kI_lt, kI_le, kI_neg1, neg1_kI, neg1_lt0, neg1_0le, kO_none, kO_some, nm_eq, bnd_some, rz_0, rz_1, zb_0, zb_1, rd_kI, wrI_kI, wrL_kI, dvI_kI, rmI_kI, if_true, if_false, ite_true, ite_false, reduceIte, Nat.lt_irrefl, Nat.le_refl, not_true, not_false_iff, true_and, and_true, false_and, and_false, and_self, Bool.false_eq_true, eq_self, Decidable.not_not]
          · rw [k1]
            exact c2
    · have ec : clE P lot e = e := if_neg (fun q => a1 q.1)
      rw [ec]
      refine ⟨(), _, ?_, h, FrC.refl⟩
      simp (disch := omega) only [e4, ea, show pA P = 0 by omega, iI_lit, kI_add, kI_mul, kI_eq, kI_lt, kI_le, kI_neg1, neg1_kI, neg1_lt0, neg1_0le, kO_none, kO_some, nm_eq, bnd_some, rz_0, rz_1, zb_0, zb_1, rd_kI, wrI_kI, wrL_kI, dvI_kI, rmI_kI, if_true, if_false, ite_true, ite_false, reduceIte, Nat.lt_irrefl, Nat.le_refl, not_true, not_false_iff, true_and, and_true, false_and, and_false, and_self, Bool.false_eq_true, eq_self, Decidable.not_not]
  induction g with
  | zero =>
    intro e f μ hg hf hP h hw
    obtain ⟨f, rfl⟩ : ∃ g, f = g + 1 := ⟨f - 1, by omega⟩
    have he : eP e = pN P := by
      have h1 := hw.2.1
      have h2 : (pN P - eP e) * (1 + pM P) = 0 := by unfold left at hg; omega
      rcases Nat.mul_eq_zero.mp h2 with h3 | h3 <;> omega
    exact last e f μ he hP h hw
  | succ g ih =>
    intro e f μ hg hf hP h hw
    obtain ⟨f, rfl⟩ : ∃ g, f = g + 1 := ⟨f - 1, by omega⟩
    by_cases hm : pN P ≤ eP e
    · have he : eP e = pN P := by have := hw.2.1; omega
      have ep : plE P lot (pN P) (g + 1) e = (e, 0) := by unfold plE; rw [if_pos hm]
      rw [ep]
      exact last e f μ he hP h hw
    · have ho : eP e < pN P := by omega
      have hn := hP.n7
      obtain ⟨p, hp⟩ := cu_some hl ho
      have hp7 := (cu_free hP.ok hl hw ho hp).1
      obtain ⟨r, μ2, t1, t2, t3, t4⟩ := goTurn_eq hP h hl hw ho hp
      have hls := left_st (p := p) (Nat.le_refl _) hw ho
      obtain ⟨r3, μ3, i1, i2, i3⟩ := ih (stE P e p) f μ2 (by omega) (by omega) (hP.cx t4) t3 (wf_st hP.ok hl hw ho hp)
      have ep : plE P lot (pN P) (g + 1) e = ((plE P lot (pN P) g (stE P e p)).1, (plE P lot (pN P) g (stE P e p)).2 + 1) := by
        rw [plE, if_neg hm, hp]
      rw [ep]
      have e4 := h.2.2.2.2.1
      rw [hp, kO_some] at e4
      refine ⟨r3, μ3, ?_, i2, t4.trans i3⟩
      rw [F_X9_goEvening_5]
      simp (disch := omega) only [e4, t1, i1, Nat.not_lt_zero, iI_lit, kI_add, kI_mul, kI_eq, kI_lt, kI_le, kI_neg1, neg1_kI, neg1_lt0, neg1_0le, kO_none, kO_some, nm_eq, bnd_some, rz_0, rz_1, zb_0, zb_1, rd_kI, wrI_kI, wrL_kI, dvI_kI, rmI_kI, if_true, if_false, ite_true, ite_false, reduceIte, Nat.lt_irrefl, Nat.le_refl, not_true, not_false_iff, true_and, and_true, false_and, and_false, and_self, Bool.false_eq_true, eq_self, Decidable.not_not]
theorem goEvening_eq {μ : Mm} {P : Pa} {lot : Nat → Nat} (hP : PR μ P) (hlt : ∀ j, j < pN P → gI μ 117 j = kI (lot j)) (hl : LotOk (pN P) P lot) (w g : Int32) : Wp (F_X9_goEvening μ) fun _ μ' => RR μ' 1 P lot (evE P lot w g) ∧ FrC (CX9 1) μ μ' := by
  obtain ⟨_, m2, b1, b2, b3⟩ := beginAt_eq (x := 1) (by omega) hP hlt w g
  unfold F_X9_goEvening
  simp only [iI_lit]
  rw [b1, bnd_some]
  have hw : WfE (pN P) P lot (wrE w g (kI 0)) := wf_wr
  obtain ⟨_, μ', c1, c2, c3⟩ := goEv_loop hl 28 (wrE w g (kI 0)) FU m2 (left_le hP.ok (Nat.zero_le _)) (by unfold FU; omega) (hP.cx b3) b2 hw
  exact ⟨_, μ', c1, c2, b3.trans c3⟩
