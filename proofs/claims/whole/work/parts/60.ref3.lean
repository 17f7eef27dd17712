/-! THE REFERENCE'S CHOICE AND TURN -/
theorem neg_kI (k : Nat) : -kI k = iI (-((k : Nat) : Int)) := by
  unfold kI iI
  rw [Int32.ofInt_neg]
theorem choice0 {μ : Mm} {P : Pa} {x p : Nat} {lot : Nat → Nat} {e : Ev} (hP : PR μ P) (h : RR μ x P lot e) (hl : LotOk (pN P) P lot) (hw : WfE (pN P) P lot e) (hp : p < pN P) (ho : eP e < pN P) (hc : cu P lot e = some p) (y2 : ¬ pY P p = 2) (y1 : ¬ pY P p = 1) : ∀ c i g b f, i + c = pN P → c < f → F_X9_choice_56 f (kI x) (kI p) (kO b) g (kI i) μ = some (kO (pk (mayB P e) (fun k => kI (pW P p k)) (eP e - i) i g b), μ) := by
  have hn := hP.n7
  have en := hP.n
  have ey := hP.y (p := p) (by omega)
  have hy := hP.ok.2.2.2.1 p
  intro c
  induction c with
  | zero =>
    intro i g b f hi hf
    obtain ⟨f, rfl⟩ : ∃ g, f = g + 1 := ⟨f - 1, by omega⟩
    have : eP e - i = 0 := by omega
    rw [this]
    unfold F_X9_choice_56 pk
    simp (disch := omega) only [en, show pN P ≤ i by omega, iI_lit, kI_add, kI_mul, kI_eq, kI_lt, kI_le, kI_neg1, neg1_kI, neg1_lt0, neg1_0le, kO_none, kO_some, nm_eq, bnd_some, rz_0, rz_1, zb_0, zb_1, rd_kI, wrI_kI, wrL_kI, dvI_kI, rmI_kI, if_true, if_false, ite_true, ite_false, reduceIte, Nat.lt_irrefl, Nat.le_refl, not_true, not_false_iff, true_and, and_true, false_and, and_false, and_self, Bool.false_eq_true, eq_self, Decidable.not_not]
  | succ c ih =>
    intro i g b f hi hf
    obtain ⟨f, rfl⟩ : ∃ g, f = g + 1 := ⟨f - 1, by omega⟩
    have em := mayTake_eq (x := x) (k := i) hP h hl hw ho hc (by omega)
    have ew := hP.w (p := p) (k := i) (by omega) (by omega)
    unfold F_X9_choice_56 F_X9_choice_109 F_X9_choice_178 F_X9_choice_197
    by_cases hm : mayB P e i = true
    · have hio := (mayB_iff.mp hm).1
      rw [show eP e - i = (eP e - (i + 1)) + 1 by omega]
      unfold pk
      by_cases hg : g < kI (pW P p i)
      · have := ih (i + 1) (kI (pW P p i)) (some i) f (by omega) (by omega)
        rw [kO_some] at this
        simp (disch := omega) only [en, em, ey, ew, hm, hg, y1, y2, show ¬ pN P ≤ i by omega, this, Nat.one_ne_zero, iI_lit, kI_add, kI_mul, kI_eq, kI_lt, kI_le, kI_neg1, neg1_kI, neg1_lt0, neg1_0le, kO_none, kO_some, nm_eq, bnd_some, rz_0, rz_1, zb_0, zb_1, rd_kI, wrI_kI, wrL_kI, dvI_kI, rmI_kI, if_true, if_false, ite_true, ite_false, reduceIte, Nat.lt_irrefl, Nat.le_refl, not_true, not_false_iff, true_and, and_true, false_and, and_false, and_self, Bool.false_eq_true, eq_self, Decidable.not_not]
      · have := ih (i + 1) g b f (by omega) (by omega)
        simp (disch := omega) only [en, em, ey, ew, hm, hg, y1, y2, show ¬ pN P ≤ i by omega, this, Nat.one_ne_zero, iI_lit, kI_add, kI_mul, kI_eq, kI_lt, kI_le, kI_neg1, neg1_kI, neg1_lt0, neg1_0le, kO_none, kO_some, nm_eq, bnd_some, rz_0, rz_1, zb_0, zb_1, rd_kI, wrI_kI, wrL_kI, dvI_kI, rmI_kI, if_true, if_false, ite_true, ite_false, reduceIte, Nat.lt_irrefl, Nat.le_refl, not_true, not_false_iff, true_and, and_true, false_and, and_false, and_self, Bool.false_eq_true, eq_self, Decidable.not_not]
    · have := ih (i + 1) g b f (by omega) (by omega)
      have ep : pk (mayB P e) (fun k => kI (pW P p k)) (eP e - i) i g b = pk (mayB P e) (fun k => kI (pW P p k)) (eP e - (i + 1)) (i + 1) g b := by
        by_cases z : i < eP e
        · rw [show eP e - i = (eP e - (i + 1)) + 1 by omega, pk, if_neg (fun q => hm q.1)]
        · rw [show eP e - i = 0 by omega, show eP e - (i + 1) = 0 by omega]; rfl
      rw [ep]
      simp (disch := omega) only [en, em, hm, show ¬ pN P ≤ i by omega, this, iI_lit, kI_add, kI_mul, kI_eq, kI_lt, kI_le, kI_neg1, neg1_kI, neg1_lt0, neg1_0le, kO_none, kO_some, nm_eq, bnd_some, rz_0, rz_1, zb_0, zb_1, rd_kI, wrI_kI, wrL_kI, dvI_kI, rmI_kI, if_true, if_false, ite_true, ite_false, reduceIte, Nat.lt_irrefl, Nat.le_refl, not_true, not_false_iff, true_and, and_true, false_and, and_false, and_self, Bool.false_eq_true, eq_self, Decidable.not_not]
theorem choice1 {μ : Mm} {P : Pa} {x p : Nat} {lot : Nat → Nat} {e : Ev} (hP : PR μ P) (h : RR μ x P lot e) (hl : LotOk (pN P) P lot) (hw : WfE (pN P) P lot e) (hp : p < pN P) (ho : eP e < pN P) (hc : cu P lot e = some p) (y1 : pY P p = 1) : ∀ c i g b f, i + c = pN P → c < f → F_X9_choice_56 f (kI x) (kI p) (kO b) g (kI i) μ = some (kO (pk (c1 P e p) (s1 P e p) (eP e - i) i g b), μ) := by
  have hn := hP.n7
  have en := hP.n
  have ey := hP.y (p := p) (by omega)
  have eg := guessOf_eq hP h hp ho
  have hgu := gu_le hP.ok (e := e) (p := p)
  have hx := h.1
  intro c
  induction c with
  | zero =>
    intro i g b f hi hf
    obtain ⟨f, rfl⟩ : ∃ g, f = g + 1 := ⟨f - 1, by omega⟩
    have : eP e - i = 0 := by omega
    rw [this]
    unfold F_X9_choice_56 pk
    simp (disch := omega) only [en, show pN P ≤ i by omega, iI_lit, kI_add, kI_mul, kI_eq, kI_lt, kI_le, kI_neg1, neg1_kI, neg1_lt0, neg1_0le, kO_none, kO_some, nm_eq, bnd_some, rz_0, rz_1, zb_0, zb_1, rd_kI, wrI_kI, wrL_kI, dvI_kI, rmI_kI, if_true, if_false, ite_true, ite_false, reduceIte, Nat.lt_irrefl, Nat.le_refl, not_true, not_false_iff, true_and, and_true, false_and, and_false, and_self, Bool.false_eq_true, eq_self, Decidable.not_not]
  | succ c ih =>
    intro i g b f hi hf
    obtain ⟨f, rfl⟩ : ∃ g, f = g + 1 := ⟨f - 1, by omega⟩
    have em := mayTake_eq (x := x) (k := i) hP h hl hw ho hc (by omega)
    have ew := hP.w (p := p) (k := i) (by omega) (by omega)
    have hw9 := hP.ok.2.1 p i
    have rest := ih (i + 1) g b f (by omega) (by omega)
    have skip : ¬ c1 P e p i = true → pk (c1 P e p) (s1 P e p) (eP e - i) i g b = pk (c1 P e p) (s1 P e p) (eP e - (i + 1)) (i + 1) g b := fun hm => by
        by_cases z : i < eP e
        · rw [show eP e - i = (eP e - (i + 1)) + 1 by omega, pk, if_neg (fun q => hm q.1)]
        · rw [show eP e - i = 0 by omega, show eP e - (i + 1) = 0 by omega]; rfl
    by_cases hm : mayB P e i = true
    · have hio := (mayB_iff.mp hm).1
      obtain ⟨o1, o2⟩ := own_of hw hio
      have e1 := h.2.1 i (by omega)
      rw [o1, kO_some] at e1
      have ek := hP.k (p := p) (k := own0 e i) (by omega) (by omega)
      by_cases hgw : gu P e p < pW P p i
      · have hc1 : c1 P e p i = true := by simp [c1, hm, hgw]
        rw [show eP e - i = (eP e - (i + 1)) + 1 by omega]
        unfold F_X9_choice_56 F_X9_choice_109 F_X9_choice_178 F_X9_choice_197 pk
        have es : s1 P e p i = iI (-((pK P p (own0 e i) : Nat) : Int)) := rfl
        rw [es]
        by_cases hg : g < iI (-((pK P p (own0 e i) : Nat) : Int))
        · have := ih (i + 1) (iI (-((pK P p (own0 e i) : Nat) : Int))) (some i) f (by omega) (by omega)
          rw [kO_some] at this
          simp (disch := omega) only [en, em, ey, ew, eg, ek, e1, hm, hc1, hg, hgw, y1, neg_kI, show ¬ pN P ≤ i by omega, show ¬ 1 = 2 by omega, this, Nat.one_ne_zero, iI_lit, kI_add, kI_mul, kI_eq, kI_lt, kI_le, kI_neg1, neg1_kI, neg1_lt0, neg1_0le, kO_none, kO_some, nm_eq, bnd_some, rz_0, rz_1, zb_0, zb_1, rd_kI, wrI_kI, wrL_kI, dvI_kI, rmI_kI, if_true, if_false, ite_true, ite_false, reduceIte, Nat.lt_irrefl, Nat.le_refl, not_true, not_false_iff, true_and, and_true, false_and, and_false, and_self, Bool.false_eq_true, eq_self, Decidable.not_not]
        · simp (disch := omega) only [en, em, ey, ew, eg, ek, e1, hm, hc1, hg, hgw, y1, neg_kI, show ¬ pN P ≤ i by omega, show ¬ 1 = 2 by omega, rest, Nat.one_ne_zero, iI_lit, kI_add, kI_mul, kI_eq, kI_lt, kI_le, kI_neg1, neg1_kI, neg1_lt0, neg1_0le, kO_none, kO_some, nm_eq, bnd_some, rz_0, rz_1, zb_0, zb_1, rd_kI, wrI_kI, wrL_kI, dvI_kI, rmI_kI, if_true, if_false, ite_true, ite_false, reduceIte, Nat.lt_irrefl, Nat.le_refl, not_true, not_false_iff, true_and, and_true, false_and, and_false, and_self, Bool.false_eq_true, eq_self, Decidable.not_not]
      · rw [skip (by simp [c1, hgw])]
        unfold F_X9_choice_56 F_X9_choice_197
        simp (disch := omega) only [en, em, ey, ew, eg, hm, hgw, y1, show ¬ pN P ≤ i by omega, rest, Nat.one_ne_zero, iI_lit, kI_add, kI_mul, kI_eq, kI_lt, kI_le, kI_neg1, neg1_kI, neg1_lt0, neg1_0le, kO_none, kO_some, nm_eq, bnd_some, rz_0, rz_1, zb_0, zb_1, rd_kI, wrI_kI, wrL_kI, dvI_kI, rmI_kI, if_true, if_false, ite_true, ite_false, reduceIte, Nat.lt_irrefl, Nat.le_refl, not_true, not_false_iff, true_and, and_true, false_and, and_false, and_self, Bool.false_eq_true, eq_self, Decidable.not_not]
    · rw [skip (by simp [c1, hm])]
      unfold F_X9_choice_56 F_X9_choice_197
      simp (disch := omega) only [en, em, hm, show ¬ pN P ≤ i by omega, rest, iI_lit, kI_add, kI_mul, kI_eq, kI_lt, kI_le, kI_neg1, neg1_kI, neg1_lt0, neg1_0le, kO_none, kO_some, nm_eq, bnd_some, rz_0, rz_1, zb_0, zb_1, rd_kI, wrI_kI, wrL_kI, dvI_kI, rmI_kI, if_true, if_false, ite_true, ite_false, reduceIte, Nat.lt_irrefl, Nat.le_refl, not_true, not_false_iff, true_and, and_true, false_and, and_false, and_self, Bool.false_eq_true, eq_self, Decidable.not_not]
theorem choice2 {P : Pa} {x p : Nat} {lot : Nat → Nat} {e : Ev} (hl : LotOk (pN P) P lot) (hw : WfE (pN P) P lot e) (hp : p < pN P) (ho : eP e < pN P) (hc : cu P lot e = some p) (y2 : pY P p = 2) : ∀ c i g b f (μ : Mm), PR μ P → RR μ x P lot e → i + c = pN P → c < f → ∃ μ', F_X9_choice_56 f (kI x) (kI p) (kO b) g (kI i) μ = some (kO (pk (mayB P e) (nmb P e p) (eP e - i) i g b), μ') ∧ Fr SQ μ μ' := by
  intro c
  induction c with
  | zero =>
    intro i g b f μ hP h hi hf
    have hn := hP.n7
    have en := hP.n
    obtain ⟨f, rfl⟩ : ∃ g, f = g + 1 := ⟨f - 1, by omega⟩
    have : eP e - i = 0 := by omega
    rw [this]
    refine ⟨μ, ?_, Fr.refl⟩
    unfold F_X9_choice_56 pk
    simp (disch := omega) only [en, show pN P ≤ i by omega, iI_lit, kI_add, kI_mul, kI_eq, kI_lt, kI_le, kI_neg1, neg1_kI, neg1_lt0, neg1_0le, kO_none, kO_some, nm_eq, bnd_some, rz_0, rz_1, zb_0, zb_1, rd_kI, wrI_kI, wrL_kI, dvI_kI, rmI_kI, if_true, if_false, ite_true, ite_false, reduceIte, Nat.lt_irrefl, Nat.le_refl, not_true, not_false_iff, true_and, and_true, false_and, and_false, and_self, Bool.false_eq_true, eq_self, Decidable.not_not]
  | succ c ih =>
    intro i g b f μ hP h hi hf
    have hn := hP.n7
    have en := hP.n
    have ey := hP.y (p := p) (by omega)
    obtain ⟨f, rfl⟩ : ∃ g, f = g + 1 := ⟨f - 1, by omega⟩
    have em := mayTake_eq (x := x) (k := i) hP h hl hw ho hc (by omega)
    by_cases hm : mayB P e i = true
    · have hio := (mayB_iff.mp hm).1
      obtain ⟨μ2, n1, n2⟩ := lawsNumber_at (k := i) hP h hw hp hio
      rw [show eP e - i = (eP e - (i + 1)) + 1 by omega]
      unfold pk
      by_cases hg : g < nmb P e p i
      · obtain ⟨μ3, k1, k2⟩ := ih (i + 1) (nmb P e p i) (some i) f μ2 (hP.sq n2) (h.sq hn n2) (by omega) (by omega)
        refine ⟨μ3, ?_, n2.trans k2⟩
        rw [kO_some] at k1
        unfold F_X9_choice_56 F_X9_choice_109 F_X9_choice_178 F_X9_choice_197
        simp (disch := omega) only [en, em, ey, hm, hg, y2, n1, k1, show ¬ pN P ≤ i by omega, show ¬ 2 = 1 by omega, Nat.one_ne_zero, iI_lit, kI_add, kI_mul, kI_eq, kI_lt, kI_le, kI_neg1, neg1_kI, neg1_lt0, neg1_0le, kO_none, kO_some, nm_eq, bnd_some, rz_0, rz_1, zb_0, zb_1, rd_kI, wrI_kI, wrL_kI, dvI_kI, rmI_kI, if_true, if_false, ite_true, ite_false, reduceIte, Nat.lt_irrefl, Nat.le_refl, not_true, not_false_iff, true_and, and_true, false_and, and_false, and_self, Bool.false_eq_true, eq_self, Decidable.not_not]
      · obtain ⟨μ3, k1, k2⟩ := ih (i + 1) g b f μ2 (hP.sq n2) (h.sq hn n2) (by omega) (by omega)
        refine ⟨μ3, ?_, n2.trans k2⟩
        unfold F_X9_choice_56 F_X9_choice_109 F_X9_choice_178 F_X9_choice_197
        simp (disch := omega) only [en, em, ey, hm, hg, y2, n1, k1, show ¬ pN P ≤ i by omega, show ¬ 2 = 1 by omega, Nat.one_ne_zero, iI_lit, kI_add, kI_mul, kI_eq, kI_lt, kI_le, kI_neg1, neg1_kI, neg1_lt0, neg1_0le, kO_none, kO_some, nm_eq, bnd_some, rz_0, rz_1, zb_0, zb_1, rd_kI, wrI_kI, wrL_kI, dvI_kI, rmI_kI, if_true, if_false, ite_true, ite_false, reduceIte, Nat.lt_irrefl, Nat.le_refl, not_true, not_false_iff, true_and, and_true, false_and, and_false, and_self, Bool.false_eq_true, eq_self, Decidable.not_not]
    · obtain ⟨μ3, k1, k2⟩ := ih (i + 1) g b f μ hP h (by omega) (by omega)
      have ep : pk (mayB P e) (nmb P e p) (eP e - i) i g b = pk (mayB P e) (nmb P e p) (eP e - (i + 1)) (i + 1) g b := by
        by_cases z : i < eP e
        · rw [show eP e - i = (eP e - (i + 1)) + 1 by omega, pk, if_neg (fun q => hm q.1)]
        · rw [show eP e - i = 0 by omega, show eP e - (i + 1) = 0 by omega]; rfl
      rw [ep]
      refine ⟨μ3, ?_, k2⟩
      unfold F_X9_choice_56 F_X9_choice_197
      simp (disch := omega) only [en, em, hm, show ¬ pN P ≤ i by omega, k1, iI_lit, kI_add, kI_mul, kI_eq, kI_lt, kI_le, kI_neg1, neg1_kI, neg1_lt0, neg1_0le, kO_none, kO_some, nm_eq, bnd_some, rz_0, rz_1, zb_0, zb_1, rd_kI, wrI_kI, wrL_kI, dvI_kI, rmI_kI, if_true, if_false, ite_true, ite_false, reduceIte, Nat.lt_irrefl, Nat.le_refl, not_true, not_false_iff, true_and, and_true, false_and, and_false, and_self, Bool.false_eq_true, eq_self, Decidable.not_not]
theorem choice_eq {μ : Mm} {P : Pa} {x p : Nat} {lot : Nat → Nat} {e : Ev} (hP : PR μ P) (h : RR μ x P lot e) (hl : LotOk (pN P) P lot) (hw : WfE (pN P) P lot e) (ho : eP e < pN P) (hc : cu P lot e = some p) : ∃ μ', F_X9_choice (kI x) μ = some (kO (ch P e p), μ') ∧ Fr SQ μ μ' := by
  have hn := hP.n7
  have hp := (cu_free hP.ok hl hw ho hc).1
  have ey := hP.y (p := p) (by omega)
  have hx := h.1
  have e4 := h.2.2.2.2.1
  rw [hc, kO_some] at e4
  have hy := hP.ok.2.2.2.1 p
  have hf : pN P < FU := by unfold FU; omega
  unfold F_X9_choice F_X9_choice_51
  by_cases y2 : pY P p = 2
  · have ec : ch P e p = pk (mayB P e) (nmb P e p) (eP e) 0 (nmb0 P e p) none := if_pos y2
    obtain ⟨μ2, n1, n2⟩ := lawsNumber_0 hP h hw hp ho
    obtain ⟨μ3, k1, k2⟩ := choice2 hl hw hp ho hc y2 (pN P) 0 (nmb0 P e p) none FU μ2 (hP.sq n2) (h.sq hn n2) (by omega) hf
    rw [kO_none, Nat.sub_zero] at k1
    refine ⟨μ3, ?_, n2.trans k2⟩
    rw [ec]
    simp (disch := omega) only [e4, ey, y2, n1, k1, iI_lit, kI_add, kI_mul, kI_eq, kI_lt, kI_le, kI_neg1, neg1_kI, neg1_lt0, neg1_0le, kO_none, kO_some, nm_eq, bnd_some, rz_0, rz_1, zb_0, zb_1, rd_kI, wrI_kI, wrL_kI, dvI_kI, rmI_kI, if_true, if_false, ite_true, ite_false, reduceIte, Nat.lt_irrefl, Nat.le_refl, not_true, not_false_iff, true_and, and_true, false_and, and_false, and_self, Bool.false_eq_true, eq_self, Decidable.not_not]
  · by_cases y1 : pY P p = 1
    · have ec : ch P e p = pk (c1 P e p) (s1 P e p) (eP e) 0 (iI (-1000)) none := by unfold ch; rw [if_neg y2, if_pos y1]
      have k1 := choice1 (x := x) hP h hl hw hp ho hc y1 (pN P) 0 (iI (-1000)) none FU (by omega) hf
      rw [kO_none, Nat.sub_zero] at k1
      refine ⟨μ, ?_, Fr.refl⟩
      rw [ec]
      simp (disch := omega) only [e4, ey, y1, k1, show ¬ 1 = 2 by omega, iI_lit, kI_add, kI_mul, kI_eq, kI_lt, kI_le, kI_neg1, neg1_kI, neg1_lt0, neg1_0le, kO_none, kO_some, nm_eq, bnd_some, rz_0, rz_1, zb_0, zb_1, rd_kI, wrI_kI, wrL_kI, dvI_kI, rmI_kI, if_true, if_false, ite_true, ite_false, reduceIte, Nat.lt_irrefl, Nat.le_refl, not_true, not_false_iff, true_and, and_true, false_and, and_false, and_self, Bool.false_eq_true, eq_self, Decidable.not_not]
    · have ec : ch P e p = pk (mayB P e) (fun k => kI (pW P p k)) (eP e) 0 (kI (gu P e p)) none := by unfold ch; rw [if_neg y2, if_neg y1]
      have eg := guessOf_eq hP h hp ho
      have k1 := choice0 (x := x) hP h hl hw hp ho hc y2 y1 (pN P) 0 (kI (gu P e p)) none FU (by omega) hf
      rw [kO_none, Nat.sub_zero] at k1
      refine ⟨μ, ?_, Fr.refl⟩
      rw [ec]
      simp (disch := omega) only [e4, ey, y1, y2, eg, k1, iI_lit, kI_add, kI_mul, kI_eq, kI_lt, kI_le, kI_neg1, neg1_kI, neg1_lt0, neg1_0le, kO_none, kO_some, nm_eq, bnd_some, rz_0, rz_1, zb_0, zb_1, rd_kI, wrI_kI, wrL_kI, dvI_kI, rmI_kI, if_true, if_false, ite_true, ite_false, reduceIte, Nat.lt_irrefl, Nat.le_refl, not_true, not_false_iff, true_and, and_true, false_and, and_false, and_self, Bool.false_eq_true, eq_self, Decidable.not_not]
theorem lowest_loop {μ : Mm} {P : Pa} {x : Nat} {lot : Nat → Nat} {e : Ev} (hP : PR μ P) (h : RR μ x P lot e) (ho : eP e < pN P) : ∀ c i f, i + c = eP e → c < f → F_X9_lowestWrapped_2 f (kI x) (kI i) μ = some (kI (eP e), μ) := by
  have hn := hP.n7
  have hx := h.1
  have e3 := h.2.2.2.1
  intro c
  induction c with
  | zero =>
    intro i f hi hf
    obtain ⟨f, rfl⟩ : ∃ g, f = g + 1 := ⟨f - 1, by omega⟩
    have e1 := bit_eq (μ := μ) hn (Nat.le_of_lt ho) (show i < 8 by omega)
    rw [if_pos (by omega)] at e1
    unfold F_X9_lowestWrapped_2
    simp (disch := omega) only [e3, e1, Nat.one_ne_zero, iI_lit, kI_add, kI_mul, kI_eq, kI_lt, kI_le, kI_neg1, neg1_kI, neg1_lt0, neg1_0le, kO_none, kO_some, nm_eq, bnd_some, rz_0, rz_1, zb_0, zb_1, rd_kI, wrI_kI, wrL_kI, dvI_kI, rmI_kI, if_true, if_false, ite_true, ite_false, reduceIte, Nat.lt_irrefl, Nat.le_refl, not_true, not_false_iff, true_and, and_true, false_and, and_false, and_self, Bool.false_eq_true, eq_self, Decidable.not_not]
    rw [show i = eP e by omega]
  | succ c ih =>
    intro i f hi hf
    obtain ⟨f, rfl⟩ : ∃ g, f = g + 1 := ⟨f - 1, by omega⟩
    have e1 := bit_eq (μ := μ) hn (Nat.le_of_lt ho) (show i < 8 by omega)
    rw [if_neg (by omega)] at e1
    have := ih (i + 1) f (by omega) (by omega)
    unfold F_X9_lowestWrapped_2
    simp (disch := omega) only [e3, e1, this, iI_lit, kI_add, kI_mul, kI_eq, kI_lt, kI_le, kI_neg1, neg1_kI, neg1_lt0, neg1_0le, kO_none, kO_some, nm_eq, bnd_some, rz_0, rz_1, zb_0, zb_1, rd_kI, wrI_kI, wrL_kI, dvI_kI, rmI_kI, if_true, if_false, ite_true, ite_false, reduceIte, Nat.lt_irrefl, Nat.le_refl, not_true, not_false_iff, true_and, and_true, false_and, and_false, and_self, Bool.false_eq_true, eq_self, Decidable.not_not]
theorem lowest_eq {μ : Mm} {P : Pa} {x : Nat} {lot : Nat → Nat} {e : Ev} (hP : PR μ P) (h : RR μ x P lot e) (ho : eP e < pN P) : F_X9_lowestWrapped (kI x) μ = some (kI (eP e), μ) := by
  have hn := hP.n7
  have := lowest_loop hP h ho (eP e) 0 FU (by omega) (by unfold FU; omega)
  unfold F_X9_lowestWrapped
  simp only [iI_lit]
  exact this
theorem opensAt_eq {μ : Mm} {P : Pa} {x p : Nat} {lot : Nat → Nat} {e : Ev} (hP : PR μ P) (h : RR μ x P lot e) (ho : eP e < pN P) (hc : cu P lot e = some p) : Wp (F_X9_opensAt (kI x) μ) fun r μ' => r = kI (eP e) ∧ RR μ' x P lot (opE p e) ∧ FrC (CX9 x) μ μ' := by
  have hn := hP.n7
  have el := lowest_eq hP h ho
  obtain ⟨hx, h1, h2, h3, h4, h5, h6, h7, h8⟩ := h
  have h5 := h5 (fun z => by omega)
  rw [hc, kO_some] at h4
  have ew := wr_clr (n := pN P) (o := eP e) hn ho
  have el0 := wr_le (n := pN P) (o := eP e + 1) hn (by omega)
  have e0 := wr_0 (n := pN P) (o := eP e + 1) hn (by omega)
  have fr : ∀ m v, gI m 121 x = v → FrC (CX9 x) μ m → True := fun _ _ _ _ => trivial
  have c118 : CX9 x 118 (7 * x + eP e) := by unfold CX9; omega
  have c120 : CX9 x 120 x := by unfold CX9; omega
  have c121 : CX9 x 121 x := by unfold CX9; omega
  have c122 : CX9 x 122 x := by unfold CX9; omega
  have c123 : CX9 x 123 x := by unfold CX9; omega
  have c124 : CX9 x 124 x := by unfold CX9; omega
  unfold F_X9_opensAt F_X9_opensAt_83
  -- the end, with who is next
  have fin : ∀ v, kO (cu P lot (opE p e)) = v → RR (pI (pI (pI (pI (pI (pI μ 120 x (kI (wr (pN P) (eP e + 1)))) 118 (7 * x + eP e) (kI p)) 124 x (gI μ 124 x + kI 1)) 123 x (iI (-1))) 121 x v) 122 x (kI (eP e + 1 + 1))) x P lot (opE p e) ∧ FrC (CX9 x) μ (pI (pI (pI (pI (pI (pI μ 120 x (kI (wr (pN P) (eP e + 1)))) 118 (7 * x + eP e) (kI p)) 124 x (gI μ 124 x + kI 1)) 123 x (iI (-1))) 121 x v) 122 x (kI (eP e + 1 + 1))) := by
    intro v hv
    refine ⟨⟨hx, fun k hk => ?_, fun k hk => ?_, ?_, ?_, fun _ => ?_, fun _ => ?_, fun z => ?_, fun j hj => ?_⟩, (((((FrC.refl.put c120).put c118).put c124).put c123).put c121).put c122⟩
    · show _ = kO (up (eO e) (eP e) (some p) k)
      by_cases z : k = eP e
      · simp [gI_pI, z, up_at, kO_some]
      · simp [gI_pI, z, up_ne z, h1 k hk]
    · show _ = kI (eT e k)
      simp [gI_pI, h2 k hk]
    · show _ = kI (wr (pN P) (eP e + 1))
      simp [gI_pI]
    · simp [gI_pI, hv]
    · show _ = kI (eP e + 1 + 1)
      simp [gI_pI]
    · show _ = kO none
      simp [gI_pI, kO_none]
    · show _ = eN e + kI 1
      simp [gI_pI, h7 z]
    · simp [gI_pI, h8 j hj]
  by_cases z : eP e + 1 = pN P
  · have hcu : cu P lot (opE p e) = none := by
      show (if eP e + 1 < pN P then _ else none) = none
      rw [if_neg (by omega)]
    obtain ⟨f1, f2⟩ := fin (iI (-1)) (by rw [hcu]; rfl)
    refine ⟨_, _, ?_, rfl, f1, f2⟩
    have w0 : wr (pN P) (eP e + 1) = 0 := e0.mpr z
    simp (disch := omega) only [el, h3, ew, w0, gI_pI, h4, h5, show ¬ (118 : Nat) = 120 by omega, show ¬ (121 : Nat) = 118 by omega, show ¬ (121 : Nat) = 120 by omega, show ¬ (122 : Nat) = 118 by omega, show ¬ (122 : Nat) = 120 by omega, show ¬ (122 : Nat) = 121 by omega, show ¬ (122 : Nat) = 123 by omega, show ¬ (122 : Nat) = 124 by omega, show ¬ (124 : Nat) = 118 by omega, show ¬ (124 : Nat) = 120 by omega, show ¬ (120 : Nat) = 118 by omega, show ¬ (120 : Nat) = 123 by omega, show ¬ (120 : Nat) = 124 by omega, iI_lit, kI_add, kI_mul, kI_eq, kI_lt, kI_le, kI_neg1, neg1_kI, neg1_lt0, neg1_0le, kO_none, kO_some, nm_eq, bnd_some, rz_0, rz_1, zb_0, zb_1, rd_kI, wrI_kI, wrL_kI, dvI_kI, rmI_kI, if_true, if_false, ite_true, ite_false, reduceIte, Nat.lt_irrefl, Nat.le_refl, not_true, not_false_iff, true_and, and_true, false_and, and_false, and_self, Bool.false_eq_true, eq_self, Decidable.not_not]
  · have hcu : cu P lot (opE p e) = some (lot (eP e + 1)) := by
      show (if eP e + 1 < pN P then some (lot (eP e + 1)) else none) = _
      rw [if_pos (by omega)]
    obtain ⟨f1, f2⟩ := fin (kI (lot (eP e + 1))) (by rw [hcu]; rfl)
    refine ⟨_, _, ?_, rfl, f1, f2⟩
    have w0 : ¬ wr (pN P) (eP e + 1) = 0 := fun q => z (e0.mp q)
    have e8 := h8 (eP e + 1) (by omega)
    simp (disch := omega) only [el, h3, ew, w0, gI_pI, h4, h5, e8, show ¬ (117 : Nat) = 118 by omega, show ¬ (117 : Nat) = 120 by omega, show ¬ (117 : Nat) = 123 by omega, show ¬ (117 : Nat) = 124 by omega, show ¬ (118 : Nat) = 120 by omega, show ¬ (121 : Nat) = 118 by omega, show ¬ (121 : Nat) = 120 by omega, show ¬ (122 : Nat) = 118 by omega, show ¬ (122 : Nat) = 120 by omega, show ¬ (122 : Nat) = 121 by omega, show ¬ (122 : Nat) = 123 by omega, show ¬ (122 : Nat) = 124 by omega, show ¬ (124 : Nat) = 118 by omega, show ¬ (124 : Nat) = 120 by omega, show ¬ (120 : Nat) = 118 by omega, show ¬ (120 : Nat) = 123 by omega, show ¬ (120 : Nat) = 124 by omega, iI_lit, kI_add, kI_mul, kI_eq, kI_lt, kI_le, kI_neg1, neg1_kI, neg1_lt0, neg1_0le, kO_none, kO_some, nm_eq, bnd_some, rz_0, rz_1, zb_0, zb_1, rd_kI, wrI_kI, wrL_kI, dvI_kI, rmI_kI, if_true, if_false, ite_true, ite_false, reduceIte, Nat.lt_irrefl, Nat.le_refl, not_true, not_false_iff, true_and, and_true, false_and, and_false, and_self, Bool.false_eq_true, eq_self, Decidable.not_not]
theorem takesAt_eq {μ : Mm} {P : Pa} {x p k q : Nat} {lot : Nat → Nat} {e : Ev} (hP : PR μ P) (h : RR μ x P lot e) (hk : k < pN P) (hq : eO e k = some q) (hc : cu P lot e = some p) : Wp (F_X9_takesAt (kI x) (kI k) μ) fun r μ' => r = kI q ∧ RR μ' x P lot (rbE p k q e) ∧ FrC (CX9 x) μ μ' := by
  have hn := hP.n7
  obtain ⟨hx, h1, h2, h3, h4, h5, h6, h7, h8⟩ := h
  rw [hc, kO_some] at h4
  have e1 := h1 k hk
  rw [hq, kO_some] at e1
  have e2 := h2 k hk
  have c118 : CX9 x 118 (7 * x + k) := by unfold CX9; omega
  have c119 : CX9 x 119 (7 * x + k) := by unfold CX9; omega
  have c121 : CX9 x 121 x := by unfold CX9; omega
  have c123 : CX9 x 123 x := by unfold CX9; omega
  have c124 : CX9 x 124 x := by unfold CX9; omega
  refine ⟨kI q, pI (pI (pI (pI (pI μ 118 (7 * x + k) (kI p)) 119 (7 * x + k) (kI (eT e k + 1))) 124 x (gI μ 124 x + kI 1)) 123 x (kI k)) 121 x (kI q), ?_, rfl, ⟨hx, fun j hj => ?_, fun j hj => ?_, ?_, ?_, fun z5 => ?_, fun _ => ?_, fun z => ?_, fun j hj => ?_⟩, ((((FrC.refl.put c118).put c119).put c124).put c123).put c121⟩
  · unfold F_X9_takesAt
    simp (disch := omega) only [e1, e2, h4, gI_pI, show ¬ (119 : Nat) = 118 by omega, show ¬ (124 : Nat) = 118 by omega, show ¬ (124 : Nat) = 119 by omega, iI_lit, kI_add, kI_mul, kI_eq, kI_lt, kI_le, kI_neg1, neg1_kI, neg1_lt0, neg1_0le, kO_none, kO_some, nm_eq, bnd_some, rz_0, rz_1, zb_0, zb_1, rd_kI, wrI_kI, wrL_kI, dvI_kI, rmI_kI, if_true, if_false, ite_true, ite_false, reduceIte, Nat.lt_irrefl, Nat.le_refl, not_true, not_false_iff, true_and, and_true, false_and, and_false, and_self, Bool.false_eq_true, eq_self, Decidable.not_not]
  · show _ = kO (up (eO e) k (some p) j)
    by_cases z : j = k
    · simp [gI_pI, z, up_at, kO_some]
    · simp [gI_pI, z, up_ne z, h1 j hj]
  · show _ = kI (up (eT e) k (eT e k + 1) j)
    by_cases z : j = k
    · simp [gI_pI, z, up_at]
    · simp [gI_pI, z, up_ne z, h2 j hj]
  · show _ = kI (wr (pN P) (eP e))
    simp [gI_pI, h3]
  · show _ = kO (some q)
    simp [gI_pI, kO_some]
  · show _ = kI (eP e + 1)
    simp [gI_pI, h5 z5]
  · show _ = kO (some k)
    simp [gI_pI, kO_some]
  · show _ = eN e + kI 1
    simp [gI_pI, h7 z]
  · simp [gI_pI, h8 j hj]
/-- what a turn's answer is: the parcel -/
def gotE (P : Pa) (e : Ev) (p : Nat) : Nat := match ch P e p with
  | none => eP e
  | some k => k
theorem goTurn_eq {μ : Mm} {P : Pa} {x p : Nat} {lot : Nat → Nat} {e : Ev} (hP : PR μ P) (h : RR μ x P lot e) (hl : LotOk (pN P) P lot) (hw : WfE (pN P) P lot e) (ho : eP e < pN P) (hc : cu P lot e = some p) : Wp (F_X9_goTurn (kI x) μ) fun r μ' => r = kI (gotE P e p) ∧ RR μ' x P lot (stE P e p) ∧ FrC (CX9 x) μ μ' := by
  have hn := hP.n7
  obtain ⟨μ2, n1, n2⟩ := choice_eq (x := x) hP h hl hw ho hc
  have hf2 : FrC (CX9 x) μ μ2 := n2.c.mono (fun a j q => by unfold SQ at q; unfold CX9; omega)
  have hP2 := hP.sq n2
  have h2 := h.sq hn n2
  unfold F_X9_goTurn stE gotE
  rw [n1, bnd_some]
  cases hk : ch P e p with
  | none =>
    obtain ⟨r, μ3, a1, a2, a3, a4⟩ := opensAt_eq hP2 h2 ho hc
    refine ⟨kI (eP e), μ3, ?_, rfl, a3, hf2.trans a4⟩
    subst a2
    simp (disch := omega) only [a1, iI_lit, kI_add, kI_mul, kI_eq, kI_lt, kI_le, kI_neg1, neg1_kI, neg1_lt0, neg1_0le, kO_none, kO_some, nm_eq, bnd_some, rz_0, rz_1, zb_0, zb_1, rd_kI, wrI_kI, wrL_kI, dvI_kI, rmI_kI, if_true, if_false, ite_true, ite_false, reduceIte, Nat.lt_irrefl, Nat.le_refl, not_true, not_false_iff, true_and, and_true, false_and, and_false, and_self, Bool.false_eq_true, eq_self, Decidable.not_not]
  | some k =>
    obtain ⟨k1, -, -⟩ := mayB_iff.mp (ch_may hk)
    obtain ⟨o1, o2⟩ := own_of hw k1
    obtain ⟨r, μ3, a1, a2, a3, a4⟩ := takesAt_eq (k := k) hP2 h2 (by omega) o1 hc
    refine ⟨kI k, μ3, ?_, rfl, a3, hf2.trans a4⟩
    subst a2
    simp (disch := omega) only [a1, Nat.zero_le, iI_lit, kI_add, kI_mul, kI_eq, kI_lt, kI_le, kI_neg1, neg1_kI, neg1_lt0, neg1_0le, kO_none, kO_some, nm_eq, bnd_some, rz_0, rz_1, zb_0, zb_1, rd_kI, wrI_kI, wrL_kI, dvI_kI, rmI_kI, if_true, if_false, ite_true, ite_false, reduceIte, Nat.lt_irrefl, Nat.le_refl, not_true, not_false_iff, true_and, and_true, false_and, and_false, and_self, Bool.false_eq_true, eq_self, Decidable.not_not]
