/-! EXACT OF BOTH -/
def Kept (P : Pa) (lot : Nat → Nat) (μ : Mm) (l : Nat) (e : Ev) : Prop := (∀ k, k < pN P → gI μ 137 (3 * l + k) = kO (eO e k) ∧ gI μ 138 (3 * l + k) = kI (eT e k)) ∧ gI μ 139 (5 * l) = kI (wr (pN P) (eP e)) ∧ gI μ 139 (5 * l + 1) = kO (cu P lot e) ∧ gI μ 139 (5 * l + 2) = kI (eP e + 1) ∧ gI μ 139 (5 * l + 3) = kO (eJ e) ∧ gI μ 139 (5 * l + 4) = eN e
def End9 (P : Pa) (μ : Mm) (l : Nat) (r : Ev) : Prop := (∀ k, k < pN P → gI μ 140 (3 * l + k) = kO (eO r k)) ∧ gI μ 141 l = eN r
def FK (l a j : Nat) : Prop := ((a = 137 ∨ a = 138) ∧ 3 * l ≤ j ∧ j < 3 * l + 3) ∨ (a = 139 ∧ 5 * l ≤ j ∧ j < 5 * l + 5)
def FE (l a j : Nat) : Prop := (a = 140 ∧ 3 * l ≤ j ∧ j < 3 * l + 3) ∨ (a = 141 ∧ j = l)
def FX (l a j : Nat) : Prop := CX9 1 a j ∨ ((a = 137 ∨ a = 138 ∨ a = 140) ∧ 3 * l ≤ j) ∨ (a = 139 ∧ 5 * l ≤ j) ∨ (a = 141 ∧ l ≤ j)
theorem FK.x {l a j : Nat} (h : FK l a j) : FX l a j := by unfold FK at h; unfold FX; omega
theorem FE.x {l a j : Nat} (h : FE l a j) : FX l a j := by unfold FE at h; unfold FX; omega
theorem FX.up {l a j : Nat} (h : FX (l + 1) a j) : FX l a j := by
  unfold FX at h ⊢
  rcases h with h | h
  · exact Or.inl h
  · exact Or.inr (by omega)
theorem PR.fx {μ μ1 : Mm} {P : Pa} {l : Nat} (h : PR μ P) (hf : FrC (FX l) μ μ1) : PR μ1 P := h.fr hf (fun a j q z => by unfold FX CX9 at q; unfold CP at z; omega)
theorem Kept.fr {C : Nat → Nat → Prop} {P : Pa} {lot : Nat → Nat} {μ μ1 : Mm} {l : Nat} {e : Ev} (h : Kept P lot μ l e) (hn : pN P ≤ 3) (hf : FrC C μ μ1) (hs : ∀ a j, C a j → ¬ FK l a j) : Kept P lot μ1 l e := by
  have q : ∀ a j, FK l a j → gI μ1 a j = gI μ a j := fun a j z => hf.1 a j (fun y => hs a j y z)
  obtain ⟨h1, h2, h3, h4, h5, h6⟩ := h
  refine ⟨fun k hk => ?_, ?_, ?_, ?_, ?_, ?_⟩
  · rw [q _ _ (by unfold FK; omega), q _ _ (by unfold FK; omega)]; exact h1 k hk
  · rw [q _ _ (by unfold FK; omega)]; exact h2
  · rw [q _ _ (by unfold FK; omega)]; exact h3
  · rw [q _ _ (by unfold FK; omega)]; exact h4
  · rw [q _ _ (by unfold FK; omega)]; exact h5
  · rw [q _ _ (by unfold FK; omega)]; exact h6
theorem End9.fr {C : Nat → Nat → Prop} {P : Pa} {μ μ1 : Mm} {l : Nat} {r : Ev} (h : End9 P μ l r) (hn : pN P ≤ 3) (hf : FrC C μ μ1) (hs : ∀ a j, C a j → ¬ FE l a j) : End9 P μ1 l r := by
  have q : ∀ a j, FE l a j → gI μ1 a j = gI μ a j := fun a j z => hf.1 a j (fun y => hs a j y z)
  refine ⟨fun k hk => ?_, ?_⟩
  · rw [q _ _ (by unfold FE; omega)]; exact h.1 k hk
  · rw [q _ _ (by unfold FE; omega)]; exact h.2
theorem RR.fk {P : Pa} {lot : Nat → Nat} {μ μ1 : Mm} {l : Nat} {e : Ev} (h : RR μ 1 P lot e) (hn : pN P ≤ 7) (hf : FrC (FK l) μ μ1) : RR μ1 1 P lot e := h.fr hn hf (fun a j q => by unfold FK at q; omega)
theorem keep9_loop {P : Pa} {lot : Nat → Nat} {l : Nat} {e : Ev} (hn : pN P ≤ 3) (hl : l ≤ 10) : ∀ c i f (μ : Mm), i + c = pN P → c < f → PR μ P → RR μ 1 P lot e → (∀ k, k < i → gI μ 137 (3 * l + k) = kO (eO e k) ∧ gI μ 138 (3 * l + k) = kI (eT e k)) → ∃ μ', F_X9_keepAt_2 f (kI l) (kI i) μ = some ((), μ') ∧ Kept P lot μ' l e ∧ FrC (FK l) μ μ' := by
  intro c
  induction c with
  | zero =>
    intro i f μ hi hf hP h hk
    obtain ⟨f, rfl⟩ : ∃ g, f = g + 1 := ⟨f - 1, by omega⟩
    obtain ⟨h0, h1, h2, h3, h4, h5, h6, h7, h8⟩ := h
    have h7 := h7 rfl
    have h5 := h5 (fun _ => rfl)
    have h6 := h6 (fun _ => rfl)
    refine ⟨pI (pI (pI (pI (pI μ 139 (5 * l) (kI (wr (pN P) (eP e)))) 139 (5 * l + 1) (kO (cu P lot e))) 139 (5 * l + 2) (kI (eP e + 1))) 139 (5 * l + 3) (kO (eJ e))) 139 (5 * l + 4) (eN e), ?_, ⟨fun k hk' => ?_, ?_, ?_, ?_, ?_, ?_⟩, ((((FrC.put (C := FK l) FrC.refl (by unfold FK; omega)).put (by unfold FK; omega)).put (by unfold FK; omega)).put (by unfold FK; omega)).put (by unfold FK; omega)⟩
    · rw [F_X9_keepAt_2, hP.n, if_pos (by rw [kI_le (by omega) (by omega)]; omega)]
      simp (disch := omega) only [h3, h4, h5, h6, h7, gI_pI, show ¬ (121 : Nat) = 139 by omega, show ¬ (122 : Nat) = 139 by omega, show ¬ (123 : Nat) = 139 by omega, show ¬ (124 : Nat) = 139 by omega, iI_lit, kI_add, kI_mul, kI_eq, kI_lt, kI_le, kI_neg1, neg1_kI, neg1_lt0, neg1_0le, kO_none, kO_some, nm_eq, bnd_some, rz_0, rz_1, zb_0, zb_1, rd_kI, wrI_kI, wrL_kI, dvI_kI, rmI_kI, if_true, if_false, ite_true, ite_false, reduceIte, Nat.lt_irrefl, Nat.le_refl, not_true, not_false_iff, true_and, and_true, false_and, and_false, and_self, Bool.false_eq_true, eq_self, Decidable.not_not]
    · rw [gI_pI, if_neg (by omega), gI_pI, if_neg (by omega), gI_pI, if_neg (by omega), gI_pI, if_neg (by omega), gI_pI, if_neg (by omega), gI_pI, if_neg (by omega), gI_pI, if_neg (by omega), gI_pI, if_neg (by omega), gI_pI, if_neg (by omega), gI_pI, if_neg (by omega)]
      exact hk k (by omega)
    · rw [gI_pI, if_neg (by omega), gI_pI, if_neg (by omega), gI_pI, if_neg (by omega), gI_pI, if_neg (by omega), gI_pI, if_pos ⟨rfl, rfl⟩]
    · rw [gI_pI, if_neg (by omega), gI_pI, if_neg (by omega), gI_pI, if_neg (by omega), gI_pI, if_pos ⟨rfl, rfl⟩]
    · rw [gI_pI, if_neg (by omega), gI_pI, if_neg (by omega), gI_pI, if_pos ⟨rfl, rfl⟩]
    · rw [gI_pI, if_neg (by omega), gI_pI, if_pos ⟨rfl, rfl⟩]
    · rw [gI_pI, if_pos ⟨rfl, rfl⟩]
  | succ c ih =>
    intro i f μ hi hf hP h hk
    obtain ⟨f, rfl⟩ : ∃ g, f = g + 1 := ⟨f - 1, by omega⟩
    have e1 : gI μ 118 (7 + i) = kO (eO e i) := h.2.1 i (by omega)
    have e2 : gI μ 119 (7 + i) = kI (eT e i) := h.2.2.1 i (by omega)
    have fp : FrC (FK l) μ (pI (pI μ 137 (3 * l + i) (kO (eO e i))) 138 (3 * l + i) (kI (eT e i))) := (FrC.put (C := FK l) FrC.refl (by unfold FK; omega)).put (by unfold FK; omega)
    obtain ⟨μ', i1, i2, i3⟩ := ih (i + 1) f _ (by omega) (by omega) (hP.fx (fp.mono fun a j q => q.x)) (h.fk (by omega) fp) (fun k hk' => by
      rw [gI_pI, if_neg (by omega), gI_pI, gI_pI]
      by_cases z : k = i
      · rw [z, if_pos ⟨rfl, rfl⟩, if_pos ⟨rfl, rfl⟩]
        exact ⟨rfl, rfl⟩
      · rw [if_neg (by omega), if_neg (by omega), gI_pI, if_neg (by omega)]
        exact hk k (by omega))
    refine ⟨μ', ?_, i2, fp.trans i3⟩
    rw [F_X9_keepAt_2, hP.n, if_neg (by rw [kI_le (by omega) (by omega)]; omega)]
    simp (disch := omega) only [e1, e2, gI_pI, show ¬ (119 : Nat) = 137 by omega, i1, iI_lit, kI_add, kI_mul, kI_eq, kI_lt, kI_le, kI_neg1, neg1_kI, neg1_lt0, neg1_0le, kO_none, kO_some, nm_eq, bnd_some, rz_0, rz_1, zb_0, zb_1, rd_kI, wrI_kI, wrL_kI, dvI_kI, rmI_kI, if_true, if_false, ite_true, ite_false, reduceIte, Nat.lt_irrefl, Nat.le_refl, not_true, not_false_iff, true_and, and_true, false_and, and_false, and_self, Bool.false_eq_true, eq_self, Decidable.not_not]
theorem keep9 {P : Pa} {lot : Nat → Nat} {μ : Mm} {l : Nat} {e : Ev} (hn : pN P ≤ 3) (hl : l ≤ 10) (hP : PR μ P) (h : RR μ 1 P lot e) : ∃ μ', F_X9_keepAt (kI l) μ = some ((), μ') ∧ Kept P lot μ' l e ∧ FrC (FK l) μ μ' :=
  keep9_loop hn hl (pN P) 0 FU μ (by omega) (by unfold FU; omega) hP h (fun k hk => absurd hk (by omega))
theorem lay9_loop {P : Pa} {lot : Nat → Nat} {l : Nat} {e : Ev} (hn : pN P ≤ 3) (hl : l ≤ 10) : ∀ c i f (μ : Mm), i + c = pN P → c < f → PR μ P → Kept P lot μ l e → (∀ j, j < pN P → gI μ 117 j = kI (lot j)) → (∀ k, k < i → gI μ 118 (7 + k) = kO (eO e k) ∧ gI μ 119 (7 + k) = kI (eT e k)) → ∃ μ', F_X9_layAt_2 f (kI l) (kI i) μ = some ((), μ') ∧ RR μ' 1 P lot e ∧ FrC (CX9 1) μ μ' := by
  intro c
  induction c with
  | zero =>
    intro i f μ hi hf hP h h117 hk
    obtain ⟨f, rfl⟩ : ∃ g, f = g + 1 := ⟨f - 1, by omega⟩
    obtain ⟨h1, h2, h3, h4, h5, h6⟩ := h
    refine ⟨pI (pI (pI (pI (pI μ 120 1 (kI (wr (pN P) (eP e)))) 121 1 (kO (cu P lot e))) 122 1 (kI (eP e + 1))) 123 1 (kO (eJ e))) 124 1 (eN e), ?_, ⟨by omega, fun k hk' => ?_, fun k hk' => ?_, ?_, ?_, fun _ => ?_, fun _ => ?_, fun _ => ?_, fun j hj => ?_⟩, ((((FrC.put (C := CX9 1) FrC.refl (by unfold CX9; omega)).put (by unfold CX9; omega)).put (by unfold CX9; omega)).put (by unfold CX9; omega)).put (by unfold CX9; omega)⟩
    · rw [F_X9_layAt_2, hP.n, if_pos (by rw [kI_le (by omega) (by omega)]; omega)]
      simp (disch := omega) only [h2, h3, h4, h5, h6, gI_pI, show ¬ (139 : Nat) = 120 by omega, show ¬ (139 : Nat) = 121 by omega, show ¬ (139 : Nat) = 122 by omega, show ¬ (139 : Nat) = 123 by omega, iI_lit, kI_add, kI_mul, kI_eq, kI_lt, kI_le, kI_neg1, neg1_kI, neg1_lt0, neg1_0le, kO_none, kO_some, nm_eq, bnd_some, rz_0, rz_1, zb_0, zb_1, rd_kI, wrI_kI, wrL_kI, dvI_kI, rmI_kI, if_true, if_false, ite_true, ite_false, reduceIte, Nat.lt_irrefl, Nat.le_refl, not_true, not_false_iff, true_and, and_true, false_and, and_false, and_self, Bool.false_eq_true, eq_self, Decidable.not_not]
    · rw [gI_pI, if_neg (by omega), gI_pI, if_neg (by omega), gI_pI, if_neg (by omega), gI_pI, if_neg (by omega), gI_pI, if_neg (by omega)]
      exact (hk k (by omega)).1
    · rw [gI_pI, if_neg (by omega), gI_pI, if_neg (by omega), gI_pI, if_neg (by omega), gI_pI, if_neg (by omega), gI_pI, if_neg (by omega)]
      exact (hk k (by omega)).2
    · rw [gI_pI, if_neg (by omega), gI_pI, if_neg (by omega), gI_pI, if_neg (by omega), gI_pI, if_neg (by omega), gI_pI, if_pos ⟨rfl, rfl⟩]
    · rw [gI_pI, if_neg (by omega), gI_pI, if_neg (by omega), gI_pI, if_neg (by omega), gI_pI, if_pos ⟨rfl, rfl⟩]
    · rw [gI_pI, if_neg (by omega), gI_pI, if_neg (by omega), gI_pI, if_pos ⟨rfl, rfl⟩]
    · rw [gI_pI, if_neg (by omega), gI_pI, if_pos ⟨rfl, rfl⟩]
    · rw [gI_pI, if_pos ⟨rfl, rfl⟩]
    · rw [gI_pI, if_neg (by omega), gI_pI, if_neg (by omega), gI_pI, if_neg (by omega), gI_pI, if_neg (by omega), gI_pI, if_neg (by omega)]
      exact h117 j hj
  | succ c ih =>
    intro i f μ hi hf hP h h117 hk
    obtain ⟨f, rfl⟩ : ∃ g, f = g + 1 := ⟨f - 1, by omega⟩
    obtain ⟨e1, e2⟩ := h.1 i (by omega)
    have fp : FrC (CX9 1) μ (pI (pI μ 118 (7 + i) (kO (eO e i))) 119 (7 + i) (kI (eT e i))) := (FrC.put (C := CX9 1) FrC.refl (by unfold CX9; omega)).put (by unfold CX9; omega)
    obtain ⟨μ', i1, i2, i3⟩ := ih (i + 1) f _ (by omega) (by omega) (hP.cx fp) (h.fr hn fp (fun a j q => by unfold CX9 at q; unfold FK; omega)) (fun j hj => by rw [fp.1 117 j (by unfold CX9; omega)]; exact h117 j hj) (fun k hk' => by
      rw [gI_pI, if_neg (by omega), gI_pI, gI_pI]
      by_cases z : k = i
      · rw [z, if_pos ⟨rfl, rfl⟩, if_pos ⟨rfl, rfl⟩]
        exact ⟨rfl, rfl⟩
      · rw [if_neg (by omega), if_neg (by omega), gI_pI, if_neg (by omega)]
        exact hk k (by omega))
    refine ⟨μ', ?_, i2, fp.trans i3⟩
    rw [F_X9_layAt_2, hP.n, if_neg (by rw [kI_le (by omega) (by omega)]; omega)]
    simp (disch := omega) only [e1, e2, gI_pI, show ¬ (138 : Nat) = 118 by omega, i1, iI_lit, kI_add, kI_mul, kI_eq, kI_lt, kI_le, kI_neg1, neg1_kI, neg1_lt0, neg1_0le, kO_none, kO_some, nm_eq, bnd_some, rz_0, rz_1, zb_0, zb_1, rd_kI, wrI_kI, wrL_kI, dvI_kI, rmI_kI, if_true, if_false, ite_true, ite_false, reduceIte, Nat.lt_irrefl, Nat.le_refl, not_true, not_false_iff, true_and, and_true, false_and, and_false, and_self, Bool.false_eq_true, eq_self, Decidable.not_not]
theorem lay9 {P : Pa} {lot : Nat → Nat} {μ : Mm} {l : Nat} {e : Ev} (hn : pN P ≤ 3) (hl : l ≤ 10) (hP : PR μ P) (h : Kept P lot μ l e) (h117 : ∀ j, j < pN P → gI μ 117 j = kI (lot j)) : ∃ μ', F_X9_layAt (kI l) μ = some ((), μ') ∧ RR μ' 1 P lot e ∧ FrC (CX9 1) μ μ' :=
  lay9_loop hn hl (pN P) 0 FU μ (by omega) (by unfold FU; omega) hP h h117 (fun k hk => absurd hk (by omega))
theorem take9_loop {P : Pa} {l : Nat} {r : Ev} (hn : pN P ≤ 3) (hl : l ≤ 10) : ∀ c i f (μ : Mm), i + c = pN P → c < f → PR μ P → End9 P μ (l + 1) r → (∀ k, k < i → gI μ 140 (3 * l + k) = kO (eO r k)) → ∃ μ', F_X9_takeEnd_2 f (kI l) (kI i) μ = some ((), μ') ∧ End9 P μ' l r ∧ FrC (FE l) μ μ' := by
  intro c
  induction c with
  | zero =>
    intro i f μ hi hf hP h hk
    obtain ⟨f, rfl⟩ : ∃ g, f = g + 1 := ⟨f - 1, by omega⟩
    refine ⟨pI μ 141 l (eN r), ?_, ⟨fun k hk' => ?_, ?_⟩, FrC.refl.put (Or.inr ⟨rfl, rfl⟩)⟩
    · have h2 := h.2
      rw [F_X9_takeEnd_2, hP.n, if_pos (by rw [kI_le (by omega) (by omega)]; omega)]
      simp (disch := omega) only [h2, iI_lit, kI_add, kI_mul, kI_eq, kI_lt, kI_le, kI_neg1, neg1_kI, neg1_lt0, neg1_0le, kO_none, kO_some, nm_eq, bnd_some, rz_0, rz_1, zb_0, zb_1, rd_kI, wrI_kI, wrL_kI, dvI_kI, rmI_kI, if_true, if_false, ite_true, ite_false, reduceIte, Nat.lt_irrefl, Nat.le_refl, not_true, not_false_iff, true_and, and_true, false_and, and_false, and_self, Bool.false_eq_true, eq_self, Decidable.not_not]
    · rw [gI_pI, if_neg (by omega)]
      exact hk k (by omega)
    · rw [gI_pI, if_pos ⟨rfl, rfl⟩]
  | succ c ih =>
    intro i f μ hi hf hP h hk
    obtain ⟨f, rfl⟩ : ∃ g, f = g + 1 := ⟨f - 1, by omega⟩
    have e1 : gI μ 140 (3 * l + 3 + i) = kO (eO r i) := by
      have := h.1 i (by omega)
      rwa [show 3 * (l + 1) + i = 3 * l + 3 + i by omega] at this
    have fp : FrC (FE l) μ (pI μ 140 (3 * l + i) (kO (eO r i))) := FrC.refl.put (by unfold FE; omega)
    obtain ⟨μ', i1, i2, i3⟩ := ih (i + 1) f _ (by omega) (by omega) (hP.fx (fp.mono fun a j q => q.x)) (h.fr hn fp (fun a j q => by unfold FE at q ⊢; omega)) (fun k hk' => by
      rw [gI_pI]
      by_cases z : k = i
      · rw [z, if_pos ⟨rfl, rfl⟩]
      · rw [if_neg (by omega)]
        exact hk k (by omega))
    refine ⟨μ', ?_, i2, fp.trans i3⟩
    rw [F_X9_takeEnd_2, hP.n, if_neg (by rw [kI_le (by omega) (by omega)]; omega)]
    simp (disch := omega) only [e1, i1, iI_lit, kI_add, kI_mul, kI_eq, kI_lt, kI_le, kI_neg1, neg1_kI, neg1_lt0, neg1_0le, kO_none, kO_some, nm_eq, bnd_some, rz_0, rz_1, zb_0, zb_1, rd_kI, wrI_kI, wrL_kI, dvI_kI, rmI_kI, if_true, if_false, ite_true, ite_false, reduceIte, Nat.lt_irrefl, Nat.le_refl, not_true, not_false_iff, true_and, and_true, false_and, and_false, and_self, Bool.false_eq_true, eq_self, Decidable.not_not]
theorem take9 {P : Pa} {μ : Mm} {l : Nat} {r : Ev} (hn : pN P ≤ 3) (hl : l ≤ 10) (hP : PR μ P) (h : End9 P μ (l + 1) r) : ∃ μ', F_X9_takeEnd (kI l) μ = some ((), μ') ∧ End9 P μ' l r ∧ FrC (FE l) μ μ' :=
  take9_loop hn hl (pN P) 0 FU μ (by omega) (by unfold FU; omega) hP h (fun k hk => absurd hk (by omega))
theorem last9_loop {P : Pa} {lot : Nat → Nat} {l : Nat} {e : Ev} {g : Int32 → Mm → Option (Unit × Mm)} (hn : pN P ≤ 3) (hl : l ≤ 10) : ∀ c i f (μ : Mm), i + c = pN P → c < f → PR μ P → RR μ 1 P lot e → (∀ k, k < i → gI μ 140 (3 * l + k) = kO (eO e k)) → ∃ μ', F_X9_goExact_11 g f (kI l) (kI i) μ = some ((), μ') ∧ End9 P μ' l e ∧ FrC (FE l) μ μ' := by
  intro c
  induction c with
  | zero =>
    intro i f μ hi hf hP h hk
    obtain ⟨f, rfl⟩ : ∃ g, f = g + 1 := ⟨f - 1, by omega⟩
    refine ⟨pI μ 141 l (eN e), ?_, ⟨fun k hk' => ?_, ?_⟩, FrC.refl.put (Or.inr ⟨rfl, rfl⟩)⟩
    · have h7 := h.2.2.2.2.2.2.2.1 rfl
      rw [F_X9_goExact_11, hP.n, if_pos (by rw [kI_le (by omega) (by omega)]; omega)]
      simp (disch := omega) only [h7, iI_lit, kI_add, kI_mul, kI_eq, kI_lt, kI_le, kI_neg1, neg1_kI, neg1_lt0, neg1_0le, kO_none, kO_some, nm_eq, bnd_some, rz_0, rz_1, zb_0, zb_1, rd_kI, wrI_kI, wrL_kI, dvI_kI, rmI_kI, if_true, if_false, ite_true, ite_false, reduceIte, Nat.lt_irrefl, Nat.le_refl, not_true, not_false_iff, true_and, and_true, false_and, and_false, and_self, Bool.false_eq_true, eq_self, Decidable.not_not]
    · rw [gI_pI, if_neg (by omega)]
      exact hk k (by omega)
    · rw [gI_pI, if_pos ⟨rfl, rfl⟩]
  | succ c ih =>
    intro i f μ hi hf hP h hk
    obtain ⟨f, rfl⟩ : ∃ g, f = g + 1 := ⟨f - 1, by omega⟩
    have e1 : gI μ 118 (7 + i) = kO (eO e i) := h.2.1 i (by omega)
    have fp : FrC (FE l) μ (pI μ 140 (3 * l + i) (kO (eO e i))) := FrC.refl.put (by unfold FE; omega)
    obtain ⟨μ', i1, i2, i3⟩ := ih (i + 1) f _ (by omega) (by omega) (hP.fx (fp.mono fun a j q => q.x)) (h.fr (by omega) fp (fun a j q => by unfold FE at q; omega)) (fun k hk' => by
      rw [gI_pI]
      by_cases z : k = i
      · rw [z, if_pos ⟨rfl, rfl⟩]
      · rw [if_neg (by omega)]
        exact hk k (by omega))
    refine ⟨μ', ?_, i2, fp.trans i3⟩
    rw [F_X9_goExact_11, hP.n, if_neg (by rw [kI_le (by omega) (by omega)]; omega)]
    simp (disch := omega) only [e1, i1, iI_lit, kI_add, kI_mul, kI_eq, kI_lt, kI_le, kI_neg1, neg1_kI, neg1_lt0, neg1_0le, kO_none, kO_some, nm_eq, bnd_some, rz_0, rz_1, zb_0, zb_1, rd_kI, wrI_kI, wrL_kI, dvI_kI, rmI_kI, if_true, if_false, ite_true, ite_false, reduceIte, Nat.lt_irrefl, Nat.le_refl, not_true, not_false_iff, true_and, and_true, false_and, and_false, and_self, Bool.false_eq_true, eq_self, Decidable.not_not]
theorem worth9_loop {P : Pa} {lot : Nat → Nat} {l p : Nat} {r : Ev} {μ : Mm} (hn : pN P ≤ 3) (hl : l ≤ 10) (hP : PR μ P) (h : End9 P μ l r) (hr : ExOk P lot r) (hp : p < pN P) : ∀ c i f, i + c = pN P → c < f → (∀ k, k < i → eO r k ≠ some p) → F_X9_endWorth_2 f (kI l) (kI p) (kI i) μ = some (kI (wo P p (eH r p)), μ) := by
  intro c
  induction c with
  | zero =>
    intro i f hi hf hk
    obtain ⟨f, rfl⟩ : ∃ g, f = g + 1 := ⟨f - 1, by omega⟩
    have e0 : wo P p (eH r p) = 0 := by
      cases q : eH r p with
      | none => rfl
      | some k =>
        have o := (hr.1.2.2.2.2.1 p k).mp q
        by_cases z : k < pN P
        · exact absurd o (hk k (by omega))
        · exact if_neg (fun w => z w.2)
    rw [F_X9_endWorth_2, hP.n, if_pos (by rw [kI_le (by omega) (by omega)]; omega), e0]
    rfl
  | succ c ih =>
    intro i f hi hf hk
    obtain ⟨f, rfl⟩ : ∃ g, f = g + 1 := ⟨f - 1, by omega⟩
    have e1 := h.1 i (by omega)
    have hb : ∀ k, eO r i = some k → k < 2147483648 := fun k q => by have := hr.1.1.2.2.1 i k q; omega
    rw [F_X9_endWorth_2, hP.n, if_neg (by rw [kI_le (by omega) (by omega)]; omega), iI_lit, kI_mul, kI_add, rd_kI (by omega) (by omega), e1]
    by_cases z : eO r i = some p
    · have eh := (hr.1.2.2.2.2.1 p i).mpr z
      rw [if_pos ((kO_kI hb (by omega)).mpr z), iI_lit, kI_mul, kI_add, rd_kI (by omega) (by omega), hP.w (by omega) (by omega), eh, wo_some hp (by omega)]
    · rw [if_neg (fun q => z ((kO_kI hb (by omega)).mp q)), nm_eq, kI_a1]
      refine ih (i + 1) f (by omega) (by omega) (fun k hk' => ?_)
      by_cases y : k = i
      · rw [y]; exact z
      · exact hk k (by omega)
theorem worth9 {P : Pa} {lot : Nat → Nat} {l p : Nat} {r : Ev} {μ : Mm} (hn : pN P ≤ 3) (hl : l ≤ 10) (hP : PR μ P) (h : End9 P μ l r) (hr : ExOk P lot r) (hp : p < pN P) : F_X9_endWorth (kI l) (kI p) μ = some (kI (wo P p (eH r p)), μ) :=
  worth9_loop hn hl hP h hr hp (pN P) 0 FU (by omega) (by unfold FU; omega) (fun k hk => absurd hk (by omega))
theorem look9_loop {P : Pa} {lot : Nat → Nat} {l d g p : Nat} {e : Ev} (hok : PaOk P) (hn : pN P ≤ 3) (hl : LotOk (pN P) P lot) (hll : l ≤ 9) (hw : WfE (pN P) P lot e) (ho : eP e < pN P) (hc : cu P lot e = some p) (hg : left P e ≤ g + 1) (ih : ∀ (e : Ev) (μ : Mm), left P e ≤ g → PR μ P → RR μ 1 P lot e → WfE (pN P) P lot e → ∃ μ', R_188 d (kI (l + 1)) μ = some ((), μ') ∧ End9 P μ' (l + 1) (exF P lot g e) ∧ FrC (FX (l + 1)) μ μ') : ∀ c i r f (μ : Mm), i + c = pN P → c < f → ExOk P lot r → PR μ P → RR μ 1 P lot e → Kept P lot μ l e → End9 P μ l r → ∃ μ', F_X9_goExact_94 (R_188 d) f (kI l) (kI p) (kI i) μ = some ((), μ') ∧ End9 P μ' l (exL (exF P lot g) P p e c i r) ∧ FrC (FX l) μ μ' := by
  have hp7 := (cu_free hok hl hw ho hc).1
  intro c
  induction c with
  | zero =>
    intro i r f μ hi hf hr hP h hK hE
    obtain ⟨f, rfl⟩ : ∃ g, f = g + 1 := ⟨f - 1, by omega⟩
    refine ⟨μ, ?_, hE, FrC.refl⟩
    rw [F_X9_goExact_94, hP.n, if_pos (by rw [kI_le (by omega) (by omega)]; omega)]
  | succ c ihc =>
    intro i r f μ hi hf hr hP h hK hE
    obtain ⟨f, rfl⟩ : ∃ g, f = g + 1 := ⟨f - 1, by omega⟩
    have mt := mayTake_eq hP h hl hw ho hc (show i < pN P by omega)
    have mt : F_X9_mayTake (iI 1) (kI i) μ = some (if mayB P e i = true then kI 1 else kI 0, μ) := mt
    rw [exL_s, F_X9_goExact_94, hP.n, if_neg (by rw [kI_le (by omega) (by omega)]; omega), bnd_eq mt]
    by_cases z : mayB P e i = true
    · rw [if_pos z, if_neg k1_ne0]
      obtain ⟨q1, q2⟩ := own_of hw (mayB_iff.mp z).1
      obtain ⟨_, m4, b1, b2, b3, b4⟩ := takesAt_eq (k := i) hP h (by omega) q1 hc
      have b1 : F_X9_takesAt (iI 1) (kI i) μ = some (_, m4) := b1
      have hP4 := hP.cx b4
      have lr := left_rb (p := p) (q := own0 e i) z
      have wr' := wf_rb hok hl hw ho hc z q1
      obtain ⟨m6, i1, i2, i3⟩ := ih (rbE p i (own0 e i) e) m4 (by omega) hP4 b3 wr'
      have eo := ex_ok hok hl g (rbE p i (own0 e i) e) (by omega) wr'
      have hP6 := hP4.fx i3
      have f6 : FrC (FX (l + 1)) μ m6 := (b4.mono fun a j q => Or.inl q).trans i3
      have hK6 : Kept P lot m6 l e := hK.fr hn f6 (fun a j q => by unfold FX CX9 at q; unfold FK; omega)
      have hE6 : End9 P m6 l r := hE.fr hn f6 (fun a j q => by unfold FX CX9 at q; unfold FE; omega)
      have h117 : ∀ j, j < pN P → gI m6 117 j = kI (lot j) := fun j hj => by rw [f6.1 117 j (by unfold FX CX9; omega)]; exact h.2.2.2.2.2.2.2.2 j hj
      have w1 := worth9 (lot := lot) hn (by omega) hP6 i2 eo hp7
      have w2 := worth9 (lot := lot) hn (by omega) hP6 hE6 hr hp7
      have v1 := wo_le hok p (eH (exF P lot g (rbE p i (own0 e i) e)) p)
      have v2 := wo_le hok p (eH r p)
      rw [bnd_eq b1, kI_a1, bnd_eq i1, bnd_eq w1, bnd_eq w2]
      have fU : FrC (FX l) μ m6 := f6.mono fun a j q => q.up
      by_cases y : wo P p (eH r p) < wo P p (eH (exF P lot g (rbE p i (own0 e i) e)) p)
      · rw [if_neg (by rw [kI_le (by omega) (by omega)]; omega), if_pos ⟨z, y⟩]
        obtain ⟨m8, c1, c2, c3⟩ := take9 hn (by omega) hP6 i2
        have hP8 := hP6.fx (c3.mono fun a j q => q.x)
        obtain ⟨m10, d1, d2, d3⟩ := lay9 hn (by omega) hP8 (hK6.fr hn c3 (fun a j q => by unfold FE at q; unfold FK; omega)) (fun j hj => by rw [c3.1 117 j (by unfold FE; omega)]; exact h117 j hj)
        rw [bnd_eq c1, F_X9_goExact_150, bnd_eq d1, F_X9_goExact_155, nm_eq, kI_a1]
        have f10 : FrC (FX l) m6 m10 := (c3.mono fun a j q => q.x).trans (d3.mono fun a j q => Or.inl q)
        obtain ⟨μ', g1, g2, g3⟩ := ihc (i + 1) _ f m10 (by omega) (by omega) eo (hP6.fx f10) d2 ((hK6.fr hn c3 (fun a j q => by unfold FE at q; unfold FK; omega)).fr hn d3 (fun a j q => by unfold CX9 at q; unfold FK; omega)) (c2.fr hn d3 (fun a j q => by unfold CX9 at q; unfold FE; omega))
        exact ⟨μ', g1, g2, (fU.trans f10).trans g3⟩
      · rw [if_pos (by rw [kI_le (by omega) (by omega)]; omega), if_neg (fun q => y q.2)]
        obtain ⟨m10, d1, d2, d3⟩ := lay9 hn (by omega) hP6 hK6 h117
        rw [F_X9_goExact_150, bnd_eq d1, F_X9_goExact_155, nm_eq, kI_a1]
        obtain ⟨μ', g1, g2, g3⟩ := ihc (i + 1) r f m10 (by omega) (by omega) hr (hP6.cx d3) d2 (hK6.fr hn d3 (fun a j q => by unfold CX9 at q; unfold FK; omega)) (hE6.fr hn d3 (fun a j q => by unfold CX9 at q; unfold FE; omega))
        exact ⟨μ', g1, g2, (fU.trans (d3.mono fun a j q => Or.inl q)).trans g3⟩
    · rw [if_neg z, if_pos k0_eq0, if_neg (fun q => z q.1), F_X9_goExact_155, nm_eq, kI_a1]
      exact ihc (i + 1) r f μ (by omega) (by omega) hr hP h hK hE
theorem look9 {P : Pa} {lot : Nat → Nat} (hok : PaOk P) (hn : pN P ≤ 3) (hl : LotOk (pN P) P lot) : ∀ g d l (e : Ev) (μ : Mm), left P e ≤ g → l + g ≤ 9 → g < d → PR μ P → RR μ 1 P lot e → WfE (pN P) P lot e → ∃ μ', R_188 d (kI l) μ = some ((), μ') ∧ End9 P μ' l (exF P lot g e) ∧ FrC (FX l) μ μ' := by
  have done : ∀ d l (e : Ev) (μ : Mm), l ≤ 9 → eP e = pN P → PR μ P → RR μ 1 P lot e → WfE (pN P) P lot e → ∃ μ', R_188 (d + 1) (kI l) μ = some ((), μ') ∧ End9 P μ' l e ∧ FrC (FX l) μ μ' := by
    intro d l e μ hl9 he hP h hw
    obtain ⟨μ', a1, a2, a3⟩ := last9_loop (g := R_188 d) hn (show l ≤ 10 by omega) (pN P) 0 FU μ (by omega) (by unfold FU; omega) hP h (fun k hk => absurd hk (by omega))
    refine ⟨μ', ?_, a2, a3.mono fun a j q => q.x⟩
    show B_X9_goExact (R_188 d) (kI l) μ = _
    unfold B_X9_goExact
    have e4 := h.2.2.2.2.1
    rw [cu_end hw he] at e4
    rw [show iI 1 = kI 1 from rfl, rd_kI (by omega) (by omega), e4, kO_none, if_neg (show ¬ iI 0 ≤ iI (-1) from fun q => neg1_0le.mp q)]
    exact a1
  intro g
  induction g with
  | zero =>
    intro d l e μ hg hlg hd hP h hw
    obtain ⟨d, rfl⟩ : ∃ x, d = x + 1 := ⟨d - 1, by omega⟩
    exact done d l e μ (by omega) (left_0 hw hg) hP h hw
  | succ g ih =>
    intro d l e μ hg hlg hd hP h hw
    obtain ⟨d, rfl⟩ : ∃ x, d = x + 1 := ⟨d - 1, by omega⟩
    unfold exF
    cases hc : cu P lot e with
    | none => exact done d l e μ (by omega) (cu_none hw hc) hP h hw
    | some p =>
      have ho := cu_lt hw hc
      have hp7 := (cu_free hok hl hw ho hc).1
      have e4 := h.2.2.2.2.1
      rw [hc, kO_some] at e4
      show ∃ μ', B_X9_goExact (R_188 d) (kI l) μ = some ((), μ') ∧ End9 P μ' l (exL (exF P lot g) P p e (pN P) 0 (exF P lot g (opE p e))) ∧ FrC (FX l) μ μ'
      unfold B_X9_goExact
      obtain ⟨m5, b1, b2, b3⟩ := keep9 hn (show l ≤ 10 by omega) hP h
      have hP5 := hP.fx (b3.mono fun a j q => q.x)
      have h5 := h.fk (by omega) b3
      obtain ⟨_, m7, c1, c2, c3, c4⟩ := opensAt_eq hP5 h5 ho hc
      have c1 : F_X9_opensAt (iI 1) m5 = some (_, m7) := c1
      have hP7 := hP5.cx c4
      have lo := left_op (p := p) hw ho
      have wo' := wf_op hok hl hw ho hc
      obtain ⟨m9, i1, i2, i3⟩ := ih d (l + 1) (opE p e) m7 (by omega) (by omega) (by omega) hP7 c3 wo'
      have eo := ex_ok hok hl g (opE p e) (by omega) wo'
      have hP9 := hP7.fx i3
      have f9 : FrC (FX (l + 1)) m5 m9 := (c4.mono fun a j q => Or.inl q).trans i3
      have hK9 : Kept P lot m9 l e := b2.fr hn f9 (fun a j q => by unfold FX CX9 at q; unfold FK; omega)
      have h117 : ∀ j, j < pN P → gI m9 117 j = kI (lot j) := fun j hj => by
        rw [f9.1 117 j (by unfold FX CX9; omega), b3.1 117 j (by unfold FK; omega)]
        exact h.2.2.2.2.2.2.2.2 j hj
      obtain ⟨m11, d1, d2, d3⟩ := take9 hn (show l ≤ 10 by omega) hP9 i2
      have hP11 := hP9.fx (d3.mono fun a j q => q.x)
      have hK11 : Kept P lot m11 l e := hK9.fr hn d3 (fun a j q => by unfold FE at q; unfold FK; omega)
      obtain ⟨m13, g1, g2, g3⟩ := lay9 hn (show l ≤ 10 by omega) hP11 hK11 (fun j hj => by rw [d3.1 117 j (by unfold FE; omega)]; exact h117 j hj)
      have f13 : FrC (FX l) μ m13 := (((b3.mono fun a j q => q.x).trans (f9.mono fun a j q => q.up)).trans (d3.mono fun a j q => q.x)).trans (g3.mono fun a j q => Or.inl q)
      obtain ⟨μ', j1, j2, j3⟩ := look9_loop (d := d) hok hn hl (show l ≤ 9 by omega) hw ho hc hg (fun e' μ' h1 h2 h3 h4 => ih d (l + 1) e' μ' h1 (by omega) (by omega) h2 h3 h4) (pN P) 0 (exF P lot g (opE p e)) FU m13 (by omega) (by unfold FU; omega) eo (hP.fx f13) g2 (hK11.fr hn g3 (fun a j q => by unfold CX9 at q; unfold FK; omega)) (d2.fr hn g3 (fun a j q => by unfold CX9 at q; unfold FE; omega))
      refine ⟨μ', ?_, j2, f13.trans j3⟩
      have r1 : ∀ β (G : Nat → Option β), rd 2 (iI 1) G = G 1 := fun β G => rd_kI (n := 2) (k := 1) (by omega) (by omega) G
      rw [r1, e4, if_pos (by rw [iI_lit, kI_le (by omega) (by omega)]; omega), r1, nm_eq, bnd_eq b1, bnd_eq c1, kI_a1, bnd_eq i1, bnd_eq d1, bnd_eq g1]
      rw [e4]
      exact j1
theorem exact58 {P : Pa} {lot : Nat → Nat} {p : Nat} {r : Ev} {μ : Mm} (hn : pN P ≤ 3) (hP : PR μ P) (h : End9 P μ 0 r) (hr : ExOk P lot r) (hf : Full P r) (hp : p < pN P) : ∀ c i f, i + c = pN P → c < f → i ≤ has0 r p → F_X9_exact_58 f (kI p) (kI i) μ = some (kI (has0 r p), μ) := by
  have q0 := hf.2 p hp
  intro c
  induction c with
  | zero => exact fun i f hi _ hle => absurd q0.1 (by omega)
  | succ c ih =>
    intro i f hi hff hle
    obtain ⟨f, rfl⟩ : ∃ g, f = g + 1 := ⟨f - 1, by omega⟩
    have e1 := h.1 i (by omega)
    rw [show 3 * 0 + i = i by omega] at e1
    have hb : ∀ k, eO r i = some k → k < 2147483648 := fun k q => by have := hr.1.1.2.2.1 i k q; omega
    rw [F_X9_exact_58, hP.n, if_neg (by rw [kI_le (by omega) (by omega)]; omega), rd_kI (by omega) (by omega), e1]
    by_cases z : eO r i = some p
    · have eh := (hr.1.2.2.2.2.1 p i).mpr z
      have : has0 r p = i := by unfold has0; rw [eh]; rfl
      rw [if_pos ((kO_kI hb (by omega)).mpr z), this]
    · rw [if_neg (fun q => z ((kO_kI hb (by omega)).mp q)), nm_eq, kI_a1]
      refine ih (i + 1) f (by omega) (by omega) ?_
      by_cases y : i = has0 r p
      · exact absurd (by rw [y]; exact (hr.1.2.2.2.2.1 p _).mp q0.2.2) z
      · omega
theorem g_exact (x : Int32) : Good (F_X8_exact x) (F_X9_exact x) := by
  intro μ hI
  obtain ⟨P, lot, e, hR, hD⟩ := hI.split
  have hn := hR.1.n7
  have hok := hR.1.ok
  have hM := hok.2.2.2.2.2.1
  have em8 := hR.1.m
  have en8 := hR.1.n
  by_cases hx : x = iI (-1) ∨ ∃ k, k < pN P ∧ x = kI k
  · have a8 : F_X8_exact x μ = F_X8_exact_18 x μ := by
      unfold F_X8_exact
      rcases hx with rfl | ⟨k, hk, rfl⟩
      · rw [if_pos rfl]
      · rw [if_neg (by rw [kI_iI, iI_eq (by omega) (by omega)]; omega), bnd_eq (isOne_yes hR.1 hk), if_neg k1_ne0]
    have a9 : ∀ m, PR m P → F_X9_exact x m = (if (iI 3) < kI (pN P) then some ((iI (-5)), m) else (if kI (pM P) ≤ (iI 2) then (bnd (F_X9_beginAt (iI 1) m) fun _ m4 => bnd (F_X9_goExact (iI 0) m4) fun _ m6 => (if iI 0 ≤ x then F_X9_exact_58 FU x (iI 0) m6 else rd 13 (iI 0) fun j7 => some ((gI m6 141 j7), m6))) else some ((iI (-5)), m))) := fun m hm => by
      unfold F_X9_exact
      rw [hm.n, bnd_eq (inP_yes hn hx), if_neg k1_ne0, hm.n, hm.m]
    by_cases n3 : 3 < pN P
    · refine Good.bad (v := iI (-5)) hI ?_ ?_
      · rw [a8]
        unfold F_X8_exact_18
        rw [en8, if_pos (by rw [iI_lit, kI_lt (by omega) (by omega)]; exact n3)]
      · rw [a9 μ hR.2.1, if_pos (by rw [iI_lit, kI_lt (by omega) (by omega)]; exact n3)]
    · by_cases m2 : pM P ≤ 2
      · have lf : left P (wrE (gI μ 50 8) (gI μ 50 9) (kI 0)) ≤ 9 := by
          show (pN P - 0) * (1 + pM P) + 0 ≤ 9
          have hm : pM P = 1 ∨ pM P = 2 := by have := hok.2.2.2.2.1; omega
          rcases hm with hm | hm <;> rw [hm] <;> omega
        obtain ⟨_, m1, b1, b2, b3, b4⟩ := begin_eq (μ := μ) (t := 50) (r := 24) sh50 sh24 (by omega)
        have hP1 : PC m1 P := hR.1.fr b4 (fun a q => by unfold SA at q; omega)
        have hL1 : LotC m1 50 lot := ⟨fun j hj => by rw [b3 j hj]; exact hD.2.1.1 j hj, hD.2.1.2⟩
        obtain ⟨_, m2', c1, c2, c3⟩ := look8 hok hD.2.2.1 9 40 0 _ m1 lf (by omega) (by omega) hP1 b2 hL1 wf_wr
        have eo := ex_ok hok hD.2.2.1 9 _ lf (wf_wr (m := pN P) (P := P) (lot := lot))
        have hfu := full_of hD.2.2.1 eo.1 eo.2
        have f2 : FrC CT μ m2' := (b4.c.mono fun a j q => Or.inl (by unfold SA at q; omega)).trans (c3.c.mono fun a j q => Or.inl (by unfold SK at q; omega))
        have hR2 := hR.th f2
        have hD2 := hD.th hn f2
        obtain ⟨_, m4, d1, d2, d3⟩ := beginAt_eq (x := 1) (by omega) hR2.2.1 hD2.2.2.2.2.2.1.2.2.2.2.2.2.2.2 (gI μ 50 8) (gI μ 50 9)
        have hQ4 := hR2.2.1.cx d3
        obtain ⟨m6, g1, g2, g3⟩ := look9 hok (show pN P ≤ 3 by omega) hD.2.2.1 9 40 0 _ m4 lf (by omega) (by omega) hQ4 d2 wf_wr
        have f6 : FrC CT m2' m6 := (d3.mono fun a j q => Or.inr (Or.inr (Or.inl q))).trans (g3.mono fun a j q => by
          unfold FX at q
          rcases q with q | q
          · exact Or.inr (Or.inr (Or.inl q))
          · exact Or.inr (Or.inr (Or.inr (by omega))))
        have hQ6 := hQ4.fx g3
        have hI6 := Inv.join (hR2.th f6) (hD2.th hn f6)
        generalize exF P lot 9 (wrE (gI μ 50 8) (gI μ 50 9) (kI 0)) = r at c2 g2 eo hfu
        have st8 : F_X8_exact x μ = if x = (iI (-1)) then some (eN r, m2') else rd 8 x fun j7 => some ((gI m2' 36 j7), m2') := by
          rw [a8]
          unfold F_X8_exact_18 F_X7_eachForItself
          rw [en8, if_neg (by rw [iI_lit, kI_lt (by omega) (by omega)]; exact n3), em8, if_pos (by rw [iI_lit, kI_le (by omega) (by omega)]; exact m2), if_pos sh24, bnd_id, iI_lit, rd_kI (by omega) (by omega)]
          show (bnd (F_X2_beginBy 50 24 μ) fun _ m3 => bnd (R_74 40 (kI 0) m3) fun _ m5 => rd 10 (kI 0) fun j6 => (if x = (iI (-1)) then rd 8 (iI 7) fun j8 => some ((gI m5 (36 + 1 * j6) j8), m5) else rd 8 x fun j7 => some ((gI m5 (36 + 1 * j6) j7), m5))) = _
          rw [bnd_eq b1, bnd_eq c1, rd_kI (by omega) (by omega), iI_lit, rd_kI (by omega) (by omega), c2.2]
        have st9 : F_X9_exact x m2' = if iI 0 ≤ x then F_X9_exact_58 FU x (iI 0) m6 else rd 13 (iI 0) fun j7 => some ((gI m6 141 j7), m6) := by
          rw [a9 m2' hR2.2.1, if_neg (by rw [iI_lit, kI_lt (by omega) (by omega)]; exact n3), if_pos (by rw [iI_lit, kI_le (by omega) (by omega)]; exact m2)]
          have d1 : F_X9_beginAt (iI 1) m2' = some (_, m4) := d1
          have g1 : F_X9_goExact (iI 0) m4 = some (_, m6) := g1
          rw [bnd_eq d1, bnd_eq g1]
        rcases hx with rfl | ⟨k, hk, rfl⟩
        · refine ⟨eN r, m2', m6, ?_, ?_, hI6⟩
          · rw [st8, if_pos rfl]
          · rw [st9, if_neg (by rw [iI_le2 (by omega) (by omega)]; omega), iI_lit, rd_kI (by omega) (by omega), g2.2]
        · refine ⟨kI (has0 r k), m2', m6, ?_, ?_, hI6⟩
          · rw [st8, if_neg (by rw [kI_iI, iI_eq (by omega) (by omega)]; omega), rd_kI (by omega) (by omega)]
            have := c2.1 k (by omega)
            rw [(hfu.2 k hk).2.2] at this
            show some (gI m2' (36 + 1 * 0) k, m2') = _
            rw [this]
            rfl
          · rw [st9, if_pos (by rw [iI_lit, kI_le (by omega) (by omega)]; omega), iI_lit]
            exact exact58 (by omega) hQ6 g2 eo hfu hk (pN P) 0 FU (by omega) (by unfold FU; omega) (by omega)
      · refine Good.bad (v := iI (-5)) hI ?_ ?_
        · rw [a8]
          unfold F_X8_exact_18
          rw [en8, if_neg (by rw [iI_lit, kI_lt (by omega) (by omega)]; exact n3), em8, if_neg (by rw [iI_lit, kI_le (by omega) (by omega)]; exact m2)]
        · rw [a9 μ hR.2.1, if_neg (by rw [iI_lit, kI_lt (by omega) (by omega)]; exact n3), if_neg (by rw [iI_lit, kI_le (by omega) (by omega)]; exact m2)]
  · have x1 : x ≠ iI (-1) := fun q => hx (Or.inl q)
    have x2 : ∀ k, k < pN P → x ≠ kI k := fun k q1 q2 => hx (Or.inr ⟨k, q1, q2⟩)
    refine Good.bad (v := iI (-1)) hI ?_ ?_
    · unfold F_X8_exact
      rw [if_neg x1, bnd_eq (isOne_no hR.1 x2), if_pos k0_eq0]
    · unfold F_X9_exact
      rw [hR.2.1.n, bnd_eq (inP_no hn x1 x2), if_pos k0_eq0]
