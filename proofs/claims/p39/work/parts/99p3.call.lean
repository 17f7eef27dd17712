/-! p39, THE CLASS'S CALLS, of its own alone -/
theorem bnd_id {F : Option (Int32 × Mm)} : (bnd F fun v m => some (v, m)) = F := by
  cases F with
  | none => rfl
  | some x => rfl
/-- a party, its lot, its evening in deed -/
def Wk (μ : Mm) (P : Pa) (lot : Nat → Nat) (e : Ev) : Prop := PC μ P ∧ RC μ 23 e ∧ LotC μ 23 lot ∧ LotOk (pN P) P lot ∧ WfE (pN P) P lot e ∧ Z0 e
theorem PC.same {μ μ1 : Mm} {P : Pa} (h : PC μ P) (hf : ∀ a, CPc a → gI μ1 a = gI μ a) (hr : gR μ1 2 6 = gR μ 2 6) : PC μ1 P := by
  obtain ⟨⟨h1, h2, h3, h4, h5, h6⟩, ⟨lp, l1, l2, l3⟩, ho⟩ := h
  refine ⟨⟨?_, fun p k hp hk => ?_, fun p k hp hk => ?_, fun p hp => ?_, ?_, ?_⟩, ⟨lp, l1, by rw [hr]; exact l2, fun μ' q => l3 μ' (fun a ha j => ?_)⟩, ho⟩
  · rw [hf 2 (by unfold CPc; omega)]; exact h1
  · rw [hf 3 (by unfold CPc; omega)]; exact h2 p k hp hk
  · rw [hf 4 (by unfold CPc; omega)]; exact h3 p k hp hk
  · rw [hf 5 (by unfold CPc; omega)]; exact h4 p hp
  · rw [hf 2 (by unfold CPc; omega)]; exact h5
  · rw [hf 2 (by unfold CPc; omega)]; exact h6
  · rw [q a ha j, hf a (by unfold CPc; omega)]
theorem RC.same {μ μ1 : Mm} {t : Nat} {e : Ev} (h : RC μ t e) (hf : ∀ a, t ≤ a → a ≤ t + 4 → gI μ1 a = gI μ a) : RC μ1 t e := by
  obtain ⟨h0, ⟨h1, h2, h3⟩, h4, h5, h6, h7, h8, h9, h10⟩ := h
  refine ⟨h0, ⟨fun k hk => ?_, fun k hk => ?_, fun k hk => ?_⟩, ?_, ?_, ?_, ?_, ?_, ?_, ?_⟩
  · rw [hf _ (by omega) (by omega)]; exact h1 k hk
  · rw [hf _ (by omega) (by omega)]; exact h2 k hk
  · rw [hf _ (by omega) (by omega)]; exact h3 k hk
  all_goals (rw [hf _ (by omega) (by omega)]; assumption)
theorem LotC.same {μ μ1 : Mm} {t : Nat} {lot : Nat → Nat} (h : LotC μ t lot) (hf : gI μ1 (t + 1) = gI μ (t + 1)) : LotC μ1 t lot := ⟨fun j hj => by rw [hf]; exact h.1 j hj, h.2⟩
theorem Wk.same {μ μ1 : Mm} {P : Pa} {lot : Nat → Nat} {e : Ev} (h : Wk μ P lot e) (hf : ∀ a, CPc a ∨ (23 ≤ a ∧ a ≤ 27) → gI μ1 a = gI μ a) (hr : gR μ1 2 6 = gR μ 2 6) : Wk μ1 P lot e :=
  ⟨h.1.same (fun a q => hf a (Or.inl q)) hr, h.2.1.same (fun a h1 h2 => hf a (Or.inr (by omega))), h.2.2.1.same (hf 24 (Or.inr (by omega))), h.2.2.2⟩
theorem Wk.ex {μ μ1 : Mm} {P : Pa} {lot : Nat → Nat} {e : Ev} (h : Wk μ P lot e) (hx : Ex μ μ1) : Wk μ1 P lot e :=
  h.same (fun a q => (hx a (by unfold CPc at q; omega)).1) (by rw [(hx 2 (by omega)).2.2])
theorem Wk.frC {C : Nat → Nat → Prop} {μ μ1 : Mm} {P : Pa} {lot : Nat → Nat} {e : Ev} (h : Wk μ P lot e) (hf : FrC C μ μ1) (hs : ∀ a j, C a j → ¬ CPc a ∧ ¬ (23 ≤ a ∧ a ≤ 27)) : Wk μ1 P lot e :=
  h.same (fun a q => funext fun j => hf.1 a j (fun z => q.elim (hs a j z).1 (hs a j z).2)) (hf.2.2 2 6)
theorem k_person {μ : Mm} {P : Pa} {lot : Nat → Nat} {e : Ev} {w : Nat} (h : Wk μ P lot e) (h0 : eP e = 0) (n7 : pN P < 7) (hw : w ≤ 2) : ∃ m1, F_X8_person (kI w) μ = some (kI (pN P), m1) ∧ Wk m1 (addP P w) (addL P lot) e ∧ FrC (fun a _ => a = 2 ∨ a = 5 ∨ a = 24) μ m1 := by
  obtain ⟨hP, hR, hL, hl, hwf, hz⟩ := h
  have hbeg := hasBegun_eq hR hwf.1
  rw [if_neg (by omega)] at hbeg
  obtain ⟨z1, z2, z3⟩ := hz h0
  obtain ⟨m1, a1, a2, a3, a4, a5⟩ := welcome_eq (w := w) hP hR hL n7 hw
  refine ⟨m1, ?_, ⟨a2, a3, a4, addL_ok hl, wf_0 hwf h0 z1, hz⟩, a5⟩
  unfold F_X8_person
  simp (disch := omega) only [Nat.not_lt_zero, show w ≤ 2 by omega, hbeg, hP.n, n7, a1, iI_lit, kI_add, kI_mul, kI_eq, kI_lt, kI_le, kI_neg1, neg1_kI, neg1_lt0, neg1_0le, kO_none, kO_some, nm_eq, bnd_some, rz_0, rz_1, zb_0, zb_1, rd_kI, wrI_kI, wrL_kI, dvI_kI, rmI_kI, if_true, if_false, ite_true, ite_false, reduceIte, Nat.lt_irrefl, Nat.le_refl, not_true, not_false_iff, true_and, and_true, false_and, and_false, and_self, Bool.false_eq_true, eq_self, Decidable.not_not]
/-- the changes' row, whatever it holds -/
def ICh (μ : Mm) : Prop := ∃ d a E, d ≤ a ∧ a ≤ 40 ∧ CC μ d a E
theorem ICh.fr {C : Nat → Nat → Prop} {μ μ1 : Mm} (h : ICh μ) (hf : FrC C μ μ1) (hs : ∀ a j, C a j → ¬ (11 ≤ a ∧ a ≤ 15)) : ICh μ1 := by
  obtain ⟨d, a, E, h1, h2, h3⟩ := h
  exact ⟨d, a, E, h1, h2, h3.fr hf hs⟩
theorem k_mend {μ : Mm} {P : Pa} {lot : Nat → Nat} {e : Ev} {w num at9 v : Nat} (h : Wk μ P lot e) (hc : ICh μ) (hk : Kn (pN P) w num at9) (hv : vOk w v) : ∃ m1, F_X8_mend (kI num) (kI w) (kI v) μ = some (kI (valP P w num), m1) ∧ Wk m1 (setP P w num v) lot e ∧ ICh m1 ∧ FrC (fun a _ => (2 ≤ a ∧ a ≤ 5) ∨ (11 ≤ a ∧ a ≤ 15)) μ m1 := by
  obtain ⟨hP, hR, hL, hl, hwf, hz⟩ := h
  have hn := hP.n7
  have hw4 := (kn_num hn hk).1
  have kn := knows_yes hP hk
  have al := allows_yes (μ := μ) hw4 hv
  have va := value_eq hP hk
  have vok := val_ok hP.ok hk
  have v1 := (vOk_iff hw4).mp vok
  have v2 := (vOk_iff hw4).mp hv
  have hhi : hiV w ≤ 99 := by unfold hiV; split <;> (try split) <;> (try split) <;> (try split) <;> omega
  obtain ⟨d, a, E, c1, c2, c3⟩ := hc
  by_cases hs : valP P w num = v
  · subst hs
    obtain ⟨_, m1, b1, b2, b3⟩ := become4_eq hP hk hv
    have f : FrC (fun a _ => (2 ≤ a ∧ a ≤ 5) ∨ (11 ≤ a ∧ a ≤ 15)) μ m1 := b3.mono fun a j q => Or.inl q
    refine ⟨m1, ?_, ⟨b2, hR.frC b3 (fun a j q => by omega), hL.frC b3 (fun a j q => by omega), hl, hwf, hz⟩, ⟨d, a, E, c1, c2, c3.fr b3 (fun a j q => by omega)⟩, f⟩
    unfold F_X8_mend
    rw [bnd_eq kn, if_neg (by rw [iI_lit, kI_eq (by omega) (by omega)]; omega), bnd_eq al, if_neg (by rw [iI_lit, kI_eq (by omega) (by omega)]; omega), bnd_eq va, bnd_eq note_same, bnd_eq b1]
  · obtain ⟨_, m1, n1, n2, n3⟩ := note_eq (num := num) (w := w) (at9 := at9) c3 c1 c2 (show valP P w num < 1000 by omega) (show v < 1000 by omega) hs
    have hC1 : PC m1 P := hP.frC n3 (fun a j q => by unfold CPc; omega)
    obtain ⟨_, m2, b1, b2, b3⟩ := become4_eq hC1 hk hv
    have f2 : FrC (fun a _ => (2 ≤ a ∧ a ≤ 5) ∨ (11 ≤ a ∧ a ≤ 15)) μ m2 := (n3.mono fun a j q => Or.inr q).trans (b3.mono fun a j q => Or.inl q)
    have hnd : nD d + 1 ≤ 40 := by unfold nD; split <;> omega
    refine ⟨m2, ?_, ⟨b2, hR.frC f2 (fun a j q => by omega), hL.frC f2 (fun a j q => by omega), hl, hwf, hz⟩, ⟨nD d + 1, nD d + 1, _, Nat.le_refl _, hnd, n2.fr b3 (fun a j q => by omega)⟩, f2⟩
    unfold F_X8_mend
    rw [bnd_eq kn, if_neg (by rw [iI_lit, kI_eq (by omega) (by omega)]; omega), bnd_eq al, if_neg (by rw [iI_lit, kI_eq (by omega) (by omega)]; omega), bnd_eq va, bnd_eq n1, bnd_eq b1]
theorem k_of {μ : Mm} {P : Pa} {w num at9 : Nat} (hP : PC μ P) (hk : Kn (pN P) w num at9) : F_X8_of (kI num) (kI w) μ = some (kI (valP P w num), μ) := by
  have hn := hP.n7
  have := (kn_num hn hk).1
  unfold F_X8_of
  rw [if_neg (by rw [iI_lit, kI_lt (by omega) (by omega)]; omega), if_neg (by rw [iI_lit, kI_lt (by omega) (by omega)]; omega), bnd_eq (knows_yes hP hk), if_neg (by rw [iI_lit, kI_eq (by omega) (by omega)]; omega), bnd_eq (value_eq hP hk)]
theorem k_of1 {μ : Mm} {P : Pa} {k z : Nat} (hP : PC μ P) (hk : k < pN P) (z4 : z < 4) {r : Option (Int32 × Mm)} (h : [rd 7 (kI k) fun j3 => some (gI μ 24 j3, μ), rd 7 (kI k) fun j4 => (if iI 0 ≤ gI μ 25 j4 then rd 7 (kI k) fun j5 => some (gI μ 25 j5, μ) else some (iI (-2), μ)), rd 7 (kI k) fun j6 => some (gI μ 27 j6, μ), (if kI k < gI μ 23 4 then some (iI 0, μ) else some (iI 1, μ))].getD z (some (iI (-1), μ)) = r) : F_X8_of (kI k) (kI (10 + z)) μ = r := by
  have hn := hP.n7
  have i1 := isOne_yes hP hk
  unfold F_X8_of
  rw [if_neg (by rw [iI_lit, kI_lt (by omega) (by omega)]; omega), if_pos (by rw [iI_lit, kI_lt (by omega) (by omega)]; omega)]
  unfold F_X8_of_35
  rw [bnd_eq i1, if_neg (by rw [iI_lit, kI_eq (by omega) (by omega)]; omega), tsw10_at z4]
  exact h
theorem k_of10 {μ : Mm} {P : Pa} {lot : Nat → Nat} {k : Nat} (hP : PC μ P) (hL : LotC μ 23 lot) (hk : k < pN P) : F_X8_of (kI k) (iI 10) μ = some (kI (lot k), μ) := by
  have hn := hP.n7
  have l1 := hL.1 k (by omega)
  refine k_of1 (z := 0) hP hk (by omega) ?_
  simp (disch := omega) only [List.getD_cons_zero, l1, iI_lit, kI_add, kI_mul, kI_eq, kI_lt, kI_le, kI_neg1, neg1_kI, neg1_lt0, neg1_0le, kO_none, kO_some, nm_eq, bnd_some, rz_0, rz_1, zb_0, zb_1, rd_kI, wrI_kI, wrL_kI, dvI_kI, rmI_kI, if_true, if_false, ite_true, ite_false, reduceIte, Nat.lt_irrefl, Nat.le_refl, not_true, not_false_iff, true_and, and_true, false_and, and_false, and_self, Bool.false_eq_true, eq_self, Decidable.not_not]
theorem k_of11 {μ : Mm} {P : Pa} {lot : Nat → Nat} {e : Ev} {k : Nat} (h : Wk μ P lot e) (hk : k < pN P) : F_X8_of (kI k) (iI 11) μ = some (cI (eH e k), μ) := by
  have hn := h.1.n7
  have h1 := h.2.1.2.1.2.2 k (by omega)
  refine k_of1 (z := 1) h.1 hk (by omega) ?_
  simp only [List.getD_cons_zero, List.getD_cons_succ]
  rw [rd_kI (by omega) (by omega), rd_kI (by omega) (by omega), h1]
  cases hx : eH e k with
  | none => rfl
  | some j =>
    have := h.2.2.2.2.1.1.2.2.2.1 k j hx
    simp (disch := omega) only [cI_some, Nat.zero_le, iI_lit, kI_add, kI_mul, kI_eq, kI_lt, kI_le, kI_neg1, neg1_kI, neg1_lt0, neg1_0le, kO_none, kO_some, nm_eq, bnd_some, rz_0, rz_1, zb_0, zb_1, rd_kI, wrI_kI, wrL_kI, dvI_kI, rmI_kI, if_true, if_false, ite_true, ite_false, reduceIte, Nat.lt_irrefl, Nat.le_refl, not_true, not_false_iff, true_and, and_true, false_and, and_false, and_self, Bool.false_eq_true, eq_self, Decidable.not_not]
theorem k_of12 {μ : Mm} {P : Pa} {lot : Nat → Nat} {e : Ev} {k : Nat} (h : Wk μ P lot e) (hk : k < pN P) : F_X8_of (kI k) (iI 12) μ = some (kI (eT e k), μ) := by
  have hn := h.1.n7
  have t1 := h.2.1.2.1.2.1 k (by omega)
  refine k_of1 (z := 2) h.1 hk (by omega) ?_
  simp (disch := omega) only [List.getD_cons_zero, List.getD_cons_succ, t1, iI_lit, kI_add, kI_mul, kI_eq, kI_lt, kI_le, kI_neg1, neg1_kI, neg1_lt0, neg1_0le, kO_none, kO_some, nm_eq, bnd_some, rz_0, rz_1, zb_0, zb_1, rd_kI, wrI_kI, wrL_kI, dvI_kI, rmI_kI, if_true, if_false, ite_true, ite_false, reduceIte, Nat.lt_irrefl, Nat.le_refl, not_true, not_false_iff, true_and, and_true, false_and, and_false, and_self, Bool.false_eq_true, eq_self, Decidable.not_not]
theorem k_of13 {μ : Mm} {P : Pa} {lot : Nat → Nat} {e : Ev} {k : Nat} (h : Wk μ P lot e) (hk : k < pN P) (ho : k < eP e) : F_X8_of (kI k) (iI 13) μ = some (kI 0, μ) := by
  have hn := h.1.n7
  have o1 := h.2.1.2.2.1
  have := h.2.2.2.2.1.1.1
  refine k_of1 (z := 3) h.1 hk (by omega) ?_
  simp only [List.getD_cons_zero, List.getD_cons_succ]
  rw [o1, if_pos (by rw [kI_lt (by omega) (by omega)]; exact ho)]
  rfl
theorem k_swap {μ : Mm} {P : Pa} {lot : Nat → Nat} {e : Ev} {p k : Nat} (h : Wk μ P lot e) (h0 : eP e = 0) (hp : p < pN P) (hk : k < pN P) (hpk : p ≠ k) : ∃ m1, F_X8_swap (kI (10 * p + k)) μ = some (kI (lot k), m1) ∧ Wk m1 P (swL lot p k) e ∧ FrC (fun a _ => a = 24) μ m1 := by
  obtain ⟨hP, hR, hL, hl, hwf, hz⟩ := h
  have hn := hP.n7
  have hbeg := hasBegun_eq hR hwf.1
  rw [if_neg (by omega)] at hbeg
  obtain ⟨z1, z2, z3⟩ := hz h0
  have i1 := isPair_yes hP hp hk
  have d1 : (10 * p + k) / 10 = p := by omega
  have d2 : (10 * p + k) % 10 = k := by omega
  have c1 : F_X2_changePlaces 23 (kI p) (kI k) μ = some ((), pI (pI μ 24 p (kI (lot k))) 24 k (kI (lot p))) := by
    have l1 := hL.1 p (by omega)
    have l2 := hL.1 k (by omega)
    unfold F_X2_changePlaces
    rw [if_pos sh23]
    simp (disch := omega) only [l1, l2, iI_lit, kI_add, kI_mul, kI_eq, kI_lt, kI_le, kI_neg1, neg1_kI, neg1_lt0, neg1_0le, kO_none, kO_some, nm_eq, bnd_some, rz_0, rz_1, zb_0, zb_1, rd_kI, wrI_kI, wrL_kI, dvI_kI, rmI_kI, if_true, if_false, ite_true, ite_false, reduceIte, Nat.lt_irrefl, Nat.le_refl, not_true, not_false_iff, true_and, and_true, false_and, and_false, and_self, Bool.false_eq_true, eq_self, Decidable.not_not]
  have s1 := swapM (μ := μ) (a := 24) (i := p) (j := k) (m := 7) hL.1 (by omega) (by omega)
  have f1 : FrC (fun a _ => a = 24) μ (pI (pI μ 24 p (kI (lot k))) 24 k (kI (lot p))) := (FrC.put (C := fun a _ => a = 24) FrC.refl rfl).put rfl
  have hL1 : LotC (pI (pI μ 24 p (kI (lot k))) 24 k (kI (lot p))) 23 (swL lot p k) := ⟨s1, fun j hj => by
    rw [swL_at]
    split
    · exact hL.2 p (by omega)
    · split
      · exact hL.2 k (by omega)
      · exact hL.2 j hj⟩
  have hRC1 := hR.frS f1 (fun a j q => by unfold SE; omega)
  have hPC1 : PC (pI (pI μ 24 p (kI (lot k))) 24 k (kI (lot p))) P := hP.frC f1 (fun a j q => by unfold CPc; omega)
  generalize hm1 : pI (pI μ 24 p (kI (lot k))) 24 k (kI (lot p)) = m1 at c1 s1 f1 hL1 hRC1 hPC1
  have q1 := s1 p (by omega)
  have q2 : swL lot p k p = lot k := by rw [swL_at, if_neg hpk, if_pos rfl]
  rw [q2] at q1
  refine ⟨m1, ?_, ⟨hPC1, hRC1, hL1, swL_ok hl hp hk, wf_0 hwf h0 z1, hz⟩, f1⟩
  unfold F_X8_swap
  rw [bnd_eq i1]
  simp (disch := omega) only [d1, d2, hpk, hbeg, c1, q1, Nat.one_ne_zero, iI_lit, kI_add, kI_mul, kI_eq, kI_lt, kI_le, kI_neg1, neg1_kI, neg1_lt0, neg1_0le, kO_none, kO_some, nm_eq, bnd_some, rz_0, rz_1, zb_0, zb_1, rd_kI, wrI_kI, wrL_kI, dvI_kI, rmI_kI, if_true, if_false, ite_true, ite_false, reduceIte, Nat.lt_irrefl, Nat.le_refl, not_true, not_false_iff, true_and, and_true, false_and, and_false, and_self, Bool.false_eq_true, eq_self, Decidable.not_not]
/-- the tape -/
def TpC (μ : Mm) (l : Nat) (b : Nat → Nat) : Prop := gI μ 16 1 = kI l ∧ ∀ i, i < l → gI μ 17 i = kI (b i)
theorem k_feed {μ : Mm} {l c : Nat} {b : Nat → Nat} (h : TpC μ l b) (hl : l < 120) (hc : c ≤ 255) : F_X8_feed (kI c) μ = some (kI (l + 1), pI (pI μ 17 l (kI c)) 16 1 (kI (l + 1))) ∧ TpC (pI (pI μ 17 l (kI c)) 16 1 (kI (l + 1))) (l + 1) (up b l c) ∧ FrC (fun a j => (a = 16 ∧ j = 1) ∨ a = 17) μ (pI (pI μ 17 l (kI c)) 16 1 (kI (l + 1))) := by
  obtain ⟨v1, -⟩ := feed_val hc
  obtain ⟨h1, h2⟩ := h
  refine ⟨?_, ⟨by simp [gI_pI], fun i hi => ?_⟩, (FrC.put (C := fun a j => (a = 16 ∧ j = 1) ∨ a = 17) FrC.refl (Or.inr rfl)).put (Or.inl ⟨rfl, rfl⟩)⟩
  · unfold F_X8_feed F_X6_append
    simp (disch := omega) only [h1, hl, v1, Nat.not_lt_zero, show c ≤ 255 by omega, gI_pI, show ¬ (16 : Nat) = 17 by omega, Nat.one_ne_zero, iI_lit, kI_add, kI_mul, kI_eq, kI_lt, kI_le, kI_neg1, neg1_kI, neg1_lt0, neg1_0le, kO_none, kO_some, nm_eq, bnd_some, rz_0, rz_1, zb_0, zb_1, rd_kI, wrI_kI, wrL_kI, dvI_kI, rmI_kI, if_true, if_false, ite_true, ite_false, reduceIte, Nat.lt_irrefl, Nat.le_refl, not_true, not_false_iff, true_and, and_true, false_and, and_false, and_self, Bool.false_eq_true, eq_self, Decidable.not_not]
  · by_cases z : i = l
    · rw [z, up_at]; simp [gI_pI]
    · rw [up_ne z]; simp [gI_pI, z, h2 i (by omega)]
theorem k_count1 {μ : Mm} {P : Pa} {lot : Nat → Nat} {e : Ev} (h : Wk μ P lot e) : F_X8_count (iI 1) μ = some (kI (pN P - eP e), μ) := by
  have hle := h.2.2.2.2.1.2.1
  have e1 := h.2.1.2.2.1
  unfold F_X8_count
  rw [iI_lit, tsw0_at (by show _ < 7; omega) (by omega), ← kI_sub hle, ← h.1.n, ← e1]
  rfl
theorem k_count2 {μ : Mm} {P : Pa} {lot : Nat → Nat} {e : Ev} (h : Wk μ P lot e) : F_X8_count (iI 2) μ = some (kI (cS P e (pN P) 0), μ) := by
  have e1 := countSafe_eq h.1 h.2.1 h.2.2.2.2.1.1
  unfold F_X8_count
  rw [iI_lit, tsw0_at (by show _ < 7; omega) (by omega)]
  simp only [List.getD_cons_zero, List.getD_cons_succ]
  rw [bnd_eq e1]
theorem k_count3 {μ : Mm} {l : Nat} (h : gI μ 16 1 = kI l) : F_X8_count (iI 3) μ = some (kI l, μ) := by
  unfold F_X8_count
  rw [iI_lit, tsw0_at (by show _ < 7; omega) (by omega), ← h]
  rfl
/-! in thought: the cells that it touches -/
def Th (μ μ1 : Mm) : Prop := (∀ a j, ¬ CT a j → a ≠ 3 → gI μ1 a j = gI μ a j) ∧ (∀ a j, gL μ1 a j = gL μ a j) ∧ ∀ a j, a ≠ 33 → gR μ1 a j = gR μ a j
theorem Th.refl {μ : Mm} : Th μ μ := ⟨fun _ _ _ _ => rfl, fun _ _ => rfl, fun _ _ _ => rfl⟩
theorem Th.trans {μ μ1 μ2 : Mm} (h : Th μ μ1) (k : Th μ1 μ2) : Th μ μ2 := ⟨fun a j h1 h2 => (k.1 a j h1 h2).trans (h.1 a j h1 h2), fun a j => (k.2.1 a j).trans (h.2.1 a j), fun a j h1 => (k.2.2 a j h1).trans (h.2.2 a j h1)⟩
theorem Th.of {μ μ1 : Mm} (h : FrC CT μ μ1) : Th μ μ1 := ⟨fun a j h1 _ => h.1 a j h1, h.2.1, fun a j _ => h.2.2 a j⟩
theorem Wk.th {μ μ1 : Mm} {P : Pa} {lot : Nat → Nat} {e : Ev} (h : Wk μ P lot e) (hf : FrC CT μ μ1) : Wk μ1 P lot e := h.frC hf (fun a j q => by unfold CT SL CX9 at q; unfold CPc; omega)
theorem k_th {μ : Mm} {P : Pa} {lot : Nat → Nat} {e : Ev} (h : Wk μ P lot e) (h0 : 0 < pN P) : ∃ m1, F_X7_eveningBy 24 μ = some (50, m1) ∧ RC m1 50 (evE P lot (kI 0) (kI 0)) ∧ FrC CT μ m1 ∧ Wk m1 P lot e := by
  obtain ⟨_, m1, a1, rfl, ⟨w, g, a2⟩, a3⟩ := eveningBy_eq h.1 (r := 24) sh24 (by omega) h.2.2.1.1 h.2.2.1.2 h.2.2.2.1
  have f : FrC CT μ m1 := a3.c.mono (fun a j q => by unfold SA at q; unfold CT SL at *; omega)
  rw [ev_wg h0 w g (kI 0) (kI 0)] at a2
  exact ⟨m1, a1, a2, f, h.th f⟩
theorem k_evening {μ : Mm} {P : Pa} {lot : Nat → Nat} {e : Ev} {n q : Nat} (h : Wk μ P lot e) (h0 : 0 < pN P) (hq : q ≤ 3) (hnq : ((q = 1 ∨ q = 2) ∧ n = 0) ∨ ((q = 0 ∨ q = 3) ∧ n < pN P)) : ∃ m1, F_X8_evening (kI n) (kI q) μ = some (evA P (evE P lot (kI 0) (kI 0)) n q, m1) ∧ Wk m1 P lot e ∧ Th μ m1 := by
  have hn := h.1.n7
  obtain ⟨m1, a1, a2, a3, a4⟩ := k_th h h0
  obtain ⟨hw, he, hf⟩ := ev_ok h.1.ok h.2.2.2.1 (kI 0) (kI 0)
  have c := ev8_eq (n := n) (q := q) a4.1 a1 a2 hw.1 hf hq (by omega)
  refine ⟨m1, ?_, a4, Th.of a3⟩
  rcases hnq with ⟨z, rfl⟩ | ⟨hq', n1⟩
  · unfold F_X8_evening F_X8_evening_14
    simp (disch := omega) only [c, show ¬ q = 0 by omega, show ¬ q = 3 by omega, show ¬ 3 < q by omega, Nat.not_lt_zero, iI_lit, kI_add, kI_mul, kI_eq, kI_lt, kI_le, kI_neg1, neg1_kI, neg1_lt0, neg1_0le, kO_none, kO_some, nm_eq, bnd_some, rz_0, rz_1, zb_0, zb_1, rd_kI, wrI_kI, wrL_kI, dvI_kI, rmI_kI, if_true, if_false, ite_true, ite_false, reduceIte, Nat.lt_irrefl, Nat.le_refl, not_true, not_false_iff, true_and, and_true, false_and, and_false, and_self, Bool.false_eq_true, eq_self, Decidable.not_not]
  · have i1 := isOne_yes h.1 n1
    unfold F_X8_evening F_X8_evening_9 F_X8_evening_14
    rcases hq' with rfl | rfl
    · simp (disch := omega) only [c, i1, Nat.not_lt_zero, Nat.one_ne_zero, iI_lit, kI_add, kI_mul, kI_eq, kI_lt, kI_le, kI_neg1, neg1_kI, neg1_lt0, neg1_0le, kO_none, kO_some, nm_eq, bnd_some, rz_0, rz_1, zb_0, zb_1, rd_kI, wrI_kI, wrL_kI, dvI_kI, rmI_kI, if_true, if_false, ite_true, ite_false, reduceIte, Nat.lt_irrefl, Nat.le_refl, not_true, not_false_iff, true_and, and_true, false_and, and_false, and_self, Bool.false_eq_true, eq_self, Decidable.not_not]
    · simp (disch := omega) only [c, i1, Nat.not_lt_zero, Nat.one_ne_zero, ite_self, iI_lit, kI_add, kI_mul, kI_eq, kI_lt, kI_le, kI_neg1, neg1_kI, neg1_lt0, neg1_0le, kO_none, kO_some, nm_eq, bnd_some, rz_0, rz_1, zb_0, zb_1, rd_kI, wrI_kI, wrL_kI, dvI_kI, rmI_kI, if_true, if_false, ite_true, ite_false, reduceIte, Nat.lt_irrefl, Nat.le_refl, not_true, not_false_iff, true_and, and_true, false_and, and_false, and_self, Bool.false_eq_true, eq_self, Decidable.not_not]
theorem k_pairs {μ : Mm} {P : Pa} {lot : Nat → Nat} {e : Ev} (h : Wk μ P lot e) (h0 : 0 < pN P) : ∃ m1, F_X8_pairs μ = some (kI (prS P (evE P lot (kI 0) (kI 0))), m1) ∧ Wk m1 P lot e ∧ Th μ m1 := by
  obtain ⟨m1, a1, a2, a3, a4⟩ := k_th h h0
  have hn := h.1.n7
  obtain ⟨hw, he, hf⟩ := ev_ok h.1.ok h.2.2.2.1 (kI 0) (kI 0)
  have q8 := prs8_out a4.1 a2 hf (pN P) 0 0 FU (by omega) (by unfold FU; omega)
  rw [Nat.zero_add] at q8
  refine ⟨m1, ?_, a4, Th.of a3⟩
  unfold F_X8_pairs F_X7_pairsWhoWouldChange
  rw [if_pos sh24, bnd_eq a1, gdS_yes sh50, iI_lit, bnd_eq q8]
  rfl
theorem k_best1 {μ : Mm} {P : Pa} {lot : Nat → Nat} {e : Ev} (h : Wk μ P lot e) : ∃ m1, F_X8_best (iI (-1)) μ = some (kI (Mx P (pN P) 0 0), m1) ∧ Wk m1 P lot e ∧ Th μ m1 := by
  have hn := h.1.n7
  have h2 := p2_n hn
  obtain ⟨m1, a1, a2, a3⟩ := fillMost_eq h.1
  have f1 : FrC CT μ m1 := a3.c.mono fun a j q => Or.inl (by omega)
  have p0 : pc 0 = 0 := by decide
  refine ⟨m1, ?_, h.th f1, Th.of f1⟩
  have e0 := a2 0 (by omega) (by omega)
  rw [p0] at e0
  unfold F_X8_best F_X8_best_18 F_X7_bestParting
  rw [if_pos rfl, bnd_eq a1, if_pos rfl, iI_lit, rd_kI (by omega) (by omega), bnd_some, e0]
  rfl
theorem k_best {μ : Mm} {P : Pa} {lot : Nat → Nat} {e : Ev} {k : Nat} (h : Wk μ P lot e) (hk : k < pN P) : ∃ m1, F_X8_best (kI k) μ = some (kI (gr P (pN P) 0 0 k), m1) ∧ Wk m1 P lot e ∧ Th μ m1 := by
  have hn := h.1.n7
  have h2 := p2_n hn
  obtain ⟨m1, a1, a2, a3⟩ := fillMost_eq h.1
  have f1 : FrC CT μ m1 := a3.c.mono fun a j q => Or.inl (by omega)
  have p0 : pc 0 = 0 := by decide
  have nm1 : ¬ kI k = iI (-1) := by rw [kI_iI, iI_eq (by omega) (by omega)]; omega
  have w1 := h.th f1
  refine ⟨m1, ?_, w1, Th.of f1⟩
  have l8 := best8_loop w1.1 a2 hk (pN P) 0 0 (iI (-1)) FU (by omega) (by unfold FU; omega) (by omega) p0 (by omega)
  unfold F_X8_best F_X8_best_18 F_X7_bestParting
  rw [if_neg nm1, bnd_eq (isOne_yes h.1 hk), if_neg k1_ne0, bnd_eq a1, if_neg nm1, bnd_id]
  exact l8
