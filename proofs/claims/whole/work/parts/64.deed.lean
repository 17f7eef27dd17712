/-! IN DEED -/
def CD (a j : Nat) : Prop := (23 ≤ a ∧ a ≤ 27) ∨ SL a ∨ (a = 113 ∧ 15 ≤ j ∧ j ≤ 19) ∨ a = 117 ∨ ((a = 118 ∨ a = 119) ∧ j < 7) ∨ (120 ≤ a ∧ a ≤ 124 ∧ j = 0) ∨ a = 135 ∨ a = 136
/-- all but the deed, kept -/
def Rest (μ : Mm) (P : Pa) : Prop := PC μ P ∧ PR μ P ∧ IChg μ (pN P) ∧ ITape μ ∧ ILaw μ ∧ IImg μ ∧ IBod μ ∧ IShe μ
theorem Inv.split {μ : Mm} (h : Inv μ) : ∃ P lot e, Rest μ P ∧ IDeed μ P lot e := by
  obtain ⟨P, lot, e, h1, h2, h3, h4, h5, h6, h7, h8, h9⟩ := h
  exact ⟨P, lot, e, ⟨h1, h2, h4, h5, h6, h7, h8, h9⟩, h3⟩
theorem Inv.join {μ : Mm} {P : Pa} {lot : Nat → Nat} {e : Ev} (h : Rest μ P) (hd : IDeed μ P lot e) : Inv μ := by
  obtain ⟨h1, h2, h4, h5, h6, h7, h8, h9⟩ := h
  exact ⟨P, lot, e, h1, h2, hd, h4, h5, h6, h7, h8, h9⟩
theorem Rest.fr {C : Nat → Nat → Prop} {μ μ1 : Mm} {P : Pa} (h : Rest μ P) (hf : FrC C μ μ1) (hs : ∀ a j, C a j → CD a j) : Rest μ1 P := by
  obtain ⟨h1, h2, h4, h5, h6, h7, h8, h9⟩ := h
  refine ⟨h1.frC hf (fun a j z q => ?_), h2.fr hf (fun a j z q => ?_), h4.fr hf (fun a j z q => ?_), h5.fr hf (fun a j z q => ?_), h6.fr hf, h7.fr hf (fun a j z q => ?_), h8.fr hf (fun a j z q => ?_), h9.fr hf (fun a j z q => ?_)⟩
  all_goals (have z := hs a j z; unfold CD SL at z)
  · unfold CPc at q; omega
  · unfold CP at q; omega
  · unfold CChg at q; omega
  · unfold CTape at q; omega
  · unfold CImg at q; omega
  · unfold CBod at q; omega
  · unfold CShe at q; omega
def Led (μ : Mm) (e : Ev) : Prop := gI μ 113 15 = kI (tot e) ∧ gI μ 113 19 = eN e ∧ (eN e = kI 0 ∨ (gI μ 113 17 = eW e ∧ gI μ 113 18 = eG e))
theorem lead_eq {μ : Mm} {e e' : Ev} {p k : Nat} (h : Led μ e) (h1 : tot e' = tot e + 1) (h2 : eN e' = eN e + kI 1) (h3 : eW e' = kI p) (h4 : eG e' = kI k) : Wp (F_X9_lead (kI p) (kI k) μ) fun _ μ' => Led μ' e' ∧ FrC (fun a j => a = 113 ∧ (j = 15 ∨ j = 17 ∨ j = 18 ∨ j = 19)) μ μ' := by
  refine ⟨(), pI (pI (pI (pI μ 113 17 (kI p)) 113 18 (kI k)) 113 19 (gI μ 113 19 + kI 1)) 113 15 (gI μ 113 15 + kI 1), ?_, ⟨?_, ?_, Or.inr ⟨?_, ?_⟩⟩, (((FrC.refl.put (by omega)).put (by omega)).put (by omega)).put (by omega)⟩
  · unfold F_X9_lead
    simp [nm_eq, gI_pI, iI_lit]
  · simp [gI_pI, h.1, kI_add, h1]
  · simp [gI_pI, h.2.1, h2]
  · simp [gI_pI, h3]
  · simp [gI_pI, h4]
theorem tot_op {m p : Nat} {P : Pa} {lot : Nat → Nat} {e : Ev} (h : WfE m P lot e) : tot (opE p e) = tot e + 1 := by
  show eP e + 1 + _ = eP e + _ + 1
  show eP e + 1 + (eT e 0 + eT e 1 + eT e 2 + eT e 3 + eT e 4 + eT e 5 + eT e 6) = eP e + (eT e 0 + eT e 1 + eT e 2 + eT e 3 + eT e 4 + eT e 5 + eT e 6) + 1
  omega
theorem sum_up {T : Nat → Nat} {k : Nat} (hk : k < 7) : up T k (T k + 1) 0 + up T k (T k + 1) 1 + up T k (T k + 1) 2 + up T k (T k + 1) 3 + up T k (T k + 1) 4 + up T k (T k + 1) 5 + up T k (T k + 1) 6 = T 0 + T 1 + T 2 + T 3 + T 4 + T 5 + T 6 + 1 := by
  have : k = 0 ∨ k = 1 ∨ k = 2 ∨ k = 3 ∨ k = 4 ∨ k = 5 ∨ k = 6 := by omega
  rcases this with rfl | rfl | rfl | rfl | rfl | rfl | rfl <;> simp [up] <;> omega
theorem tot_rb {p k q : Nat} {e : Ev} (hk : k < 7) : tot (rbE p k q e) = tot e + 1 := by
  have := sum_up (T := eT e) hk
  show eP e + (up (eT e) k (eT e k + 1) 0 + up (eT e) k (eT e k + 1) 1 + up (eT e) k (eT e k + 1) 2 + up (eT e) k (eT e k + 1) 3 + up (eT e) k (eT e k + 1) 4 + up (eT e) k (eT e k + 1) 5 + up (eT e) k (eT e k + 1) 6) = eP e + (eT e 0 + eT e 1 + eT e 2 + eT e 3 + eT e 4 + eT e 5 + eT e 6) + 1
  omega
theorem tot_le {m : Nat} {P : Pa} {lot : Nat → Nat} {e : Ev} (h : WfE m P lot e) : tot e ≤ 28 := by
  have hb := h.1
  have h0 := hb.1
  have h1 := hb.2.1 0
  have h2 := hb.2.1 1
  have h3 := hb.2.1 2
  have h4 := hb.2.1 3
  have h5 := hb.2.1 4
  have h6 := hb.2.1 5
  have h7 := hb.2.1 6
  unfold tot
  omega
theorem tot_0 {m : Nat} {P : Pa} {lot : Nat → Nat} {e : Ev} (h : WfE m P lot e) : (tot e ≤ 0) ↔ eP e = 0 := by
  constructor
  · intro q; unfold tot at q; omega
  · intro q
    have z : ∀ k, eT e k = 0 := fun k => (h.2.2.2.1 k (by omega)).2
    unfold tot
    rw [z 0, z 1, z 2, z 3, z 4, z 5, z 6]
    omega
theorem cu_lt {P : Pa} {lot : Nat → Nat} {e : Ev} {p : Nat} (h : WfE (pN P) P lot e) (hc : cu P lot e = some p) : eP e < pN P := by
  unfold cu at hc
  cases q : eR e with
  | some r => exact (h.2.2.2.2.2.2.1 r q).1
  | none =>
    rw [q] at hc
    have hc : (if eP e < pN P then some (lot (eP e)) else none) = some p := hc
    by_cases z : eP e < pN P
    · exact z
    · rw [if_neg z] at hc; cases hc
theorem cu_none {P : Pa} {lot : Nat → Nat} {e : Ev} (h : WfE (pN P) P lot e) (hc : cu P lot e = none) : eP e = pN P := by
  have := h.2.1
  unfold cu at hc
  cases q : eR e with
  | some r => rw [q] at hc; cases hc
  | none =>
    rw [q] at hc
    have hc : (if eP e < pN P then some (lot (eP e)) else none) = none := hc
    by_cases z : eP e < pN P
    · rw [if_pos z] at hc; cases hc
    · omega
theorem cI_lt0 : (cI none < kI 0) ↔ True := by
  rw [cI_none, Int32.lt_iff_toInt_lt, iI_toInt (z := -2) (by omega) (by omega), kI_toInt (by omega)]; simp
theorem cI_0le : (kI 0 ≤ cI none) ↔ False := by
  rw [cI_none, Int32.le_iff_toInt_le, iI_toInt (z := -2) (by omega) (by omega), kI_toInt (by omega)]; simp
theorem IDeed.led {μ : Mm} {P : Pa} {lot : Nat → Nat} {e : Ev} (h : IDeed μ P lot e) : Led μ e := by
  obtain ⟨h1, h2, h3, h4, h5, h6, h7, h8, h9, h10⟩ := h
  exact ⟨h7, h9, h10⟩
/-- the class has gone its step, the reference too -/
theorem IDeed.step {μ μ1 μ2 : Mm} {P : Pa} {lot : Nat → Nat} {e e' : Ev} (h : IDeed μ P lot e) (hn : pN P ≤ 7) (a1 : RC μ1 23 e') (a2 : FrC (fun a _ => SP 23 a) μ μ1) (b1 : RR μ2 0 P lot e') (b2 : Led μ2 e') (b3 : FrC (fun a j => CX9 0 a j ∨ (a = 113 ∧ (j = 15 ∨ j = 17 ∨ j = 18 ∨ j = 19))) μ1 μ2) (hw : WfE (pN P) P lot e') (hz : Z0 e') (hA : eA e' = eA e) : IDeed μ2 P lot e' ∧ FrC CD μ μ2 := by
  obtain ⟨h1, h2, h3, h4, h5, h6, h7, h8, h9, h10⟩ := h
  have f1 : FrC CD μ μ1 := a2.mono (fun a j q => by
    rcases q with q | q
    · unfold SE at q; unfold CD; omega
    · exact Or.inr (Or.inl q))
  have f2 : FrC CD μ1 μ2 := b3.mono (fun a j q => by unfold CX9 at q; unfold CD; omega)
  have f : FrC CD μ μ2 := f1.trans f2
  refine ⟨⟨a1.frC b3 (fun a j q => by unfold CX9 at q; omega), ?_, h3, hw, hz, b1, b2.1, ?_, b2.2.1, b2.2.2⟩, f⟩
  · exact (h2.frC a2 (fun a j q => by unfold SP SE SL at q; omega)).frC b3 (fun a j q => by unfold CX9 at q; omega)
  · rw [b3.1 113 16 (by unfold CX9; omega), a2.1 113 16 (by unfold SP SE SL; omega), h8, hA]
theorem g_turn : Good (F_X8_turn) (F_X9_turn) := by
  intro μ hI
  obtain ⟨P, lot, e, hR, hD⟩ := hI.split
  have hn := hR.1.n7
  have e1 := whose_eq hR.1 hD.1 hD.2.1 hD.2.2.2.1.1
  have e4 := hD.2.2.2.2.2.1.2.2.2.2.1
  refine Good.bad (v := cI (cu P lot e)) hI ?_ ?_
  · unfold F_X8_turn
    rw [e1, bnd_some]
  · unfold F_X9_turn
    cases hc : cu P lot e with
    | none =>
      rw [hc] at e4
      simp (disch := omega) only [e4, cI_none, iI_lit, kI_add, kI_mul, kI_eq, kI_lt, kI_le, kI_neg1, neg1_kI, neg1_lt0, neg1_0le, kO_none, kO_some, nm_eq, bnd_some, rz_0, rz_1, zb_0, zb_1, rd_kI, wrI_kI, wrL_kI, dvI_kI, rmI_kI, if_true, if_false, ite_true, ite_false, reduceIte, Nat.lt_irrefl, Nat.le_refl, not_true, not_false_iff, true_and, and_true, false_and, and_false, and_self, Bool.false_eq_true, eq_self, Decidable.not_not]
    | some c =>
      rw [hc] at e4
      have := (cu_free hR.1.ok hD.2.2.1 hD.2.2.2.1 (cu_lt hD.2.2.2.1 hc) hc).1
      simp (disch := omega) only [e4, cI_some, Nat.zero_le, iI_lit, kI_add, kI_mul, kI_eq, kI_lt, kI_le, kI_neg1, neg1_kI, neg1_lt0, neg1_0le, kO_none, kO_some, nm_eq, bnd_some, rz_0, rz_1, zb_0, zb_1, rd_kI, wrI_kI, wrL_kI, dvI_kI, rmI_kI, if_true, if_false, ite_true, ite_false, reduceIte, Nat.lt_irrefl, Nat.le_refl, not_true, not_false_iff, true_and, and_true, false_and, and_false, and_self, Bool.false_eq_true, eq_self, Decidable.not_not]
theorem g_led (x : Int32) : Good (F_X8_led x) (F_X9_led x) := by
  intro μ hI
  obtain ⟨P, lot, e, hR, hD⟩ := hI.split
  obtain ⟨h1, h2, h3, h4, h5, h6, h7, h8, h9, h10⟩ := hD
  have c8 := h1.2.2.2.2.2.2.1
  have c9 := h1.2.2.2.2.2.2.2.1
  have c10 := h1.2.2.2.2.2.2.2.2
  rcases per_cases 3 x with ⟨k, k1, rfl⟩ | hx
  · have hin := in_yes (μ := μ) (k := k) (a := 0) (b := 2) (by omega) (by omega) (by omega)
    by_cases z : k = 2
    · subst z
      refine Good.bad (v := eN e) hI ?_ ?_
      · unfold F_X8_led
        simp (disch := omega) only [c10, Nat.not_lt_zero, Nat.le_refl, iI_lit, kI_add, kI_mul, kI_eq, kI_lt, kI_le, kI_neg1, neg1_kI, neg1_lt0, neg1_0le, kO_none, kO_some, nm_eq, bnd_some, rz_0, rz_1, zb_0, zb_1, rd_kI, wrI_kI, wrL_kI, dvI_kI, rmI_kI, if_true, if_false, ite_true, ite_false, reduceIte, Nat.lt_irrefl, Nat.le_refl, not_true, not_false_iff, true_and, and_true, false_and, and_false, and_self, Bool.false_eq_true, eq_self, Decidable.not_not]
      · unfold F_X9_led
        simp (disch := omega) only [hin, h9, Nat.one_ne_zero, iI_lit, kI_add, kI_mul, kI_eq, kI_lt, kI_le, kI_neg1, neg1_kI, neg1_lt0, neg1_0le, kO_none, kO_some, nm_eq, bnd_some, rz_0, rz_1, zb_0, zb_1, rd_kI, wrI_kI, wrL_kI, dvI_kI, rmI_kI, if_true, if_false, ite_true, ite_false, reduceIte, Nat.lt_irrefl, Nat.le_refl, not_true, not_false_iff, true_and, and_true, false_and, and_false, and_self, Bool.false_eq_true, eq_self, Decidable.not_not]
    · by_cases y : eN e = kI 0
      · refine Good.bad (v := iI (-5)) hI ?_ ?_
        · unfold F_X8_led
          simp (disch := omega) only [c10, z, y, Nat.not_lt_zero, show k ≤ 2 by omega, iI_lit, kI_add, kI_mul, kI_eq, kI_lt, kI_le, kI_neg1, neg1_kI, neg1_lt0, neg1_0le, kO_none, kO_some, nm_eq, bnd_some, rz_0, rz_1, zb_0, zb_1, rd_kI, wrI_kI, wrL_kI, dvI_kI, rmI_kI, if_true, if_false, ite_true, ite_false, reduceIte, Nat.lt_irrefl, Nat.le_refl, not_true, not_false_iff, true_and, and_true, false_and, and_false, and_self, Bool.false_eq_true, eq_self, Decidable.not_not]
        · unfold F_X9_led
          simp (disch := omega) only [hin, h9, z, y, Nat.one_ne_zero, iI_lit, kI_add, kI_mul, kI_eq, kI_lt, kI_le, kI_neg1, neg1_kI, neg1_lt0, neg1_0le, kO_none, kO_some, nm_eq, bnd_some, rz_0, rz_1, zb_0, zb_1, rd_kI, wrI_kI, wrL_kI, dvI_kI, rmI_kI, if_true, if_false, ite_true, ite_false, reduceIte, Nat.lt_irrefl, Nat.le_refl, not_true, not_false_iff, true_and, and_true, false_and, and_false, and_self, Bool.false_eq_true, eq_self, Decidable.not_not]
      · have h10 : gI μ 113 17 = eW e ∧ gI μ 113 18 = eG e := h10.resolve_left y
        have y' : ¬ eN e = iI 0 := y
        have hk : k = 0 ∨ k = 1 := by omega
        rcases hk with rfl | rfl
        · refine Good.bad (v := eW e) hI ?_ ?_
          · unfold F_X8_led
            simp (disch := omega) only [c8, c10, y, Nat.zero_le, show ¬ (0 : Nat) = 2 by omega, iI_lit, kI_add, kI_mul, kI_eq, kI_lt, kI_le, kI_neg1, neg1_kI, neg1_lt0, neg1_0le, kO_none, kO_some, nm_eq, bnd_some, rz_0, rz_1, zb_0, zb_1, rd_kI, wrI_kI, wrL_kI, dvI_kI, rmI_kI, if_true, if_false, ite_true, ite_false, reduceIte, Nat.lt_irrefl, Nat.le_refl, not_true, not_false_iff, true_and, and_true, false_and, and_false, and_self, Bool.false_eq_true, eq_self, Decidable.not_not]
          · unfold F_X9_led
            simp (disch := omega) only [hin, h9, h10.1, y, Nat.one_ne_zero, show ¬ (0 : Nat) = 2 by omega, iI_lit, kI_add, kI_mul, kI_eq, kI_lt, kI_le, kI_neg1, neg1_kI, neg1_lt0, neg1_0le, kO_none, kO_some, nm_eq, bnd_some, rz_0, rz_1, zb_0, zb_1, rd_kI, wrI_kI, wrL_kI, dvI_kI, rmI_kI, if_true, if_false, ite_true, ite_false, reduceIte, Nat.lt_irrefl, Nat.le_refl, not_true, not_false_iff, true_and, and_true, false_and, and_false, and_self, Bool.false_eq_true, eq_self, Decidable.not_not]
        · refine Good.bad (v := eG e) hI ?_ ?_
          · unfold F_X8_led
            simp (disch := omega) only [c9, c10, y, Nat.one_ne_zero, show ¬ (1 : Nat) < 0 by omega, show (1 : Nat) ≤ 2 by omega, show ¬ (1 : Nat) = 2 by omega, iI_lit, kI_add, kI_mul, kI_eq, kI_lt, kI_le, kI_neg1, neg1_kI, neg1_lt0, neg1_0le, kO_none, kO_some, nm_eq, bnd_some, rz_0, rz_1, zb_0, zb_1, rd_kI, wrI_kI, wrL_kI, dvI_kI, rmI_kI, if_true, if_false, ite_true, ite_false, reduceIte, Nat.lt_irrefl, Nat.le_refl, not_true, not_false_iff, true_and, and_true, false_and, and_false, and_self, Bool.false_eq_true, eq_self, Decidable.not_not]
          · unfold F_X9_led
            simp (disch := omega) only [hin, h9, h10.2, y, Nat.one_ne_zero, show ¬ (1 : Nat) = 2 by omega, iI_lit, kI_add, kI_mul, kI_eq, kI_lt, kI_le, kI_neg1, neg1_kI, neg1_lt0, neg1_0le, kO_none, kO_some, nm_eq, bnd_some, rz_0, rz_1, zb_0, zb_1, rd_kI, wrI_kI, wrL_kI, dvI_kI, rmI_kI, if_true, if_false, ite_true, ite_false, reduceIte, Nat.lt_irrefl, Nat.le_refl, not_true, not_false_iff, true_and, and_true, false_and, and_false, and_self, Bool.false_eq_true, eq_self, Decidable.not_not]
  · have hin := in_no (μ := μ) (x := x) (a := 0) (b := 2) (by omega) (by omega) (fun k _ h => hx k (by omega))
    refine Good.bad (v := iI (-1)) hI ?_ ?_
    · unfold F_X8_led
      rcases i32_cases x with q | ⟨k, k1, rfl⟩
      · simp (disch := omega) only [iI_lit, neg_lt q, iI_lit, kI_add, kI_mul, kI_eq, kI_lt, kI_le, kI_neg1, neg1_kI, neg1_lt0, neg1_0le, kO_none, kO_some, nm_eq, bnd_some, rz_0, rz_1, zb_0, zb_1, rd_kI, wrI_kI, wrL_kI, dvI_kI, rmI_kI, if_true, if_false, ite_true, ite_false, reduceIte, Nat.lt_irrefl, Nat.le_refl, not_true, not_false_iff, true_and, and_true, false_and, and_false, and_self, Bool.false_eq_true, eq_self, Decidable.not_not]
      · have : 2 < k := by
          rcases Nat.lt_or_ge 2 k with y | y
          · exact y
          · exact absurd rfl (hx k (by omega))
        simp (disch := omega) only [Nat.not_lt_zero, show ¬ k ≤ 2 by omega, iI_lit, kI_add, kI_mul, kI_eq, kI_lt, kI_le, kI_neg1, neg1_kI, neg1_lt0, neg1_0le, kO_none, kO_some, nm_eq, bnd_some, rz_0, rz_1, zb_0, zb_1, rd_kI, wrI_kI, wrL_kI, dvI_kI, rmI_kI, if_true, if_false, ite_true, ite_false, reduceIte, Nat.lt_irrefl, Nat.le_refl, not_true, not_false_iff, true_and, and_true, false_and, and_false, and_self, Bool.false_eq_true, eq_self, Decidable.not_not]
    · unfold F_X9_led
      simp (disch := omega) only [hin, iI_lit, kI_add, kI_mul, kI_eq, kI_lt, kI_le, kI_neg1, neg1_kI, neg1_lt0, neg1_0le, kO_none, kO_some, nm_eq, bnd_some, rz_0, rz_1, zb_0, zb_1, rd_kI, wrI_kI, wrL_kI, dvI_kI, rmI_kI, if_true, if_false, ite_true, ite_false, reduceIte, Nat.lt_irrefl, Nat.le_refl, not_true, not_false_iff, true_and, and_true, false_and, and_false, and_self, Bool.false_eq_true, eq_self, Decidable.not_not]
theorem z0_op {p : Nat} {e : Ev} : Z0 (opE p e) := fun h => absurd h (Nat.succ_ne_zero _)
theorem z0_rb {p k q : Nat} {e : Ev} (h : k < eP e) : Z0 (rbE p k q e) := fun z => by
  have z : eP e = 0 := z
  omega
theorem g_open : Good (F_X8_open) (F_X9_open) := by
  intro μ hI
  obtain ⟨P, lot, e, hR, hD⟩ := hI.split
  have hn := hR.1.n7
  have hw := hD.2.2.2.1
  have e1 := whose_eq hR.1 hD.1 hD.2.1 hw.1
  have e4 := hD.2.2.2.2.2.1.2.2.2.2.1
  cases hc : cu P lot e with
  | none =>
    rw [hc] at e1 e4
    refine Good.bad (v := iI (-5)) hI ?_ ?_
    · unfold F_X8_open
      rw [e1, bnd_some]
      simp (disch := omega) only [cI_0le, iI_lit, kI_add, kI_mul, kI_eq, kI_lt, kI_le, kI_neg1, neg1_kI, neg1_lt0, neg1_0le, kO_none, kO_some, nm_eq, bnd_some, rz_0, rz_1, zb_0, zb_1, rd_kI, wrI_kI, wrL_kI, dvI_kI, rmI_kI, if_true, if_false, ite_true, ite_false, reduceIte, Nat.lt_irrefl, Nat.le_refl, not_true, not_false_iff, true_and, and_true, false_and, and_false, and_self, Bool.false_eq_true, eq_self, Decidable.not_not]
    · unfold F_X9_open
      simp (disch := omega) only [e4, iI_lit, kI_add, kI_mul, kI_eq, kI_lt, kI_le, kI_neg1, neg1_kI, neg1_lt0, neg1_0le, kO_none, kO_some, nm_eq, bnd_some, rz_0, rz_1, zb_0, zb_1, rd_kI, wrI_kI, wrL_kI, dvI_kI, rmI_kI, if_true, if_false, ite_true, ite_false, reduceIte, Nat.lt_irrefl, Nat.le_refl, not_true, not_false_iff, true_and, and_true, false_and, and_false, and_self, Bool.false_eq_true, eq_self, Decidable.not_not]
  | some p =>
    have ho := cu_lt hw hc
    have hp := (cu_free hR.1.ok hD.2.2.1 hw ho hc).1
    rw [hc, cI_some] at e1
    rw [hc, kO_some] at e4
    have u1 := unwrap_eq hD.1 (p := p) (by omega) (by omega)
    have u2 := unwrap_RC (p := p) hD.1
    have u3 : FrC (fun a _ => SP 23 a) μ (opM μ 23 p (eP e)) := (unwrap_Fr.mono (fun _ q => Or.inl q)).c
    have hPR1 : PR (opM μ 23 p (eP e)) P := hR.2.1.fr u3 (fun a j q z => by unfold SP SE SL at q; unfold CP at z; omega)
    have hRR1 : RR (opM μ 23 p (eP e)) 0 P lot e := hD.2.2.2.2.2.1.fr hn u3 (fun a j q => by unfold SP SE SL at q; omega)
    have e4' : gI (opM μ 23 p (eP e)) 121 0 = kI p := by rw [u3.1 121 0 (by unfold SP SE SL; omega)]; exact e4
    obtain ⟨r, m4, o1, rfl, o3, o4⟩ := opensAt_eq hPR1 hRR1 ho hc
    have l0 : Led m4 e := by
      have := hD.led
      unfold Led at this ⊢
      rw [o4.1 113 15 (by unfold CX9; omega), o4.1 113 19 (by unfold CX9; omega), o4.1 113 17 (by unfold CX9; omega), o4.1 113 18 (by unfold CX9; omega), u3.1 113 15 (by unfold SP SE SL; omega), u3.1 113 19 (by unfold SP SE SL; omega), u3.1 113 17 (by unfold SP SE SL; omega), u3.1 113 18 (by unfold SP SE SL; omega)]
      exact this
    obtain ⟨_, m6, d1, d2, d3⟩ := lead_eq (e' := opE p e) (p := p) (k := eP e) l0 (tot_op hw) rfl rfl rfl
    have hwy := wf_op hR.1.ok hD.2.2.1 hw ho hc
    obtain ⟨s1, s2⟩ := hD.step (e' := opE p e) hn u2 u3 (o3.fr hn d3 (fun a j q => by omega)) d2 ((o4.mono fun a j q => Or.inl q).trans (d3.mono fun a j q => Or.inr q)) hwy z0_op rfl
    refine ⟨kI (eP e), opM μ 23 p (eP e), m6, ?_, ?_, Inv.join (hR.fr s2 (fun _ _ q => q)) s1⟩
    · unfold F_X8_open
      rw [e1, bnd_some]
      simp (disch := omega) only [u1, Nat.zero_le, iI_lit, kI_add, kI_mul, kI_eq, kI_lt, kI_le, kI_neg1, neg1_kI, neg1_lt0, neg1_0le, kO_none, kO_some, nm_eq, bnd_some, rz_0, rz_1, zb_0, zb_1, rd_kI, wrI_kI, wrL_kI, dvI_kI, rmI_kI, if_true, if_false, ite_true, ite_false, reduceIte, Nat.lt_irrefl, Nat.le_refl, not_true, not_false_iff, true_and, and_true, false_and, and_false, and_self, Bool.false_eq_true, eq_self, Decidable.not_not]
    · unfold F_X9_open
      simp (disch := omega) only [e4', o1, d1, Nat.zero_le, iI_lit, kI_add, kI_mul, kI_eq, kI_lt, kI_le, kI_neg1, neg1_kI, neg1_lt0, neg1_0le, kO_none, kO_some, nm_eq, bnd_some, rz_0, rz_1, zb_0, zb_1, rd_kI, wrI_kI, wrL_kI, dvI_kI, rmI_kI, if_true, if_false, ite_true, ite_false, reduceIte, Nat.lt_irrefl, Nat.le_refl, not_true, not_false_iff, true_and, and_true, false_and, and_false, and_self, Bool.false_eq_true, eq_self, Decidable.not_not]
theorem g_take (x : Int32) : Good (F_X8_take x) (F_X9_take x) := by
  intro μ hI
  obtain ⟨P, lot, e, hR, hD⟩ := hI.split
  have hn := hR.1.n7
  have hw := hD.2.2.2.1
  rcases per_cases (pN P) x with ⟨k, hk, rfl⟩ | hx
  · have i1 := isOne_yes hR.1 hk
    have i2 := fun (m : Mm) (h : PR m P) => isPerson_yes h hk
    have e1 := whose_eq hR.1 hD.1 hD.2.1 hw.1
    have e4 := hD.2.2.2.2.2.1.2.2.2.2.1
    cases hc : cu P lot e with
    | none =>
      rw [hc] at e1 e4
      refine Good.bad (v := iI (-5)) hI ?_ ?_
      · unfold F_X8_take
        rw [i1, bnd_some, e1]
        simp (disch := omega) only [cI_0le, Nat.one_ne_zero, iI_lit, kI_add, kI_mul, kI_eq, kI_lt, kI_le, kI_neg1, neg1_kI, neg1_lt0, neg1_0le, kO_none, kO_some, nm_eq, bnd_some, rz_0, rz_1, zb_0, zb_1, rd_kI, wrI_kI, wrL_kI, dvI_kI, rmI_kI, if_true, if_false, ite_true, ite_false, reduceIte, Nat.lt_irrefl, Nat.le_refl, not_true, not_false_iff, true_and, and_true, false_and, and_false, and_self, Bool.false_eq_true, eq_self, Decidable.not_not]
      · unfold F_X9_take
        rw [i2 _ hR.2.1]
        simp (disch := omega) only [e4, Nat.one_ne_zero, iI_lit, kI_add, kI_mul, kI_eq, kI_lt, kI_le, kI_neg1, neg1_kI, neg1_lt0, neg1_0le, kO_none, kO_some, nm_eq, bnd_some, rz_0, rz_1, zb_0, zb_1, rd_kI, wrI_kI, wrL_kI, dvI_kI, rmI_kI, if_true, if_false, ite_true, ite_false, reduceIte, Nat.lt_irrefl, Nat.le_refl, not_true, not_false_iff, true_and, and_true, false_and, and_false, and_self, Bool.false_eq_true, eq_self, Decidable.not_not]
    | some p =>
      have ho := cu_lt hw hc
      have hp := (cu_free hR.1.ok hD.2.2.1 hw ho hc).1
      rw [hc, cI_some] at e1
      have e4c := e4
      rw [hc, kO_some] at e4
      have y1 := mayRob_eq (k := k) hR.1 hD.1 hw.1 (by omega)
      by_cases hm : mayB P e k = true
      · rw [if_pos hm] at y1
        obtain ⟨k1, k2, k3⟩ := mayB_iff.mp hm
        obtain ⟨o1, o2⟩ := own_of hw k1
        have u1 := rob_eq hD.1 (p := p) (k := k) (q := own0 e k) (by omega) (by omega) o1 (by omega)
        have u2 := rob_RC (p := p) (k := k) (q := own0 e k) hD.1
        have u3 : FrC (fun a _ => SP 23 a) μ (rbM μ 23 p k (own0 e k) (eT e k)) := (rob_Fr.mono (fun _ q => Or.inl q)).c
        have hPR1 : PR (rbM μ 23 p k (own0 e k) (eT e k)) P := hR.2.1.fr u3 (fun a j q z => by unfold SP SE SL at q; unfold CP at z; omega)
        have hRR1 : RR (rbM μ 23 p k (own0 e k) (eT e k)) 0 P lot e := hD.2.2.2.2.2.1.fr hn u3 (fun a j q => by unfold SP SE SL at q; omega)
        have e4' : gI (rbM μ 23 p k (own0 e k) (eT e k)) 121 0 = kI p := by rw [u3.1 121 0 (by unfold SP SE SL; omega)]; exact e4
        have mt := mayTake_eq (x := 0) (k := k) hPR1 hRR1 hD.2.2.1 hw ho hc hk
        rw [if_pos hm] at mt
        obtain ⟨r, m4, t1, rfl, t3, t4⟩ := takesAt_eq (k := k) hPR1 hRR1 hk o1 hc
        have l0 : Led m4 e := by
          have := hD.led
          unfold Led at this ⊢
          rw [t4.1 113 15 (by unfold CX9; omega), t4.1 113 19 (by unfold CX9; omega), t4.1 113 17 (by unfold CX9; omega), t4.1 113 18 (by unfold CX9; omega), u3.1 113 15 (by unfold SP SE SL; omega), u3.1 113 19 (by unfold SP SE SL; omega), u3.1 113 17 (by unfold SP SE SL; omega), u3.1 113 18 (by unfold SP SE SL; omega)]
          exact this
        obtain ⟨_, m6, d1, d2, d3⟩ := lead_eq (e' := rbE p k (own0 e k) e) (p := p) (k := k) l0 (tot_rb (by omega)) rfl rfl rfl
        have hwy := wf_rb hR.1.ok hD.2.2.1 hw ho hc hm o1
        obtain ⟨s1, s2⟩ := hD.step (e' := rbE p k (own0 e k) e) hn u2 u3 (t3.fr hn d3 (fun a j q => by omega)) d2 ((t4.mono fun a j q => Or.inl q).trans (d3.mono fun a j q => Or.inr q)) hwy (z0_rb k1) rfl
        refine ⟨kI (own0 e k), rbM μ 23 p k (own0 e k) (eT e k), m6, ?_, ?_, Inv.join (hR.fr s2 (fun _ _ q => q)) s1⟩
        · unfold F_X8_take
          rw [i1, bnd_some]
          simp (disch := omega) only [e1, y1, u1, Nat.zero_le, Nat.one_ne_zero, iI_lit, kI_add, kI_mul, kI_eq, kI_lt, kI_le, kI_neg1, neg1_kI, neg1_lt0, neg1_0le, kO_none, kO_some, nm_eq, bnd_some, rz_0, rz_1, zb_0, zb_1, rd_kI, wrI_kI, wrL_kI, dvI_kI, rmI_kI, if_true, if_false, ite_true, ite_false, reduceIte, Nat.lt_irrefl, Nat.le_refl, not_true, not_false_iff, true_and, and_true, false_and, and_false, and_self, Bool.false_eq_true, eq_self, Decidable.not_not]
        · unfold F_X9_take
          rw [i2 _ hPR1]
          simp (disch := omega) only [e4', mt, t1, d1, Nat.zero_le, Nat.one_ne_zero, iI_lit, kI_add, kI_mul, kI_eq, kI_lt, kI_le, kI_neg1, neg1_kI, neg1_lt0, neg1_0le, kO_none, kO_some, nm_eq, bnd_some, rz_0, rz_1, zb_0, zb_1, rd_kI, wrI_kI, wrL_kI, dvI_kI, rmI_kI, if_true, if_false, ite_true, ite_false, reduceIte, Nat.lt_irrefl, Nat.le_refl, not_true, not_false_iff, true_and, and_true, false_and, and_false, and_self, Bool.false_eq_true, eq_self, Decidable.not_not]
      · rw [if_neg hm] at y1
        have mt := mayTake_eq (x := 0) (k := k) hR.2.1 hD.2.2.2.2.2.1 hD.2.2.1 hw ho hc hk
        rw [if_neg hm] at mt
        refine Good.bad (v := iI (-2)) hI ?_ ?_
        · unfold F_X8_take
          rw [i1, bnd_some]
          simp (disch := omega) only [e1, y1, Nat.zero_le, Nat.one_ne_zero, iI_lit, kI_add, kI_mul, kI_eq, kI_lt, kI_le, kI_neg1, neg1_kI, neg1_lt0, neg1_0le, kO_none, kO_some, nm_eq, bnd_some, rz_0, rz_1, zb_0, zb_1, rd_kI, wrI_kI, wrL_kI, dvI_kI, rmI_kI, if_true, if_false, ite_true, ite_false, reduceIte, Nat.lt_irrefl, Nat.le_refl, not_true, not_false_iff, true_and, and_true, false_and, and_false, and_self, Bool.false_eq_true, eq_self, Decidable.not_not]
        · unfold F_X9_take
          rw [i2 _ hR.2.1]
          simp (disch := omega) only [e4, mt, Nat.zero_le, Nat.one_ne_zero, iI_lit, kI_add, kI_mul, kI_eq, kI_lt, kI_le, kI_neg1, neg1_kI, neg1_lt0, neg1_0le, kO_none, kO_some, nm_eq, bnd_some, rz_0, rz_1, zb_0, zb_1, rd_kI, wrI_kI, wrL_kI, dvI_kI, rmI_kI, if_true, if_false, ite_true, ite_false, reduceIte, Nat.lt_irrefl, Nat.le_refl, not_true, not_false_iff, true_and, and_true, false_and, and_false, and_self, Bool.false_eq_true, eq_self, Decidable.not_not]
  · refine Good.bad (v := iI (-1)) hI ?_ ?_
    · unfold F_X8_take
      rw [isOne_no hR.1 hx]
      simp (disch := omega) only [iI_lit, kI_add, kI_mul, kI_eq, kI_lt, kI_le, kI_neg1, neg1_kI, neg1_lt0, neg1_0le, kO_none, kO_some, nm_eq, bnd_some, rz_0, rz_1, zb_0, zb_1, rd_kI, wrI_kI, wrL_kI, dvI_kI, rmI_kI, if_true, if_false, ite_true, ite_false, reduceIte, Nat.lt_irrefl, Nat.le_refl, not_true, not_false_iff, true_and, and_true, false_and, and_false, and_self, Bool.false_eq_true, eq_self, Decidable.not_not]
    · unfold F_X9_take
      rw [isPerson_no hR.2.1 hx]
      simp (disch := omega) only [iI_lit, kI_add, kI_mul, kI_eq, kI_lt, kI_le, kI_neg1, neg1_kI, neg1_lt0, neg1_0le, kO_none, kO_some, nm_eq, bnd_some, rz_0, rz_1, zb_0, zb_1, rd_kI, wrI_kI, wrL_kI, dvI_kI, rmI_kI, if_true, if_false, ite_true, ite_false, reduceIte, Nat.lt_irrefl, Nat.le_refl, not_true, not_false_iff, true_and, and_true, false_and, and_false, and_self, Bool.false_eq_true, eq_self, Decidable.not_not]
/-- the reference goes on -/
theorem goOn_loop {P : Pa} {lot : Nat → Nat} (hl : LotOk (pN P) P lot) : ∀ g e c f (μ : Mm), left P e ≤ g → g < f → c + g < 100 → PR μ P → RR μ 0 P lot e → Led μ e → WfE (pN P) P lot e → Wp (F_X9_goOn_2 f (kI c) μ) fun r μ' => r = kI (c + (plE P lot (pN P) g e).2) ∧ RR μ' 0 P lot (plE P lot (pN P) g e).1 ∧ Led μ' (plE P lot (pN P) g e).1 ∧ FrC (fun a j => CX9 0 a j ∨ (a = 113 ∧ (j = 15 ∨ j = 17 ∨ j = 18 ∨ j = 19))) μ μ' := by
  intro g
  have last : ∀ e c f (μ : Mm), eP e = pN P → RR μ 0 P lot e → Led μ e → WfE (pN P) P lot e → Wp (F_X9_goOn_2 (f + 1) (kI c) μ) fun r μ' => r = kI (c + 0) ∧ RR μ' 0 P lot e ∧ Led μ' e ∧ FrC (fun a j => CX9 0 a j ∨ (a = 113 ∧ (j = 15 ∨ j = 17 ∨ j = 18 ∨ j = 19))) μ μ' := by
    intro e c f μ he h hL hw
    have e4 := h.2.2.2.2.1
    rw [cu_end hw he, kO_none] at e4
    refine ⟨kI c, μ, ?_, rfl, h, hL, FrC.refl⟩
    rw [F_X9_goOn_2]
    simp (disch := omega) only [e4, iI_lit, kI_add, kI_mul, kI_eq, kI_lt, kI_le, kI_neg1, neg1_kI, neg1_lt0, neg1_0le, kO_none, kO_some, nm_eq, bnd_some, rz_0, rz_1, zb_0, zb_1, rd_kI, wrI_kI, wrL_kI, dvI_kI, rmI_kI, if_true, if_false, ite_true, ite_false, reduceIte, Nat.lt_irrefl, Nat.le_refl, not_true, not_false_iff, true_and, and_true, false_and, and_false, and_self, Bool.false_eq_true, eq_self, Decidable.not_not]
  induction g with
  | zero =>
    intro e c f μ hg hf hcc hP h hL hw
    obtain ⟨f, rfl⟩ : ∃ g, f = g + 1 := ⟨f - 1, by omega⟩
    have he : eP e = pN P := by
      have h1 := hw.2.1
      have h2 : (pN P - eP e) * (1 + pM P) = 0 := by unfold left at hg; omega
      rcases Nat.mul_eq_zero.mp h2 with h3 | h3 <;> omega
    exact last e c f μ he h hL hw
  | succ g ih =>
    intro e c f μ hg hf hcc hP h hL hw
    obtain ⟨f, rfl⟩ : ∃ g, f = g + 1 := ⟨f - 1, by omega⟩
    by_cases hm : pN P ≤ eP e
    · have he : eP e = pN P := by have := hw.2.1; omega
      have ep : plE P lot (pN P) (g + 1) e = (e, 0) := by unfold plE; rw [if_pos hm]
      rw [ep]
      exact last e c f μ he h hL hw
    · have ho : eP e < pN P := by omega
      have hn := hP.n7
      obtain ⟨p, hp⟩ := cu_some hl ho
      have hp7 := (cu_free hP.ok hl hw ho hp).1
      obtain ⟨r, μ2, t1, rfl, t3, t4⟩ := goTurn_eq hP h hl hw ho hp
      have hls := left_st (p := p) (Nat.le_refl _) hw ho
      have hwy := wf_st hP.ok hl hw ho hp
      have l0 : Led μ2 e := by
        unfold Led at hL ⊢
        rw [t4.1 113 15 (by unfold CX9; omega), t4.1 113 19 (by unfold CX9; omega), t4.1 113 17 (by unfold CX9; omega), t4.1 113 18 (by unfold CX9; omega)]
        exact hL
      have hst : tot (stE P e p) = tot e + 1 ∧ eN (stE P e p) = eN e + kI 1 ∧ eW (stE P e p) = kI p ∧ eG (stE P e p) = kI (gotE P e p) ∧ gotE P e p < 7 := by
        unfold stE gotE
        cases hc : ch P e p with
        | none => exact ⟨tot_op hw, rfl, rfl, rfl, by show eP e < 7; omega⟩
        | some k =>
          have := (mayB_iff.mp (ch_may hc)).1
          exact ⟨tot_rb (by omega), rfl, rfl, rfl, by show k < 7; omega⟩
      obtain ⟨q1, q2, q3, q4, q5⟩ := hst
      obtain ⟨_, μ3, d1, d2, d3⟩ := lead_eq (e' := stE P e p) (p := p) (k := gotE P e p) l0 q1 q2 q3 q4
      have hf3 : FrC (fun a j => CX9 0 a j ∨ (a = 113 ∧ (j = 15 ∨ j = 17 ∨ j = 18 ∨ j = 19))) μ μ3 := (t4.mono fun a j q => Or.inl q).trans (d3.mono fun a j q => Or.inr q)
      obtain ⟨r4, μ4, i1, i2, i3, i4, i5⟩ := ih (stE P e p) (c + 1) f μ3 (by omega) (by omega) (by omega) (hP.fr hf3 (fun a j q z => by unfold CX9 at q; unfold CP at z; omega)) (t3.fr hn d3 (fun a j q => by omega)) d2 hwy
      have ep : plE P lot (pN P) (g + 1) e = ((plE P lot (pN P) g (stE P e p)).1, (plE P lot (pN P) g (stE P e p)).2 + 1) := by
        rw [plE, if_neg hm, hp]
      rw [ep]
      have e4 := h.2.2.2.2.1
      rw [hp, kO_some] at e4
      refine ⟨r4, μ4, ?_, ?_, i3, i4, hf3.trans i5⟩
      · rw [F_X9_goOn_2]
        simp (disch := omega) only [e4, t1, d1, i1, Nat.not_lt_zero, iI_lit, kI_add, kI_mul, kI_eq, kI_lt, kI_le, kI_neg1, neg1_kI, neg1_lt0, neg1_0le, kO_none, kO_some, nm_eq, bnd_some, rz_0, rz_1, zb_0, zb_1, rd_kI, wrI_kI, wrL_kI, dvI_kI, rmI_kI, if_true, if_false, ite_true, ite_false, reduceIte, Nat.lt_irrefl, Nat.le_refl, not_true, not_false_iff, true_and, and_true, false_and, and_false, and_self, Bool.false_eq_true, eq_self, Decidable.not_not]
      · rw [i2]
        congr 1
        show c + 1 + _ = c + (_ + 1)
        omega
theorem plE_A {P : Pa} {lot : Nat → Nat} {m : Nat} : ∀ g e, eA (plE P lot m g e).1 = eA e
  | 0, e => rfl
  | g + 1, e => by
    unfold plE
    split
    · rfl
    · cases cu P lot e with
      | none => rfl
      | some p =>
        show eA (plE P lot m g (stE P e p)).1 = eA e
        rw [plE_A g]
        unfold stE
        cases ch P e p <;> rfl
theorem g_goOn : Good (F_X8_goOn) (F_X9_goOn) := by
  intro μ hI
  obtain ⟨P, lot, e, hR, hD⟩ := hI.split
  have hn := hR.1.n7
  have hw := hD.2.2.2.1
  have hlf := left_le hR.1.ok (e := e) (by have := hw.2.1; omega)
  obtain ⟨m1, p1, p2, p3, p4, p5⟩ := play_eq (m := pN P) hD.2.2.1 hR.1 hD.1 hD.2.1 hw
  have u3 : FrC (fun a _ => SP 23 a) μ m1 := p3.c
  have hPR1 : PR m1 P := hR.2.1.fr u3 (fun a j q z => by unfold SP SE SL at q; unfold CP at z; omega)
  have hRR1 : RR m1 0 P lot e := hD.2.2.2.2.2.1.fr hn u3 (fun a j q => by unfold SP SE SL at q; omega)
  have l0 : Led m1 e := by
    have := hD.led
    unfold Led at this ⊢
    rw [u3.1 113 15 (by unfold SP SE SL; omega), u3.1 113 19 (by unfold SP SE SL; omega), u3.1 113 17 (by unfold SP SE SL; omega), u3.1 113 18 (by unfold SP SE SL; omega)]
    exact this
  obtain ⟨r, m2, q1, rfl, q3, q4, q5⟩ := goOn_loop hD.2.2.1 28 e 0 FU m1 hlf (by unfold FU; omega) (by omega) hPR1 hRR1 l0 hw
  have hz : Z0 (plE P lot (pN P) 28 e).1 := by
    intro z
    rw [p5] at z
    have he : eP e = 0 := by have := hw.2.1; omega
    have : plE P lot (pN P) 28 e = (e, 0) := by rw [plE, if_pos (by omega)]
    rw [this]
    exact hD.2.2.2.2.1 he
  obtain ⟨s1, s2⟩ := hD.step (e' := (plE P lot (pN P) 28 e).1) hn p2 u3 q3 q4 q5 p4 hz (plE_A 28 e)
  refine ⟨kI (plE P lot (pN P) 28 e).2, m1, m2, ?_, ?_, Inv.join (hR.fr s2 (fun _ _ q => q)) s1⟩
  · unfold F_X8_goOn
    rw [hR.1.n, p1, bnd_some]
  · unfold F_X9_goOn
    simp only [iI_lit]
    rw [q1, Nat.zero_add]
