/-! COUNT, FEED, BODY, TRACE, THE SHELVES OF BOTH -/
theorem Inv.oth1 {μ μ1 : Mm} {C : Nat → Nat → Prop} (h : Inv μ) (hf : FrC C μ μ1) (hs : ∀ a j, C a j → (a = 16 ∧ j = 1) ∨ a = 17 ∨ (a = 113 ∧ (j = 27 ∨ j = 56)) ∨ a = 129 ∨ (a = 100 ∧ j = 1) ∨ a = 101 ∨ a = 151) (ht : ITape μ1) (hb : IBod μ1) (hsh : IShe μ1) : Inv μ1 := by
  obtain ⟨P, lot, e, h1, h2, h3, h4, h5, h6, h7, h8, h9⟩ := h
  refine ⟨P, lot, e, h1.frC hf (fun a j z q => ?_), h2.fr hf (fun a j z q => ?_), h3.fr h1.n7 hf (fun a j z q => ?_), h4.fr hf (fun a j z q => ?_), ht, h6.fr hf, h7.fr hf (fun a j z q => ?_), hb, hsh⟩
  all_goals (have z := hs a j z)
  · unfold CPc at q; omega
  · unfold CP at q; omega
  · unfold CDeed at q; omega
  · unfold CChg at q; omega
  · unfold CImg at q; omega
/-- only shelves have changed -/
theorem Inv.shel {μ μ1 : Mm} (h : Inv μ) (hI : ∀ a j, ¬ (a = 104 ∨ a = 105 ∨ a = 153 ∨ a = 154) → gI μ1 a j = gI μ a j) (hR : ∀ a j, gR μ1 a j = gR μ a j) (hsh : IShe μ1) : Inv μ1 := by
  obtain ⟨P, lot, e, h1, h2, h3, h4, h5, h6, h7, h8, h9⟩ := h
  have hf : FrC (fun a _ => a = 104 ∨ a = 105 ∨ a = 153 ∨ a = 154) μ ((μ1.1.1, μ.1.2), μ1.2) := ⟨fun a j q => hI a j q, fun _ _ => rfl, fun a j => hR a j⟩
  have p1 : PC ((μ1.1.1, μ.1.2), μ1.2) P := h1.frC hf (fun a j z q => by unfold CPc at q; omega)
  have p2 : PR ((μ1.1.1, μ.1.2), μ1.2) P := h2.fr hf (fun a j z q => by unfold CP at q; omega)
  have p3 := h3.fr h1.n7 hf (fun a j z q => by unfold CDeed at q; omega)
  have p4 := h4.fr hf (fun a j z q => by unfold CChg at q; omega)
  have p5 := h5.fr hf (fun a j z q => by unfold CTape at q; omega)
  have p6 := h6.fr hf
  have p7 := h7.fr hf (fun a j z q => by unfold CImg at q; omega)
  have p8 := h8.fr hf (fun a j z q => by unfold CBod at q; omega)
  exact ⟨P, lot, e, p1, p2, p3, p4, p5, p6, p7, p8, hsh⟩
theorem Inv.bod {μ : Mm} (h : Inv μ) : IBod μ := by
  obtain ⟨P, lot, e, h1, h2, h3, h4, h5, h6, h7, h8, h9⟩ := h
  exact h8
theorem Inv.tap {μ : Mm} (h : Inv μ) : ITape μ := by
  obtain ⟨P, lot, e, h1, h2, h3, h4, h5, h6, h7, h8, h9⟩ := h
  exact h5
theorem Inv.she {μ : Mm} (h : Inv μ) : IShe μ := by
  obtain ⟨P, lot, e, h1, h2, h3, h4, h5, h6, h7, h8, h9⟩ := h
  exact h9
theorem feed_val {c : Nat} (hc : c ≤ 255) : nC (((kI c).toUInt32 % 65536).toInt32) = kI c ∧ nB ((kI c).toInt8.toInt32) = nB (kI c) := (by decide +kernel : ∀ c, c < 256 → nC (((kI c).toUInt32 % 65536).toInt32) = kI c ∧ nB ((kI c).toInt8.toInt32) = nB (kI c)) c (by omega)
theorem g_feed (x : Int32) : Good (F_X8_feed x) (F_X9_feed x) := by
  intro μ hI
  obtain ⟨l, l1, l2, l3, l4⟩ := hI.tap
  rcases per_cases 256 x with ⟨c, c1, rfl⟩ | hx
  · obtain ⟨v1, v2⟩ := feed_val (show c ≤ 255 by omega)
    have hin : ∀ m : Mm, F_X9_in (kI c) (iI 0) (iI 255) m = some (kI 1, m) := fun m => in_yes (μ := m) (k := c) (a := 0) (b := 255) (by omega) (by omega) (by omega)
    by_cases h : l < 120
    · have f1 : FrC (fun a j => (a = 16 ∧ j = 1) ∨ a = 17 ∨ (a = 113 ∧ j = 27) ∨ a = 129) μ (pI (pI (pI (pI μ 17 l (kI c)) 16 1 (kI (l + 1))) 129 l (nB (kI c))) 113 27 (kI (l + 1))) := (((FrC.put (C := fun a j => (a = 16 ∧ j = 1) ∨ a = 17 ∨ (a = 113 ∧ j = 27) ∨ a = 129) FrC.refl (by omega)).put (by omega)).put (by omega)).put (by omega)
      refine ⟨kI (l + 1), pI (pI μ 17 l (kI c)) 16 1 (kI (l + 1)), pI (pI (pI (pI μ 17 l (kI c)) 16 1 (kI (l + 1))) 129 l (nB (kI c))) 113 27 (kI (l + 1)), ?_, ?_, hI.oth1 f1 (fun a j q => by omega) ⟨l + 1, by omega, by simp [gI_pI], by simp [gI_pI], fun i hi => ?_⟩ (hI.bod.fr f1 (fun a j q z => by unfold CBod at z; omega)) (hI.she.fr f1 (fun a j q z => by unfold CShe at z; omega))⟩
      · unfold F_X8_feed F_X6_append
        simp (disch := omega) only [l2, h, v1, Nat.not_lt_zero, show c ≤ 255 by omega, gI_pI, show ¬ (16 : Nat) = 17 by omega, Nat.one_ne_zero, iI_lit, kI_add, kI_mul, kI_eq, kI_lt, kI_le, kI_neg1, neg1_kI, neg1_lt0, neg1_0le, kO_none, kO_some, nm_eq, bnd_some, rz_0, rz_1, zb_0, zb_1, rd_kI, wrI_kI, wrL_kI, dvI_kI, rmI_kI, if_true, if_false, ite_true, ite_false, reduceIte, Nat.lt_irrefl, Nat.le_refl, not_true, not_false_iff, true_and, and_true, false_and, and_false, and_self, Bool.false_eq_true, eq_self, Decidable.not_not]
      · unfold F_X9_feed
        rw [bnd_eq (hin _)]
        have e27 : gI (pI (pI μ 17 l (kI c)) 16 1 (kI (l + 1))) 113 27 = kI l := by simp [gI_pI, l3]
        simp (disch := omega) only [e27, v2, show ¬ l = 120 by omega, Nat.one_ne_zero, iI_lit, kI_add, kI_mul, kI_eq, kI_lt, kI_le, kI_neg1, neg1_kI, neg1_lt0, neg1_0le, kO_none, kO_some, nm_eq, bnd_some, rz_0, rz_1, zb_0, zb_1, rd_kI, wrI_kI, wrL_kI, dvI_kI, rmI_kI, if_true, if_false, ite_true, ite_false, reduceIte, Nat.lt_irrefl, Nat.le_refl, not_true, not_false_iff, true_and, and_true, false_and, and_false, and_self, Bool.false_eq_true, eq_self, Decidable.not_not]
        simp [gI_pI, l3, kI_add]
      · by_cases z : i = l
        · exact ⟨c, by omega, by simp [gI_pI, z], by simp [gI_pI, z]⟩
        · obtain ⟨c', q1, q2, q3⟩ := l4 i (by omega)
          exact ⟨c', q1, by simp [gI_pI, z, q2], by simp [gI_pI, z, q3]⟩
    · refine Good.bad (v := iI (-3)) hI ?_ ?_
      · unfold F_X8_feed F_X6_append
        simp (disch := omega) only [l2, h, Nat.not_lt_zero, show c ≤ 255 by omega, iI_lit, kI_add, kI_mul, kI_eq, kI_lt, kI_le, kI_neg1, neg1_kI, neg1_lt0, neg1_0le, kO_none, kO_some, nm_eq, bnd_some, rz_0, rz_1, zb_0, zb_1, rd_kI, wrI_kI, wrL_kI, dvI_kI, rmI_kI, if_true, if_false, ite_true, ite_false, reduceIte, Nat.lt_irrefl, Nat.le_refl, not_true, not_false_iff, true_and, and_true, false_and, and_false, and_self, Bool.false_eq_true, eq_self, Decidable.not_not]
      · unfold F_X9_feed
        rw [bnd_eq (hin _)]
        simp (disch := omega) only [l3, show l = 120 by omega, Nat.one_ne_zero, iI_lit, kI_add, kI_mul, kI_eq, kI_lt, kI_le, kI_neg1, neg1_kI, neg1_lt0, neg1_0le, kO_none, kO_some, nm_eq, bnd_some, rz_0, rz_1, zb_0, zb_1, rd_kI, wrI_kI, wrL_kI, dvI_kI, rmI_kI, if_true, if_false, ite_true, ite_false, reduceIte, Nat.lt_irrefl, Nat.le_refl, not_true, not_false_iff, true_and, and_true, false_and, and_false, and_self, Bool.false_eq_true, eq_self, Decidable.not_not]
  · have hin : F_X9_in x (iI 0) (iI 255) μ = some (kI 0, μ) := in_no (μ := μ) (x := x) (a := 0) (b := 255) (by omega) (by omega) (fun k _ h => hx k (by omega))
    refine Good.bad (v := iI (-1)) hI ?_ ?_
    · unfold F_X8_feed
      rcases i32_cases x with q | ⟨k, k1, rfl⟩
      · simp (disch := omega) only [iI_lit, neg_lt q, iI_lit, kI_add, kI_mul, kI_eq, kI_lt, kI_le, kI_neg1, neg1_kI, neg1_lt0, neg1_0le, kO_none, kO_some, nm_eq, bnd_some, rz_0, rz_1, zb_0, zb_1, rd_kI, wrI_kI, wrL_kI, dvI_kI, rmI_kI, if_true, if_false, ite_true, ite_false, reduceIte, Nat.lt_irrefl, Nat.le_refl, not_true, not_false_iff, true_and, and_true, false_and, and_false, and_self, Bool.false_eq_true, eq_self, Decidable.not_not]
      · have : 255 < k := by
          rcases Nat.lt_or_ge 255 k with y | y
          · exact y
          · exact absurd rfl (hx k (by omega))
        simp (disch := omega) only [Nat.not_lt_zero, show ¬ k ≤ 255 by omega, iI_lit, kI_add, kI_mul, kI_eq, kI_lt, kI_le, kI_neg1, neg1_kI, neg1_lt0, neg1_0le, kO_none, kO_some, nm_eq, bnd_some, rz_0, rz_1, zb_0, zb_1, rd_kI, wrI_kI, wrL_kI, dvI_kI, rmI_kI, if_true, if_false, ite_true, ite_false, reduceIte, Nat.lt_irrefl, Nat.le_refl, not_true, not_false_iff, true_and, and_true, false_and, and_false, and_self, Bool.false_eq_true, eq_self, Decidable.not_not]
    · unfold F_X9_feed
      rw [bnd_eq hin]
      rfl
theorem g_body (x : Int32) : Good (F_X8_body x) (F_X9_body x) := by
  intro μ hI
  obtain ⟨b, r, b1, b2, b3, b4, b5, b6, b7, b8⟩ := hI.bod
  rcases per_cases 8 x with ⟨c, c1, rfl⟩ | hx
  · have hin : ∀ m : Mm, F_X9_in (kI c) (iI 0) (iI 7) m = some (kI 1, m) := fun m => in_yes (μ := m) (k := c) (a := 0) (b := 7) (by omega) (by omega) (by omega)
    by_cases h : b < 50
    · have f1 : FrC (fun a j => (a = 100 ∧ j = 1) ∨ a = 101 ∨ (a = 113 ∧ j = 56) ∨ a = 151) μ (pI (pI (pI (pI μ 101 b (kI c)) 100 1 (kI (b + 1))) 151 b (kI c)) 113 56 (kI (b + 1))) := (((FrC.put (C := fun a j => (a = 100 ∧ j = 1) ∨ a = 101 ∨ (a = 113 ∧ j = 56) ∨ a = 151) FrC.refl (by omega)).put (by omega)).put (by omega)).put (by omega)
      refine ⟨kI b, pI (pI μ 101 b (kI c)) 100 1 (kI (b + 1)), pI (pI (pI (pI μ 101 b (kI c)) 100 1 (kI (b + 1))) 151 b (kI c)) 113 56 (kI (b + 1)), ?_, ?_, hI.oth1 f1 (fun a j q => by omega) (hI.tap.fr f1 (fun a j q z => by unfold CTape at z; omega)) ⟨b + 1, r, by omega, b2, by simp [gI_pI], by simp [gI_pI], by simp [gI_pI, b5], by simp [gI_pI, b6], fun i hi => ?_, fun i hi hj => ?_⟩ (fun s hs => ?_)⟩
      · unfold F_X8_body F_X0_add
        simp (disch := omega) only [b3, h, Nat.not_lt_zero, show c < 8 by omega, gI_pI, show ¬ (100 : Nat) = 101 by omega, iI_lit, kI_add, kI_mul, kI_eq, kI_lt, kI_le, kI_neg1, neg1_kI, neg1_lt0, neg1_0le, kO_none, kO_some, nm_eq, bnd_some, rz_0, rz_1, zb_0, zb_1, rd_kI, wrI_kI, wrL_kI, dvI_kI, rmI_kI, if_true, if_false, ite_true, ite_false, reduceIte, Nat.lt_irrefl, Nat.le_refl, not_true, not_false_iff, true_and, and_true, false_and, and_false, and_self, Bool.false_eq_true, eq_self, Decidable.not_not]
        rw [kI_sub (by omega)]
        rfl
      · unfold F_X9_body
        rw [bnd_eq (hin _)]
        have e56 : gI (pI (pI μ 101 b (kI c)) 100 1 (kI (b + 1))) 113 56 = kI b := by simp [gI_pI, b4]
        simp (disch := omega) only [e56, show ¬ b = 50 by omega, Nat.one_ne_zero, iI_lit, kI_add, kI_mul, kI_eq, kI_lt, kI_le, kI_neg1, neg1_kI, neg1_lt0, neg1_0le, kO_none, kO_some, nm_eq, bnd_some, rz_0, rz_1, zb_0, zb_1, rd_kI, wrI_kI, wrL_kI, dvI_kI, rmI_kI, if_true, if_false, ite_true, ite_false, reduceIte, Nat.lt_irrefl, Nat.le_refl, not_true, not_false_iff, true_and, and_true, false_and, and_false, and_self, Bool.false_eq_true, eq_self, Decidable.not_not]
        have e57 : gI (pI (pI (pI μ 101 b (kI c)) 100 1 (kI (b + 1))) 151 b (kI c)) 113 56 = kI b := by simp [gI_pI, b4]
        rw [e57, kI_add]
        have e58 : gI (pI (pI (pI (pI μ 101 b (kI c)) 100 1 (kI (b + 1))) 151 b (kI c)) 113 56 (kI (b + 1))) 113 56 = kI (b + 1) := by simp [gI_pI]
        rw [e58, kI_sub (by omega)]
        rfl
      · by_cases z : i = b
        · exact ⟨c, c1, by simp [gI_pI, z], by simp [gI_pI, z]⟩
        · obtain ⟨c', q1, q2, q3⟩ := b7 i (by omega)
          exact ⟨c', q1, by simp [gI_pI, z, q2], by simp [gI_pI, z, q3]⟩
      · have := b8 i hi hj
        simp [gI_pI, this]
      · rcases hI.she s hs with ⟨h1, h2⟩ | ⟨b', c', h1, h2, h3, h4, h5⟩ | ⟨q, n, h0, h1, h2, h3, h4, h5, h6⟩
        · exact Or.inl ⟨by simp [gI_pI, h1], by simp [gI_pI, h2]⟩
        · refine Or.inr (Or.inl ⟨b', b + 1, by simp [gI_pI, h1], by simp [gI_pI, h2], by simp [gI_pI, h3], by simp [gI_pI], ?_⟩)
          rw [b3, kI_eq (by omega) (by omega)] at h4
          omega
        · exact Or.inr (Or.inr ⟨q, n, h0, h1, by simp [gI_pI, h2], by simp [gI_pI, h3], by simp [gI_pI, h4], by simp [gI_pI, h5], h6⟩)
    · refine Good.bad (v := iI (-3)) hI ?_ ?_
      · unfold F_X8_body F_X0_add
        simp (disch := omega) only [b3, h, Nat.not_lt_zero, show c < 8 by omega, iI_lit, kI_add, kI_mul, kI_eq, kI_lt, kI_le, kI_neg1, neg1_kI, neg1_lt0, neg1_0le, kO_none, kO_some, nm_eq, bnd_some, rz_0, rz_1, zb_0, zb_1, rd_kI, wrI_kI, wrL_kI, dvI_kI, rmI_kI, if_true, if_false, ite_true, ite_false, reduceIte, Nat.lt_irrefl, Nat.le_refl, not_true, not_false_iff, true_and, and_true, false_and, and_false, and_self, Bool.false_eq_true, eq_self, Decidable.not_not]
      · unfold F_X9_body
        rw [bnd_eq (hin _)]
        simp (disch := omega) only [b4, show b = 50 by omega, Nat.one_ne_zero, iI_lit, kI_add, kI_mul, kI_eq, kI_lt, kI_le, kI_neg1, neg1_kI, neg1_lt0, neg1_0le, kO_none, kO_some, nm_eq, bnd_some, rz_0, rz_1, zb_0, zb_1, rd_kI, wrI_kI, wrL_kI, dvI_kI, rmI_kI, if_true, if_false, ite_true, ite_false, reduceIte, Nat.lt_irrefl, Nat.le_refl, not_true, not_false_iff, true_and, and_true, false_and, and_false, and_self, Bool.false_eq_true, eq_self, Decidable.not_not]
  · have hin : F_X9_in x (iI 0) (iI 7) μ = some (kI 0, μ) := in_no (μ := μ) (x := x) (a := 0) (b := 7) (by omega) (by omega) (fun k _ h => hx k (by omega))
    refine Good.bad (v := iI (-1)) hI ?_ ?_
    · unfold F_X8_body
      rcases i32_cases x with q | ⟨k, k1, rfl⟩
      · simp (disch := omega) only [iI_lit, neg_lt q, iI_lit, kI_add, kI_mul, kI_eq, kI_lt, kI_le, kI_neg1, neg1_kI, neg1_lt0, neg1_0le, kO_none, kO_some, nm_eq, bnd_some, rz_0, rz_1, zb_0, zb_1, rd_kI, wrI_kI, wrL_kI, dvI_kI, rmI_kI, if_true, if_false, ite_true, ite_false, reduceIte, Nat.lt_irrefl, Nat.le_refl, not_true, not_false_iff, true_and, and_true, false_and, and_false, and_self, Bool.false_eq_true, eq_self, Decidable.not_not]
      · have : 7 < k := by
          rcases Nat.lt_or_ge 7 k with y | y
          · exact y
          · exact absurd rfl (hx k (by omega))
        simp (disch := omega) only [Nat.not_lt_zero, show ¬ k < 8 by omega, iI_lit, kI_add, kI_mul, kI_eq, kI_lt, kI_le, kI_neg1, neg1_kI, neg1_lt0, neg1_0le, kO_none, kO_some, nm_eq, bnd_some, rz_0, rz_1, zb_0, zb_1, rd_kI, wrI_kI, wrL_kI, dvI_kI, rmI_kI, if_true, if_false, ite_true, ite_false, reduceIte, Nat.lt_irrefl, Nat.le_refl, not_true, not_false_iff, true_and, and_true, false_and, and_false, and_self, Bool.false_eq_true, eq_self, Decidable.not_not]
    · unfold F_X9_body
      rw [bnd_eq hin]
      rfl
theorem g_trace (x : Int32) : Good (F_X8_trace x) (F_X9_trace x) := by
  intro μ hI
  obtain ⟨b, r, b1, b2, b3, b4, b5, b6, b7, b8⟩ := hI.bod
  have bad : (∀ k, k < r → k < 24 → x ≠ kI k) → ∃ v μ1 μ2, F_X8_trace x μ = some (v, μ1) ∧ F_X9_trace x μ1 = some (v, μ2) ∧ Inv μ2 := by
    intro hx
    refine Good.bad (v := iI (-1)) hI ?_ ?_
    · unfold F_X8_trace F_X0_traced
      rcases i32_cases x with q | ⟨k, k1, rfl⟩
      · simp (disch := omega) only [iI_lit, neg_lt q, iI_lit, kI_add, kI_mul, kI_eq, kI_lt, kI_le, kI_neg1, neg1_kI, neg1_lt0, neg1_0le, kO_none, kO_some, nm_eq, bnd_some, rz_0, rz_1, zb_0, zb_1, rd_kI, wrI_kI, wrL_kI, dvI_kI, rmI_kI, if_true, if_false, ite_true, ite_false, reduceIte, Nat.lt_irrefl, Nat.le_refl, not_true, not_false_iff, true_and, and_true, false_and, and_false, and_self, Bool.false_eq_true, eq_self, Decidable.not_not]
      · by_cases z : r ≤ k
        · simp (disch := omega) only [b5, Nat.not_lt_zero, z, iI_lit, kI_add, kI_mul, kI_eq, kI_lt, kI_le, kI_neg1, neg1_kI, neg1_lt0, neg1_0le, kO_none, kO_some, nm_eq, bnd_some, rz_0, rz_1, zb_0, zb_1, rd_kI, wrI_kI, wrL_kI, dvI_kI, rmI_kI, if_true, if_false, ite_true, ite_false, reduceIte, Nat.lt_irrefl, Nat.le_refl, not_true, not_false_iff, true_and, and_true, false_and, and_false, and_self, Bool.false_eq_true, eq_self, Decidable.not_not]
        · have : 24 ≤ k := by
            rcases Nat.lt_or_ge k 24 with y | y
            · exact absurd rfl (hx k (by omega) y)
            · exact y
          simp (disch := omega) only [b5, Nat.not_lt_zero, z, this, iI_lit, kI_add, kI_mul, kI_eq, kI_lt, kI_le, kI_neg1, neg1_kI, neg1_lt0, neg1_0le, kO_none, kO_some, nm_eq, bnd_some, rz_0, rz_1, zb_0, zb_1, rd_kI, wrI_kI, wrL_kI, dvI_kI, rmI_kI, if_true, if_false, ite_true, ite_false, reduceIte, Nat.lt_irrefl, Nat.le_refl, not_true, not_false_iff, true_and, and_true, false_and, and_false, and_self, Bool.false_eq_true, eq_self, Decidable.not_not]
    · unfold F_X9_trace
      rcases i32_cases x with q | ⟨k, k1, rfl⟩
      · simp (disch := omega) only [iI_lit, neg_lt q, iI_lit, kI_add, kI_mul, kI_eq, kI_lt, kI_le, kI_neg1, neg1_kI, neg1_lt0, neg1_0le, kO_none, kO_some, nm_eq, bnd_some, rz_0, rz_1, zb_0, zb_1, rd_kI, wrI_kI, wrL_kI, dvI_kI, rmI_kI, if_true, if_false, ite_true, ite_false, reduceIte, Nat.lt_irrefl, Nat.le_refl, not_true, not_false_iff, true_and, and_true, false_and, and_false, and_self, Bool.false_eq_true, eq_self, Decidable.not_not]
      · by_cases z : r ≤ k
        · simp (disch := omega) only [b6, Nat.not_lt_zero, z, iI_lit, kI_add, kI_mul, kI_eq, kI_lt, kI_le, kI_neg1, neg1_kI, neg1_lt0, neg1_0le, kO_none, kO_some, nm_eq, bnd_some, rz_0, rz_1, zb_0, zb_1, rd_kI, wrI_kI, wrL_kI, dvI_kI, rmI_kI, if_true, if_false, ite_true, ite_false, reduceIte, Nat.lt_irrefl, Nat.le_refl, not_true, not_false_iff, true_and, and_true, false_and, and_false, and_self, Bool.false_eq_true, eq_self, Decidable.not_not]
        · have : 24 ≤ k := by
            rcases Nat.lt_or_ge k 24 with y | y
            · exact absurd rfl (hx k (by omega) y)
            · exact y
          simp (disch := omega) only [b6, Nat.not_lt_zero, z, this, iI_lit, kI_add, kI_mul, kI_eq, kI_lt, kI_le, kI_neg1, neg1_kI, neg1_lt0, neg1_0le, kO_none, kO_some, nm_eq, bnd_some, rz_0, rz_1, zb_0, zb_1, rd_kI, wrI_kI, wrL_kI, dvI_kI, rmI_kI, if_true, if_false, ite_true, ite_false, reduceIte, Nat.lt_irrefl, Nat.le_refl, not_true, not_false_iff, true_and, and_true, false_and, and_false, and_self, Bool.false_eq_true, eq_self, Decidable.not_not]
  by_cases h : ∃ k, k < r ∧ k < 24 ∧ x = kI k
  · obtain ⟨k, k1, k2, rfl⟩ := h
    have := b8 k k1 k2
    refine Good.bad (v := gI μ 102 k) hI ?_ ?_
    · unfold F_X8_trace F_X0_traced
      simp (disch := omega) only [b5, Nat.not_lt_zero, show ¬ r ≤ k by omega, show ¬ 24 ≤ k by omega, iI_lit, kI_add, kI_mul, kI_eq, kI_lt, kI_le, kI_neg1, neg1_kI, neg1_lt0, neg1_0le, kO_none, kO_some, nm_eq, bnd_some, rz_0, rz_1, zb_0, zb_1, rd_kI, wrI_kI, wrL_kI, dvI_kI, rmI_kI, if_true, if_false, ite_true, ite_false, reduceIte, Nat.lt_irrefl, Nat.le_refl, not_true, not_false_iff, true_and, and_true, false_and, and_false, and_self, Bool.false_eq_true, eq_self, Decidable.not_not]
    · unfold F_X9_trace
      simp (disch := omega) only [b6, Nat.not_lt_zero, show ¬ r ≤ k by omega, show ¬ 24 ≤ k by omega, this, iI_lit, kI_add, kI_mul, kI_eq, kI_lt, kI_le, kI_neg1, neg1_kI, neg1_lt0, neg1_0le, kO_none, kO_some, nm_eq, bnd_some, rz_0, rz_1, zb_0, zb_1, rd_kI, wrI_kI, wrL_kI, dvI_kI, rmI_kI, if_true, if_false, ite_true, ite_false, reduceIte, Nat.lt_irrefl, Nat.le_refl, not_true, not_false_iff, true_and, and_true, false_and, and_false, and_self, Bool.false_eq_true, eq_self, Decidable.not_not]
  · exact bad fun k h1 h2 h3 => h ⟨k, h1, h2, h3⟩
theorem safeMany_loop {μ : Mm} {P : Pa} {lot : Nat → Nat} {e : Ev} (hP : PR μ P) (h : RR μ 0 P lot e) (hb : BdE e) : ∀ c i s f, i + c = pN P → c < f → s + c < 1000 → F_X9_safeMany_4 f (kI s) (kI i) μ = some (kI (s + cS P e c i), μ) := by
  have hn := hP.n7
  have en := hP.n
  have em := hP.m
  have hM := hP.ok.2.2.2.2.2.1
  intro c
  induction c with
  | zero =>
    intro i s f hi hf hs
    obtain ⟨f, rfl⟩ : ∃ g, f = g + 1 := ⟨f - 1, by omega⟩
    unfold F_X9_safeMany_4 cS
    simp (disch := omega) only [en, show pN P ≤ i by omega, Nat.add_zero, iI_lit, kI_add, kI_mul, kI_eq, kI_lt, kI_le, kI_neg1, neg1_kI, neg1_lt0, neg1_0le, kO_none, kO_some, nm_eq, bnd_some, rz_0, rz_1, zb_0, zb_1, rd_kI, wrI_kI, wrL_kI, dvI_kI, rmI_kI, if_true, if_false, ite_true, ite_false, reduceIte, Nat.lt_irrefl, Nat.le_refl, not_true, not_false_iff, true_and, and_true, false_and, and_false, and_self, Bool.false_eq_true, eq_self, Decidable.not_not]
  | succ c ih =>
    intro i s f hi hf hs
    obtain ⟨f, rfl⟩ : ∃ g, f = g + 1 := ⟨f - 1, by omega⟩
    have e1 := h.2.2.1 i (by omega)
    have e1 : gI μ 119 i = kI (eT e i) := by rw [← e1]; congr 1; omega
    have bt := hb.2.1 i
    unfold F_X9_safeMany_4 F_X9_safeMany_28 cS
    by_cases z : pM P ≤ eT e i
    · have := ih (i + 1) (s + 1) f (by omega) (by omega) (by omega)
      simp (disch := omega) only [en, em, e1, z, show ¬ pN P ≤ i by omega, show ¬ eT e i < pM P by omega, this, Nat.add_assoc, iI_lit, kI_add, kI_mul, kI_eq, kI_lt, kI_le, kI_neg1, neg1_kI, neg1_lt0, neg1_0le, kO_none, kO_some, nm_eq, bnd_some, rz_0, rz_1, zb_0, zb_1, rd_kI, wrI_kI, wrL_kI, dvI_kI, rmI_kI, if_true, if_false, ite_true, ite_false, reduceIte, Nat.lt_irrefl, Nat.le_refl, not_true, not_false_iff, true_and, and_true, false_and, and_false, and_self, Bool.false_eq_true, eq_self, Decidable.not_not]
    · have := ih (i + 1) s f (by omega) (by omega) (by omega)
      simp (disch := omega) only [en, em, e1, z, show ¬ pN P ≤ i by omega, show eT e i < pM P by omega, this, Nat.zero_add, iI_lit, kI_add, kI_mul, kI_eq, kI_lt, kI_le, kI_neg1, neg1_kI, neg1_lt0, neg1_0le, kO_none, kO_some, nm_eq, bnd_some, rz_0, rz_1, zb_0, zb_1, rd_kI, wrI_kI, wrL_kI, dvI_kI, rmI_kI, if_true, if_false, ite_true, ite_false, reduceIte, Nat.lt_irrefl, Nat.le_refl, not_true, not_false_iff, true_and, and_true, false_and, and_false, and_self, Bool.false_eq_true, eq_self, Decidable.not_not]
theorem g_count (x : Int32) : Good (F_X8_count x) (F_X9_count x) := by
  intro μ hI
  obtain ⟨P, lot, e, hR, hD⟩ := hI.split
  have hn := hR.1.n7
  have hw := hD.2.2.2.1
  rcases per_cases 7 x with ⟨k, k7, rfl⟩ | hx
  · have hk : k = 0 ∨ k = 1 ∨ k = 2 ∨ k = 3 ∨ k = 4 ∨ k = 5 ∨ k = 6 := by omega
    obtain ⟨l, l1, l2, l3, l4⟩ := hI.tap
    obtain ⟨d, a, E, c1, c2, c3, c4, c5⟩ := hR.oth.1
    obtain ⟨b, r, b1, b2, b3, b4, b5, b6, b7, b8⟩ := hI.bod
    rcases hk with rfl | rfl | rfl | rfl | rfl | rfl | rfl
    · refine Good.bad (v := kI (pN P)) hI ?_ ?_
      · unfold F_X8_count
        rw [tsw0_at (by show _ < 7; omega) (by omega), ← hR.1.n]; rfl
      · unfold F_X9_count
        rw [tsw0_at (by show _ < 7; omega) (by omega), ← hR.2.1.n]; rfl
    · have hle := hw.2.1
      have e1 := hD.1.2.2.1
      have e2 := hD.2.2.2.2.2.1.2.2.2.1
      refine Good.bad (v := kI (pN P - eP e)) hI ?_ ?_
      · unfold F_X8_count
        rw [tsw0_at (by show _ < 7; omega) (by omega), ← kI_sub hle, ← hR.1.n, ← e1]; rfl
      · unfold F_X9_count
        rw [tsw0_at (by show _ < 7; omega) (by omega)]
        simp only [List.getD_cons_zero, List.getD_cons_succ]
        rw [iI_lit, rd_kI (by omega) (by omega), e2, bnd_eq (bitsOf_eq hn hle)]
    · have e1 := countSafe_eq hR.1 hD.1 hw.1
      have e2 := safeMany_loop hR.2.1 hD.2.2.2.2.2.1 hw.1 (pN P) 0 0 FU (by omega) (by unfold FU; omega) (by omega)
      rw [Nat.zero_add] at e2
      refine Good.bad (v := kI (cS P e (pN P) 0)) hI ?_ ?_
      · unfold F_X8_count
        rw [tsw0_at (by show _ < 7; omega) (by omega)]
        simp only [List.getD_cons_zero, List.getD_cons_succ]
        rw [bnd_eq e1]
      · unfold F_X9_count
        rw [tsw0_at (by show _ < 7; omega) (by omega)]
        simp only [List.getD_cons_zero, List.getD_cons_succ]
        unfold F_X9_safeMany
        simp only [iI_lit]
        rw [bnd_eq e2]
    · refine Good.bad (v := kI l) hI ?_ ?_
      · unfold F_X8_count
        rw [tsw0_at (by show _ < 7; omega) (by omega), ← l2]; rfl
      · unfold F_X9_count
        rw [tsw0_at (by show _ < 7; omega) (by omega), ← l3]; rfl
    · refine Good.bad (v := kI d) hI ?_ ?_
      · unfold F_X8_count
        rw [tsw0_at (by show _ < 7; omega) (by omega), ← c3.1]; rfl
      · unfold F_X9_count
        rw [tsw0_at (by show _ < 7; omega) (by omega), ← c4.1]; rfl
    · refine Good.bad (v := kI b) hI ?_ ?_
      · unfold F_X8_count
        rw [tsw0_at (by show _ < 7; omega) (by omega), ← b3]; rfl
      · unfold F_X9_count
        rw [tsw0_at (by show _ < 7; omega) (by omega), ← b4]; rfl
    · refine Good.bad (v := kI r) hI ?_ ?_
      · unfold F_X8_count
        rw [tsw0_at (by show _ < 7; omega) (by omega), ← b5]; rfl
      · unfold F_X9_count
        rw [tsw0_at (by show _ < 7; omega) (by omega), ← b6]; rfl
  · refine Good.bad (v := iI (-1)) hI ?_ ?_
    · unfold F_X8_count
      exact tsw0_out (fun k hk => hx k hk) (by show 7 < 1000; omega)
    · unfold F_X9_count
      exact tsw0_out (fun k hk => hx k hk) (by show 7 < 1000; omega)
