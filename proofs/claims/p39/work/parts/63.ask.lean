/-! PEOPLE, PAIRS: what both ask first -/
theorem isOne_yes {μ : Mm} {P : Pa} (h : PC μ P) {k : Nat} (hk : k < pN P) : F_X4_isOne (kI k) μ = some (kI 1, μ) := by
  have hn := h.n7
  unfold F_X4_isOne
  simp (disch := omega) only [h.n, Nat.not_lt_zero, show ¬ pN P ≤ k by omega, iI_lit, kI_add, kI_mul, kI_eq, kI_lt, kI_le, kI_neg1, neg1_kI, neg1_lt0, neg1_0le, kO_none, kO_some, nm_eq, bnd_some, rz_0, rz_1, zb_0, zb_1, rd_kI, wrI_kI, wrL_kI, dvI_kI, rmI_kI, if_true, if_false, ite_true, ite_false, reduceIte, Nat.lt_irrefl, Nat.le_refl, not_true, not_false_iff, true_and, and_true, false_and, and_false, and_self, Bool.false_eq_true, eq_self, Decidable.not_not]
theorem isOne_no {μ : Mm} {P : Pa} (h : PC μ P) {x : Int32} (hx : ∀ k, k < pN P → x ≠ kI k) : F_X4_isOne x μ = some (kI 0, μ) := by
  have hn := h.n7
  unfold F_X4_isOne
  rcases i32_cases x with q | ⟨k, k1, rfl⟩
  · simp (disch := omega) only [iI_lit, neg_lt q, iI_lit, kI_add, kI_mul, kI_eq, kI_lt, kI_le, kI_neg1, neg1_kI, neg1_lt0, neg1_0le, kO_none, kO_some, nm_eq, bnd_some, rz_0, rz_1, zb_0, zb_1, rd_kI, wrI_kI, wrL_kI, dvI_kI, rmI_kI, if_true, if_false, ite_true, ite_false, reduceIte, Nat.lt_irrefl, Nat.le_refl, not_true, not_false_iff, true_and, and_true, false_and, and_false, and_self, Bool.false_eq_true, eq_self, Decidable.not_not]
  · have : pN P ≤ k := by
      rcases Nat.lt_or_ge k (pN P) with z | z
      · exact absurd rfl (hx k z)
      · exact z
    simp (disch := omega) only [h.n, Nat.not_lt_zero, this, iI_lit, kI_add, kI_mul, kI_eq, kI_lt, kI_le, kI_neg1, neg1_kI, neg1_lt0, neg1_0le, kO_none, kO_some, nm_eq, bnd_some, rz_0, rz_1, zb_0, zb_1, rd_kI, wrI_kI, wrL_kI, dvI_kI, rmI_kI, if_true, if_false, ite_true, ite_false, reduceIte, Nat.lt_irrefl, Nat.le_refl, not_true, not_false_iff, true_and, and_true, false_and, and_false, and_self, Bool.false_eq_true, eq_self, Decidable.not_not]
theorem per_cases (n : Nat) (x : Int32) : (∃ k, k < n ∧ x = kI k) ∨ ∀ k, k < n → x ≠ kI k := by
  by_cases h : ∃ k, k < n ∧ x = kI k
  · exact Or.inl h
  · exact Or.inr fun k h1 h2 => h ⟨k, h1, h2⟩
theorem pair_cases (n : Nat) (x : Int32) : (∃ p k, p < n ∧ k < n ∧ x = kI (10 * p + k)) ∨ ∀ p k, p < n → k < n → x ≠ kI (10 * p + k) := by
  by_cases h : ∃ p k, p < n ∧ k < n ∧ x = kI (10 * p + k)
  · exact Or.inl h
  · exact Or.inr fun p k h1 h2 h3 => h ⟨p, k, h1, h2, h3⟩
theorem isPair_yes {μ : Mm} {P : Pa} (h : PC μ P) {p k : Nat} (hp : p < pN P) (hk : k < pN P) : F_X4_isPair (kI (10 * p + k)) μ = some (kI 1, μ) := by
  have hn := h.n7
  have e1 := isOne_yes h hp
  have e2 := isOne_yes h hk
  unfold F_X4_isPair
  simp (disch := omega) only [Nat.not_lt_zero, show ¬ 70 ≤ 10 * p + k by omega, show (10 * p + k) / 10 = p by omega, show (10 * p + k) % 10 = k by omega, e1, e2, Nat.one_ne_zero, iI_lit, kI_add, kI_mul, kI_eq, kI_lt, kI_le, kI_neg1, neg1_kI, neg1_lt0, neg1_0le, kO_none, kO_some, nm_eq, bnd_some, rz_0, rz_1, zb_0, zb_1, rd_kI, wrI_kI, wrL_kI, dvI_kI, rmI_kI, if_true, if_false, ite_true, ite_false, reduceIte, Nat.lt_irrefl, Nat.le_refl, not_true, not_false_iff, true_and, and_true, false_and, and_false, and_self, Bool.false_eq_true, eq_self, Decidable.not_not]
theorem isPair_no {μ : Mm} {P : Pa} (h : PC μ P) {x : Int32} (hx : ∀ p k, p < pN P → k < pN P → x ≠ kI (10 * p + k)) : F_X4_isPair x μ = some (kI 0, μ) := by
  have hn := h.n7
  unfold F_X4_isPair
  rcases i32_cases x with q | ⟨v, v1, rfl⟩
  · simp (disch := omega) only [neg_lt q, iI_lit, kI_add, kI_mul, kI_eq, kI_lt, kI_le, kI_neg1, neg1_kI, neg1_lt0, neg1_0le, kO_none, kO_some, nm_eq, bnd_some, rz_0, rz_1, zb_0, zb_1, rd_kI, wrI_kI, wrL_kI, dvI_kI, rmI_kI, if_true, if_false, ite_true, ite_false, reduceIte, Nat.lt_irrefl, Nat.le_refl, not_true, not_false_iff, true_and, and_true, false_and, and_false, and_self, Bool.false_eq_true, eq_self, Decidable.not_not]
  · by_cases z : 70 ≤ v
    · simp (disch := omega) only [Nat.not_lt_zero, z, iI_lit, kI_add, kI_mul, kI_eq, kI_lt, kI_le, kI_neg1, neg1_kI, neg1_lt0, neg1_0le, kO_none, kO_some, nm_eq, bnd_some, rz_0, rz_1, zb_0, zb_1, rd_kI, wrI_kI, wrL_kI, dvI_kI, rmI_kI, if_true, if_false, ite_true, ite_false, reduceIte, Nat.lt_irrefl, Nat.le_refl, not_true, not_false_iff, true_and, and_true, false_and, and_false, and_self, Bool.false_eq_true, eq_self, Decidable.not_not]
    · by_cases y : v / 10 < pN P
      · have e1 := isOne_yes h y
        have e2 := isOne_no h (x := kI (v % 10)) (fun k h1 h2 => by
          rw [kI_eq (by omega) (by omega)] at h2
          exact hx (v / 10) k y h1 (by congr 1; omega))
        simp (disch := omega) only [Nat.not_lt_zero, z, e1, e2, Nat.one_ne_zero, iI_lit, kI_add, kI_mul, kI_eq, kI_lt, kI_le, kI_neg1, neg1_kI, neg1_lt0, neg1_0le, kO_none, kO_some, nm_eq, bnd_some, rz_0, rz_1, zb_0, zb_1, rd_kI, wrI_kI, wrL_kI, dvI_kI, rmI_kI, if_true, if_false, ite_true, ite_false, reduceIte, Nat.lt_irrefl, Nat.le_refl, not_true, not_false_iff, true_and, and_true, false_and, and_false, and_self, Bool.false_eq_true, eq_self, Decidable.not_not]
      · have e1 := isOne_no h (x := kI (v / 10)) (fun k h1 h2 => by
          rw [kI_eq (by omega) (by omega)] at h2
          omega)
        simp (disch := omega) only [Nat.not_lt_zero, z, e1, iI_lit, kI_add, kI_mul, kI_eq, kI_lt, kI_le, kI_neg1, neg1_kI, neg1_lt0, neg1_0le, kO_none, kO_some, nm_eq, bnd_some, rz_0, rz_1, zb_0, zb_1, rd_kI, wrI_kI, wrL_kI, dvI_kI, rmI_kI, if_true, if_false, ite_true, ite_false, reduceIte, Nat.lt_irrefl, Nat.le_refl, not_true, not_false_iff, true_and, and_true, false_and, and_false, and_self, Bool.false_eq_true, eq_self, Decidable.not_not]
/-- a switch over n numbers from 0 on -/
theorem tsw0_at {β : Type} {k : Nat} {fs : List (Option β)} {d : Option β} (h : k < fs.length) (hk : k < 2147483648) : tsw (kI k) 0 fs d = fs.getD k d := by
  have := tsw_kI hk (lo := 0) (fs := fs) (d := d)
  rw [if_pos (by omega)] at this
  exact this
theorem tsw0_out {β : Type} {x : Int32} {fs : List (Option β)} {d : Option β} (h : ∀ k, k < fs.length → x ≠ kI k) (hl : fs.length < 1000) : tsw x 0 fs d = d := by
  rcases i32_cases x with q | ⟨k, k1, rfl⟩
  · exact tsw_neg q
  · have := tsw_kI k1 (lo := 0) (fs := fs) (d := d)
    rw [if_neg (fun z => h k (by omega) rfl)] at this
    exact this
