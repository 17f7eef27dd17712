/-! THE SHELVES OF BOTH -/
theorem iI_lt2 {a b : Int} (ha : -2147483648 ≤ a ∧ a < 2147483648) (hb : -2147483648 ≤ b ∧ b < 2147483648) : (iI a < iI b) ↔ a < b := by
  rw [Int32.lt_iff_toInt_lt, iI_toInt ha.1 ha.2, iI_toInt hb.1 hb.2]
theorem iI_le2 {a b : Int} (ha : -2147483648 ≤ a ∧ a < 2147483648) (hb : -2147483648 ≤ b ∧ b < 2147483648) : (iI a ≤ iI b) ↔ a ≤ b := by
  rw [Int32.le_iff_toInt_le, iI_toInt ha.1 ha.2, iI_toInt hb.1 hb.2]
theorem kI_iI (k : Nat) : kI k = iI (k : Int) := rfl
theorem iI_sub2 (a b : Int) : iI a - iI b = iI (a - b) := by
  unfold iI
  rw [← Int32.ofInt_sub]
theorem isShelf_yes {μ : Mm} {s : Nat} (h : s < 6) : F_X5_isShelf (kI s) μ = some (kI 1, μ) := by
  unfold F_X5_isShelf
  simp (disch := omega) only [Nat.not_lt_zero, show ¬ 6 ≤ s by omega, iI_lit, kI_add, kI_mul, kI_eq, kI_lt, kI_le, kI_neg1, neg1_kI, neg1_lt0, neg1_0le, kO_none, kO_some, nm_eq, bnd_some, rz_0, rz_1, zb_0, zb_1, rd_kI, wrI_kI, wrL_kI, dvI_kI, rmI_kI, if_true, if_false, ite_true, ite_false, reduceIte, Nat.lt_irrefl, Nat.le_refl, not_true, not_false_iff, true_and, and_true, false_and, and_false, and_self, Bool.false_eq_true, eq_self, Decidable.not_not]
theorem isShelf_no {μ : Mm} {x : Int32} (h : ∀ s, s < 6 → x ≠ kI s) : F_X5_isShelf x μ = some (kI 0, μ) := by
  unfold F_X5_isShelf
  rcases i32_cases x with q | ⟨k, k1, rfl⟩
  · simp (disch := omega) only [iI_lit, neg_lt q, iI_lit, kI_add, kI_mul, kI_eq, kI_lt, kI_le, kI_neg1, neg1_kI, neg1_lt0, neg1_0le, kO_none, kO_some, nm_eq, bnd_some, rz_0, rz_1, zb_0, zb_1, rd_kI, wrI_kI, wrL_kI, dvI_kI, rmI_kI, if_true, if_false, ite_true, ite_false, reduceIte, Nat.lt_irrefl, Nat.le_refl, not_true, not_false_iff, true_and, and_true, false_and, and_false, and_self, Bool.false_eq_true, eq_self, Decidable.not_not]
  · have : 6 ≤ k := by
      rcases Nat.lt_or_ge k 6 with z | z
      · exact absurd rfl (h k z)
      · exact z
    simp (disch := omega) only [Nat.not_lt_zero, this, iI_lit, kI_add, kI_mul, kI_eq, kI_lt, kI_le, kI_neg1, neg1_kI, neg1_lt0, neg1_0le, kO_none, kO_some, nm_eq, bnd_some, rz_0, rz_1, zb_0, zb_1, rd_kI, wrI_kI, wrL_kI, dvI_kI, rmI_kI, if_true, if_false, ite_true, ite_false, reduceIte, Nat.lt_irrefl, Nat.le_refl, not_true, not_false_iff, true_and, and_true, false_and, and_false, and_self, Bool.false_eq_true, eq_self, Decidable.not_not]
theorem k1_ne0 : ¬ (kI 1 = iI 0) := by rw [iI_lit, kI_eq (by omega) (by omega)]; omega
theorem k0_eq0 : kI 0 = iI 0 := rfl
/-- what lies on a shelf, as the class has it, and as the reference has it -/
def shC8 (μ : Mm) (s : Nat) (o : Option (Nat × Nat) ⊕ Nat) : Prop := match o with
  | .inl none => gI μ 104 s = iI (-2)
  | .inl (some (q, n)) => gI μ 104 s = kI q ∧ gI μ 105 s = kI n
  | .inr b => gI μ 104 s = iI (-1) ∧ gI μ 105 s = kI b
def shC9 (μ : Mm) (s : Nat) (o : Option (Nat × Nat) ⊕ Nat) : Prop := match o with
  | .inl none => gI μ 153 s = iI (-1)
  | .inl (some (q, n)) => gI μ 153 s = iI (-2 - (q : Int)) ∧ gI μ 154 s = kI n
  | .inr b => gI μ 153 s = kI b
def shOk (o : Option (Nat × Nat) ⊕ Nat) : Prop := match o with
  | .inl none => True
  | .inl (some (q, n)) => q ≤ 4 ∧ n ≤ 60
  | .inr b => b < 50
theorem she_get {μ : Mm} (h : IShe μ) (hb : IBod μ) {s : Nat} (hs : s < 6) : ∃ o, shOk o ∧ shC8 μ s o ∧ shC9 μ s o := by
  rcases h s hs with ⟨h1, h2⟩ | ⟨b, c, h1, h2, h3, h4, h5, h6⟩ | ⟨q, n, h0, h1, h2, h3, h4, h5, h6⟩
  · exact ⟨.inl none, trivial, h1, h2⟩
  · exact ⟨.inr b, by show b < 50; omega, ⟨h1, h2⟩, h3⟩
  · exact ⟨.inl (some (q, n)), ⟨h0, h1⟩, ⟨h2, h3⟩, ⟨h4, h5⟩⟩
theorem isEmpty_eq {μ : Mm} {s : Nat} {o : Option (Nat × Nat) ⊕ Nat} (hs : s < 6) (ho : shOk o) (h : shC8 μ s o) : F_X5_isEmpty (kI s) μ = some (match o with | .inl none => kI 1 | _ => kI 0, μ) := by
  unfold F_X5_isEmpty
  rw [rd_kI (by omega) (by omega)]
  match o, ho, h with
  | .inl none, _, h =>
    have h : gI μ 104 s = iI (-2) := h
    rw [h, if_pos rfl]; rfl
  | .inl (some (q, n)), ho, h =>
    have h : gI μ 104 s = kI q := h.1
    have ho : q ≤ 4 := ho.1
    rw [h, if_neg (by rw [kI_iI, iI_eq (by omega) (by omega)]; omega)]; rfl
  | .inr b, _, h =>
    have h : gI μ 104 s = iI (-1) := h.1
    rw [h, if_neg (by rw [iI_eq (by omega) (by omega)]; omega)]; rfl
theorem isRow_eq {μ : Mm} {s : Nat} {o : Option (Nat × Nat) ⊕ Nat} (hs : s < 6) (ho : shOk o) (h : shC8 μ s o) : F_X5_isRow (kI s) μ = some (match o with | .inl (some _) => kI 1 | _ => kI 0, μ) := by
  unfold F_X5_isRow
  rw [rd_kI (by omega) (by omega)]
  match o, ho, h with
  | .inl none, _, h =>
    have h : gI μ 104 s = iI (-2) := h
    rw [h, if_pos (by rw [iI_lt2 (by omega) (by omega)]; omega)]; rfl
  | .inl (some (q, n)), ho, h =>
    have h : gI μ 104 s = kI q := h.1
    have ho : q ≤ 4 := ho.1
    rw [h, if_neg (by rw [iI_lit, kI_lt (by omega) (by omega)]; omega)]; rfl
  | .inr b, _, h =>
    have h : gI μ 104 s = iI (-1) := h.1
    rw [h, if_pos (by rw [iI_lt2 (by omega) (by omega)]; omega)]; rfl
/-- why a row has no such element -/
def whyI (o : Option (Nat × Nat) ⊕ Nat) (x : Int32) : Int := match o with
  | .inl none => -11
  | .inl (some (_, n)) => if 0 ≤ x.toInt ∧ x.toInt < n then 0 else -13
  | .inr _ => -12
theorem whyI_row {q n : Nat} {x : Int32} : whyI (.inl (some (q, n))) x = if 0 ≤ x.toInt ∧ x.toInt < n then 0 else -13 := rfl
theorem refElem_eq {μ : Mm} {s : Nat} {x : Int32} {o : Option (Nat × Nat) ⊕ Nat} (hs : s < 6) (ho : shOk o) (h : shC8 μ s o) : F_X5_refusalOfElement (kI s) x μ = some (iI (whyI o x), μ) := by
  have e1 := isEmpty_eq hs ho h
  have e2 := isRow_eq hs ho h
  unfold F_X5_refusalOfElement
  rw [bnd_eq (isShelf_yes hs), if_neg k1_ne0, bnd_eq e1]
  match o, ho, h with
  | .inl none, _, h =>
    show (if kI 1 = iI 0 then _ else some (iI (-11), μ)) = _
    rw [if_neg k1_ne0]; rfl
  | .inl (some (q, n)), ho, h =>
    have h : gI μ 105 s = kI n := h.2
    have ho : n ≤ 60 := ho.2
    show (if kI 0 = iI 0 then bnd (F_X5_isRow (kI s) μ) _ else _) = _
    rw [if_pos k0_eq0, bnd_eq e2]
    show (if kI 1 = iI 0 then _ else (if x < iI 0 then _ else _)) = _
    rw [if_neg k1_ne0]
    rw [whyI_row]
    rcases i32_cases x with q | ⟨k, k1, rfl⟩
    · rw [if_pos (by rw [iI_lit, neg_lt q (by omega)]; trivial), if_neg (by omega)]
    · rw [if_neg (by rw [iI_lit, kI_lt (by omega) (by omega)]; omega), rd_kI (by omega) (by omega), h]
      by_cases z : n ≤ k
      · rw [if_pos (by rw [kI_le (by omega) (by omega)]; exact z), if_neg (by rw [kI_toInt k1]; omega)]
      · rw [if_neg (by rw [kI_le (by omega) (by omega)]; exact z), if_pos (by rw [kI_toInt k1]; omega)]
  | .inr b, _, h =>
    show (if kI 0 = iI 0 then bnd (F_X5_isRow (kI s) μ) _ else _) = _
    rw [if_pos k0_eq0, bnd_eq e2]
    show (if kI 0 = iI 0 then some (iI (-12), μ) else _) = _
    rw [if_pos k0_eq0]; rfl
theorem whyI_0 {o : Option (Nat × Nat) ⊕ Nat} {x : Int32} (h : whyI o x = 0) : ∃ q n i, o = .inl (some (q, n)) ∧ x = kI i ∧ i < n := by
  match o, h with
  | .inl none, h => exact absurd h (by show ¬ (-11 : Int) = 0; omega)
  | .inr b, h => exact absurd h (by show ¬ (-12 : Int) = 0; omega)
  | .inl (some (q, n)), h =>
    have h : (if 0 ≤ x.toInt ∧ x.toInt < n then (0 : Int) else -13) = 0 := h
    split at h
    · next z =>
      rcases i32_cases x with y | ⟨k, k1, rfl⟩
      · omega
      · rw [kI_toInt k1] at z
        exact ⟨q, n, k, rfl, rfl, by omega⟩
    · exact absurd h (by omega)
theorem whyI_neg {o : Option (Nat × Nat) ⊕ Nat} {x : Int32} (h : whyI o x ≠ 0) : -100 ≤ whyI o x ∧ whyI o x < 0 := by
  match o, h with
  | .inl none, h => exact ⟨by show (-100 : Int) ≤ -11; omega, by show (-11 : Int) < 0; omega⟩
  | .inr b, h => exact ⟨by show (-100 : Int) ≤ -12; omega, by show (-12 : Int) < 0; omega⟩
  | .inl (some (q, n)), h =>
    have h : (if 0 ≤ x.toInt ∧ x.toInt < n then (0 : Int) else -13) ≠ 0 := h
    show -100 ≤ (if 0 ≤ x.toInt ∧ x.toInt < n then (0 : Int) else -13) ∧ (if 0 ≤ x.toInt ∧ x.toInt < n then (0 : Int) else -13) < 0
    split at h
    · exact absurd rfl h
    · next z => rw [if_neg z]; omega
