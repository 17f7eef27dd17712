/-! PUT, KEEP, ROW, TAKEN OF BOTH -/
/-- what a row of a sort keeps of a number -/
def lowB (q : Nat) (v : Int64) : Int64 := if q = 0 then ((v.toInt32).toInt8.toInt32).toInt64 else if q = 1 then ((v.toInt32).toInt16.toInt32).toInt64 else if q = 2 then (v.toInt32).toInt64 else if q = 3 then v else if lg_cmp v (iL 0) = iI 0 then iL 0 else iL 1
theorem lowestBits_eq {μ : Mm} {q : Nat} (hq : q ≤ 4) (v : Int64) : F_X5_lowestBits (kI q) v μ = some (lowB q v, μ) := by
  unfold F_X5_lowestBits
  rw [tsw5_at hq]
  have h : q = 0 ∨ q = 1 ∨ q = 2 ∨ q = 3 ∨ q = 4 := by omega
  rcases h with rfl | rfl | rfl | rfl | rfl
  · rfl
  · rfl
  · rfl
  · rfl
  · simp only [List.getD_cons_zero, List.getD_cons_succ]
    show _ = some (if lg_cmp v (iL 0) = iI 0 then iL 0 else iL 1, μ)
    split <;> rfl
theorem she_row {μ : Mm} (h : IShe μ) {s q n : Nat} (hs : s < 6) (h8 : shC8 μ s (.inl (some (q, n)))) (ho : shOk (.inl (some (q, n)))) : ∀ i, i < 60 → gL μ (107 + s) i = gL μ 155 (60 * s + i) := by
  have hq : q ≤ 4 := ho.1
  have h104 : gI μ 104 s = kI q := h8.1
  rcases h s hs with ⟨h1, h2⟩ | ⟨b, c, h1, h2, h3, h4, h5, h6⟩ | ⟨q', n', h0, h1, h2, h3, h4, h5, h6⟩
  · rw [h1, kI_iI, iI_eq (by omega) (by omega)] at h104; omega
  · rw [h1, kI_iI, iI_eq (by omega) (by omega)] at h104; omega
  · exact h6
theorem she_other {μ μ1 : Mm} {s : Nat} (h : IShe μ) (hI : ∀ a j, ¬ ((a = 104 ∨ a = 105 ∨ a = 153 ∨ a = 154) ∧ j = s) → gI μ1 a j = gI μ a j) (hL : ∀ t i, t < 6 → t ≠ s → i < 60 → gL μ1 (107 + t) i = gL μ (107 + t) i ∧ gL μ1 155 (60 * t + i) = gL μ 155 (60 * t + i)) (hs : she1 μ1 s) : IShe μ1 := by
  intro t ht
  by_cases z : t = s
  · rw [z]; exact hs
  · rcases h t ht with ⟨h1, h2⟩ | ⟨b, c, h1, h2, h3, h4, h5⟩ | ⟨q, n, h0, h1, h2, h3, h4, h5, h6⟩
    · exact Or.inl ⟨by rw [hI _ _ (by omega)]; exact h1, by rw [hI _ _ (by omega)]; exact h2⟩
    · refine Or.inr (Or.inl ⟨b, c, ?_, ?_, ?_, ?_, h5⟩)
      all_goals (rw [hI _ _ (by omega)]; assumption)
    · refine Or.inr (Or.inr ⟨q, n, h0, h1, ?_, ?_, ?_, ?_, fun i hi => ?_⟩)
      · rw [hI _ _ (by omega)]; exact h2
      · rw [hI _ _ (by omega)]; exact h3
      · rw [hI _ _ (by omega)]; exact h4
      · rw [hI _ _ (by omega)]; exact h5
      · obtain ⟨g1, g2⟩ := hL t i ht z hi
        rw [g1, g2]; exact h6 i hi
theorem fillL_loop {r L : Nat} {v : Int64} (hr : (shp r).2 = L) (hL : L ≤ 1000) : ∀ c i f (μ : Mm), i + c = L → c < f → ∃ μ', F_J7_fill_d0a16_6 r f v (kI i) (kI L) μ = some ((), μ') ∧ (∀ j, i ≤ j → j < L → gL μ' r j = v) ∧ (∀ a j, (a ≠ r ∨ j < i) → gL μ' a j = gL μ a j) ∧ (∀ a j, gI μ' a j = gI μ a j) ∧ ∀ a j, gR μ' a j = gR μ a j := by
  intro c
  induction c with
  | zero =>
    intro i f μ hi hf
    obtain ⟨f, rfl⟩ : ∃ g, f = g + 1 := ⟨f - 1, by omega⟩
    refine ⟨μ, ?_, fun j h1 h2 => absurd h2 (by omega), fun a j _ => rfl, fun _ _ => rfl, fun _ _ => rfl⟩
    unfold F_J7_fill_d0a16_6
    simp (disch := omega) only [show L ≤ i by omega, iI_lit, kI_add, kI_mul, kI_eq, kI_lt, kI_le, kI_neg1, neg1_kI, neg1_lt0, neg1_0le, kO_none, kO_some, nm_eq, bnd_some, rz_0, rz_1, zb_0, zb_1, rd_kI, wrI_kI, wrL_kI, dvI_kI, rmI_kI, if_true, if_false, ite_true, ite_false, reduceIte, Nat.lt_irrefl, Nat.le_refl, not_true, not_false_iff, true_and, and_true, false_and, and_false, and_self, Bool.false_eq_true, eq_self, Decidable.not_not]
  | succ c ih =>
    intro i f μ hi hf
    obtain ⟨f, rfl⟩ : ∃ g, f = g + 1 := ⟨f - 1, by omega⟩
    obtain ⟨μ', i1, i2, i3, i4, i5⟩ := ih (i + 1) f (pL μ r i v) (by omega) (by omega)
    refine ⟨μ', ?_, fun j h1 h2 => ?_, fun a j h1 => ?_, fun a j => i4 a j, fun a j => i5 a j⟩
    · unfold F_J7_fill_d0a16_6
      simp (disch := omega) only [hr, show ¬ L ≤ i by omega, i1, iI_lit, kI_add, kI_mul, kI_eq, kI_lt, kI_le, kI_neg1, neg1_kI, neg1_lt0, neg1_0le, kO_none, kO_some, nm_eq, bnd_some, rz_0, rz_1, zb_0, zb_1, rd_kI, wrI_kI, wrL_kI, dvI_kI, rmI_kI, if_true, if_false, ite_true, ite_false, reduceIte, Nat.lt_irrefl, Nat.le_refl, not_true, not_false_iff, true_and, and_true, false_and, and_false, and_self, Bool.false_eq_true, eq_self, Decidable.not_not]
    · by_cases z : j = i
      · rw [i3 r j (Or.inr (by omega)), gL_pL, if_pos ⟨rfl, z⟩]
      · exact i2 j (by omega) h2
    · rw [i3 a j (by omega), gL_pL, if_neg (by omega)]
theorem fillL_eq {r L : Nat} {v : Int64} {μ : Mm} (hr : shp r = (5, L)) (hL : L ≤ 1000) : ∃ μ', F_J7_fill_d0a16 r v μ = some ((), μ') ∧ (∀ j, j < L → gL μ' r j = v) ∧ (∀ a j, a ≠ r → gL μ' a j = gL μ a j) ∧ (∀ a j, gI μ' a j = gI μ a j) ∧ ∀ a j, gR μ' a j = gR μ a j := by
  obtain ⟨μ', i1, i2, i3, i4, i5⟩ := fillL_loop (r := r) (L := L) (v := v) (by rw [hr]) hL L 0 FU μ (by omega) (by unfold FU; omega)
  refine ⟨μ', ?_, fun j h => i2 j (Nat.zero_le _) h, fun a j h => i3 a j (Or.inl h), i4, i5⟩
  unfold F_J7_fill_d0a16
  rw [hr, if_pos rfl, nm_eq, iI_lit]
  exact i1
