/-! PUT, KEEP, ROW, TAKEN OF BOTH -/
/-- what a row of a sort keeps of a number -/
def lowB (q : Nat) (v : Int64) : Int64 := if q = 0 then ((v.toInt32).toInt8.toInt32).toInt64 else if q = 1 then ((v.toInt32).toInt16.toInt32).toInt64 else if q = 2 then (v.toInt32).toInt64 else if q = 3 then v else if lg_cmp v (iL 0) = iI 0 then iL 0 else iL 1
theorem lowestBits_eq {μ : Mm} {q : Nat} (hq : q ≤ 4) (v : Int64) : F_X5_lowestBits (kI q) v μ = some (lowB q v, μ) := by
  unfold F_X5_lowestBits
  rw [tsw5_at hq]
  have h : q = 0 ∨ q = 1 ∨ q = 2 ∨ q = 3 ∨ q = 4 := by omega
  rcases h with rfl | rfl | rfl | rfl | rfl
  · rfl
  · rfl
  · rfl
  · rfl
  · simp only [List.getD_cons_zero, List.getD_cons_succ]
    show _ = some (if lg_cmp v (iL 0) = iI 0 then iL 0 else iL 1, μ)
    split <;> rfl
theorem she_row {μ : Mm} (h : IShe μ) {s q n : Nat} (hs : s < 6) (h8 : shC8 μ s (.inl (some (q, n)))) (ho : shOk (.inl (some (q, n)))) : ∀ i, i < 60 → gL μ (107 + s) i = gL μ 155 (60 * s + i) := by
  have hq : q ≤ 4 := ho.1
  have h104 : gI μ 104 s = kI q := h8.1
  rcases h s hs with ⟨h1, h2⟩ | ⟨b, c, h1, h2, h3, h4, h5, h6⟩ | ⟨q', n', h0, h1, h2, h3, h4, h5, h6⟩
  · rw [h1, kI_iI, iI_eq (by omega) (by omega)] at h104; omega
  · rw [h1, kI_iI, iI_eq (by omega) (by omega)] at h104; omega
  · exact h6
theorem g_put (x y : Int32) (v : Int64) : Good (F_X8_put x y v) (F_X9_put x y v) := by
  intro μ hI
  rcases per_cases 6 x with ⟨s, hs, rfl⟩ | hx
  · obtain ⟨o, o1, o2, o3⟩ := she_get hI.she hI.bod hs
    have e1 := refElem_eq (x := y) hs o1 o2
    by_cases hz : whyI o y = 0
    · obtain ⟨q, n, i, rfl, rfl, hi⟩ := whyI_0 hz
      have hq : q ≤ 4 := o1.1
      have hn : n ≤ 60 := o1.2
      have h104 : gI μ 104 s = kI q := o2.1
      have h153 : gI μ 153 s = iI (-2 - (q : Int)) := o3.1
      have e2 := whyNo_eq (μ := pL μ (107 + s) i (lowB q v)) (x := kI i) hs o1 o3
      rw [hz] at e1 e2
      have hrow := she_row hI.she hs o2 o1
      refine ⟨kI 1, pL μ (107 + s) i (lowB q v), pL (pL μ (107 + s) i (lowB q v)) 155 (60 * s + i) (lowB q v), ?_, ?_, hI.shel (fun a j _ => rfl) (fun a j => rfl) (fun t ht => ?_)⟩
      · unfold F_X8_put
        rw [bnd_eq e1, if_pos rfl, rd_kI (by omega) (by omega), rd_kI (by omega) (by omega), h104, bnd_eq (lowestBits_eq hq v), wrL_kI (by omega) (by omega), Nat.one_mul]
        rfl
      · unfold F_X9_put
        rw [bnd_eq e2, if_pos (by rw [iI_le2 (by omega) (by omega)]; omega), rd_kI (by omega) (by omega), gI_pL, h153, iI_sub2, nm_eq, show (-2 : Int) - (-2 - (q : Int)) = (q : Int) by omega, ← kI_iI]
        have w : ∀ u : Int64, (wrL 360 (pL μ (107 + s) i (lowB q v)) 155 (iI 60 * kI s + kI i) u fun m10 => some (iI 1, m10)) = some (kI 1, pL (pL μ (107 + s) i (lowB q v)) 155 (60 * s + i) u) := fun u => by
          rw [iI_lit, kI_mul, kI_add, wrL_kI (by omega) (by omega)]
          rfl
        have h : q = 0 ∨ q = 1 ∨ q = 2 ∨ q = 3 ∨ q = 4 := by omega
        rcases h with rfl | rfl | rfl | rfl | rfl
        · rw [if_pos k0_eq0, w]; rfl
        · rw [if_neg k1_ne0, if_pos (show kI 1 = iI 1 from rfl), w]; rfl
        · rw [if_neg (by rw [iI_lit, kI_eq (by omega) (by omega)]; omega), if_neg (by rw [iI_lit, kI_eq (by omega) (by omega)]; omega), if_pos (show kI 2 = iI 2 from rfl), w]; rfl
        · rw [if_neg (by rw [iI_lit, kI_eq (by omega) (by omega)]; omega), if_neg (by rw [iI_lit, kI_eq (by omega) (by omega)]; omega), if_neg (by rw [iI_lit, kI_eq (by omega) (by omega)]; omega), if_pos (show kI 3 = iI 3 from rfl), w]; rfl
        · rw [if_neg (by rw [iI_lit, kI_eq (by omega) (by omega)]; omega), if_neg (by rw [iI_lit, kI_eq (by omega) (by omega)]; omega), if_neg (by rw [iI_lit, kI_eq (by omega) (by omega)]; omega), if_neg (by rw [iI_lit, kI_eq (by omega) (by omega)]; omega), w, w]
          show _ = some (kI 1, pL (pL μ (107 + s) i (lowB 4 v)) 155 (60 * s + i) (if lg_cmp v (iL 0) = iI 0 then iL 0 else iL 1))
          split <;> rfl
      · rcases hI.she t ht with ⟨h1, h2⟩ | ⟨b, c, h1, h2, h3, h4, h5, h6⟩ | ⟨q', n', h0, h1, h2, h3, h4, h5, h6⟩
        · exact Or.inl ⟨h1, h2⟩
        · exact Or.inr (Or.inl ⟨b, c, h1, h2, h3, h4, h5, h6⟩)
        · refine Or.inr (Or.inr ⟨q', n', h0, h1, h2, h3, h4, h5, fun j hj => ?_⟩)
          by_cases z : t = s
          · subst z
            by_cases w : j = i
            · subst w
              simp [gL_pL]
            · have d1 : ¬ (60 * t + j = 60 * t + i) := by omega
              have d2 : ¬ (107 + t = 155) := by omega
              have d3 : ¬ (155 = 107 + t) := by omega
              rw [gL_pL, if_neg (fun z => d2 z.1), gL_pL, if_neg (fun z => w z.2), gL_pL, if_neg (fun z => d1 z.2), gL_pL, if_neg (fun z => d3 z.1)]
              exact h6 j hj
          · have d0 : ¬ (107 + t = 107 + s) := by omega
            have d1 : ¬ (60 * t + j = 60 * s + i) := by omega
            have d2 : ¬ (107 + t = 155) := by omega
            have d3 : ¬ (155 = 107 + s) := by omega
            rw [gL_pL, if_neg (fun z => d2 z.1), gL_pL, if_neg (fun z => d0 z.1), gL_pL, if_neg (fun z => d1 z.2), gL_pL, if_neg (fun z => d3 z.1)]
            exact h6 j hj
    · have hneg := whyI_neg hz
      have e2 := whyNo_eq (x := y) hs o1 o3
      refine Good.bad (v := iI (whyI o y)) hI ?_ ?_
      · unfold F_X8_put
        rw [bnd_eq e1, if_neg (by rw [iI_eq (by omega) (by omega)]; omega)]
      · unfold F_X9_put
        rw [bnd_eq e2, if_neg (by rw [iI_le2 (by omega) (by omega)]; omega)]
  · refine Good.bad (v := iI (-1)) hI ?_ ?_
    · have e1 : F_X5_refusalOfElement x y μ = some (iI (-1), μ) := by
        unfold F_X5_refusalOfElement
        rw [bnd_eq (isShelf_no hx)]; rfl
      unfold F_X8_put
      rw [bnd_eq e1, if_neg (by rw [iI_eq (by omega) (by omega)]; omega)]
    · have e1 : F_X9_whyNoPlace x y μ = some (iI (-1), μ) := by
        unfold F_X9_whyNoPlace
        rw [bnd_eq (isShelf9_no hx)]; rfl
      unfold F_X9_put
      rw [bnd_eq e1, if_neg (by rw [iI_le2 (by omega) (by omega)]; omega)]
theorem isThere_yes {μ : Mm} {b c : Nat} (hc : c ≤ 50) (h : gI μ 100 1 = kI c) (hb : b < c) : F_X0_isThere (kI b) μ = some (kI 1, μ) := by
  unfold F_X0_isThere
  rw [h]
  simp (disch := omega) only [Nat.not_lt_zero, show ¬ c ≤ b by omega, iI_lit, kI_add, kI_mul, kI_eq, kI_lt, kI_le, kI_neg1, neg1_kI, neg1_lt0, neg1_0le, kO_none, kO_some, nm_eq, bnd_some, rz_0, rz_1, zb_0, zb_1, rd_kI, wrI_kI, wrL_kI, dvI_kI, rmI_kI, if_true, if_false, ite_true, ite_false, reduceIte, Nat.lt_irrefl, Nat.le_refl, not_true, not_false_iff, true_and, and_true, false_and, and_false, and_self, Bool.false_eq_true, eq_self, Decidable.not_not]
theorem isThere_no {μ : Mm} {x : Int32} {c : Nat} (hc : c ≤ 50) (h : gI μ 100 1 = kI c) (hx : ∀ b, b < c → x ≠ kI b) : F_X0_isThere x μ = some (kI 0, μ) := by
  unfold F_X0_isThere
  rw [h]
  rcases i32_cases x with q | ⟨k, k1, rfl⟩
  · simp (disch := omega) only [iI_lit, neg_lt q, iI_lit, kI_add, kI_mul, kI_eq, kI_lt, kI_le, kI_neg1, neg1_kI, neg1_lt0, neg1_0le, kO_none, kO_some, nm_eq, bnd_some, rz_0, rz_1, zb_0, zb_1, rd_kI, wrI_kI, wrL_kI, dvI_kI, rmI_kI, if_true, if_false, ite_true, ite_false, reduceIte, Nat.lt_irrefl, Nat.le_refl, not_true, not_false_iff, true_and, and_true, false_and, and_false, and_self, Bool.false_eq_true, eq_self, Decidable.not_not]
  · have : c ≤ k := by
      rcases Nat.lt_or_ge k c with z | z
      · exact absurd rfl (hx k z)
      · exact z
    simp (disch := omega) only [Nat.not_lt_zero, this, iI_lit, kI_add, kI_mul, kI_eq, kI_lt, kI_le, kI_neg1, neg1_kI, neg1_lt0, neg1_0le, kO_none, kO_some, nm_eq, bnd_some, rz_0, rz_1, zb_0, zb_1, rd_kI, wrI_kI, wrL_kI, dvI_kI, rmI_kI, if_true, if_false, ite_true, ite_false, reduceIte, Nat.lt_irrefl, Nat.le_refl, not_true, not_false_iff, true_and, and_true, false_and, and_false, and_self, Bool.false_eq_true, eq_self, Decidable.not_not]
theorem isBody_yes {μ : Mm} {b c : Nat} (hc : c ≤ 50) (h : gI μ 113 56 = kI c) (hb : b < c) : F_X9_isBody (kI b) μ = some (kI 1, μ) := by
  have e : gI μ 113 56 - iI 1 = kI (c - 1) := by rw [h, iI_lit, kI_sub (by omega)]
  have hin : F_X9_in (kI b) (iI 0) (kI (c - 1)) μ = some (kI 1, μ) := in_yes (μ := μ) (k := b) (a := 0) (b := c - 1) (by omega) (by omega) (by omega)
  unfold F_X9_isBody
  rw [e, bnd_eq hin, rz_1]
theorem isBody_no {μ : Mm} {x : Int32} {c : Nat} (hc : c ≤ 50) (h : gI μ 113 56 = kI c) (hx : ∀ b, b < c → x ≠ kI b) : F_X9_isBody x μ = some (kI 0, μ) := by
  unfold F_X9_isBody
  by_cases c0 : c = 0
  · have e : gI μ 113 56 - iI 1 = iI (-1) := by rw [h, c0]; rfl
    rw [e]
    unfold F_X9_in
    rcases i32_cases x with q | ⟨k, k1, rfl⟩
    · rw [if_pos (by rw [iI_lit, neg_lt q (by omega)]; trivial)]; rfl
    · rw [if_neg (by rw [iI_lit, kI_lt (by omega) (by omega)]; omega), if_pos (by rw [kI_iI, iI_lt2 (by omega) (by omega)]; omega)]; rfl
  · have e : gI μ 113 56 - iI 1 = kI (c - 1) := by rw [h, iI_lit, kI_sub (by omega)]
    have hin : F_X9_in x (iI 0) (kI (c - 1)) μ = some (kI 0, μ) := in_no (μ := μ) (x := x) (a := 0) (b := c - 1) (by omega) (by omega) (fun k _ q => hx k (by omega))
    rw [e, bnd_eq hin, rz_0]
theorem she_other {μ μ1 : Mm} {s : Nat} (h : IShe μ) (hI : ∀ a j, ¬ ((a = 104 ∨ a = 105 ∨ a = 153 ∨ a = 154) ∧ j = s) → gI μ1 a j = gI μ a j) (hL : ∀ t i, t < 6 → t ≠ s → i < 60 → gL μ1 (107 + t) i = gL μ (107 + t) i ∧ gL μ1 155 (60 * t + i) = gL μ 155 (60 * t + i)) (hs : she1 μ1 s) : IShe μ1 := by
  intro t ht
  by_cases z : t = s
  · rw [z]; exact hs
  · rcases h t ht with ⟨h1, h2⟩ | ⟨b, c, h1, h2, h3, h4, h5⟩ | ⟨q, n, h0, h1, h2, h3, h4, h5, h6⟩
    · exact Or.inl ⟨by rw [hI _ _ (by omega)]; exact h1, by rw [hI _ _ (by omega)]; exact h2⟩
    · refine Or.inr (Or.inl ⟨b, c, ?_, ?_, ?_, ?_, h5⟩)
      all_goals (rw [hI _ _ (by omega)]; assumption)
    · refine Or.inr (Or.inr ⟨q, n, h0, h1, ?_, ?_, ?_, ?_, fun i hi => ?_⟩)
      · rw [hI _ _ (by omega)]; exact h2
      · rw [hI _ _ (by omega)]; exact h3
      · rw [hI _ _ (by omega)]; exact h4
      · rw [hI _ _ (by omega)]; exact h5
      · obtain ⟨g1, g2⟩ := hL t i ht z hi
        rw [g1, g2]; exact h6 i hi
theorem g_keep (x y : Int32) : Good (F_X8_keep x y) (F_X9_keep x y) := by
  intro μ hI
  obtain ⟨b, r, b1, b2, b3, b4, b5, b6, b7, b8⟩ := hI.bod
  rcases per_cases 6 x with ⟨s, hs, rfl⟩ | hx
  · by_cases y1 : y = iI (-1)
    · subst y1
      refine ⟨kI 1, pI (pI μ 104 s (iI (-2))) 105 s (iI (-1)), pI (pI (pI μ 104 s (iI (-2))) 105 s (iI (-1))) 153 s (iI (-1)), ?_, ?_, hI.shel (fun a j q => ?_) (fun a j => rfl) (she_other (s := s) hI.she (fun a j q => ?_) (fun t i _ _ _ => ⟨rfl, rfl⟩) (Or.inl ⟨by simp [gI_pI], by simp [gI_pI]⟩))⟩
      · unfold F_X8_keep F_X8_keep_29 F_X5_holdBody F_X5_holdBody_15
        rw [bnd_eq (isShelf_yes hs), if_neg k1_ne0, if_pos rfl, if_neg (by rw [iI_le2 (by omega) (by omega)]; omega), wrI_kI (by omega) (by omega), wrI_kI (by omega) (by omega)]
        rfl
      · unfold F_X9_keep F_X9_keep_22
        rw [bnd_eq (isShelf9_yes hs), if_neg k1_ne0, if_pos rfl, wrI_kI (by omega) (by omega)]
        rfl
      · rw [gI_pI, if_neg (by omega), gI_pI, if_neg (by omega), gI_pI, if_neg (by omega)]
      · rw [gI_pI, if_neg (by omega), gI_pI, if_neg (by omega), gI_pI, if_neg (by omega)]
    · rcases per_cases b y with ⟨k, hk, rfl⟩ | hy
      · have i1 := isThere_yes b1 b3 hk
        have i2 : F_X9_isBody (kI k) (pI (pI μ 104 s (iI (-1))) 105 s (kI k)) = some (kI 1, pI (pI μ 104 s (iI (-1))) 105 s (kI k)) := isBody_yes b1 (by simp [gI_pI, b4]) hk
        refine ⟨kI 1, pI (pI μ 104 s (iI (-1))) 105 s (kI k), pI (pI (pI μ 104 s (iI (-1))) 105 s (kI k)) 153 s (kI k), ?_, ?_, hI.shel (fun a j q => ?_) (fun a j => rfl) (she_other (s := s) hI.she (fun a j q => ?_) (fun t i _ _ _ => ⟨rfl, rfl⟩) (Or.inr (Or.inl ⟨k, b, by simp [gI_pI], by simp [gI_pI], by simp [gI_pI], by simp [gI_pI, b3], hk, b1⟩)))⟩
        · unfold F_X8_keep F_X8_keep_29 F_X5_holdBody F_X5_holdBody_15
          rw [bnd_eq (isShelf_yes hs), if_neg k1_ne0, if_neg y1, bnd_eq i1, if_neg k1_ne0, if_pos (by rw [iI_lit, kI_le (by omega) (by omega)]; omega), wrI_kI (by omega) (by omega), wrI_kI (by omega) (by omega)]
          rfl
        · unfold F_X9_keep F_X9_keep_22
          rw [bnd_eq (isShelf9_yes hs), if_neg k1_ne0, if_neg y1, bnd_eq i2, if_neg k1_ne0, wrI_kI (by omega) (by omega)]
          rfl
        · rw [gI_pI, if_neg (by omega), gI_pI, if_neg (by omega), gI_pI, if_neg (by omega)]
        · rw [gI_pI, if_neg (by omega), gI_pI, if_neg (by omega), gI_pI, if_neg (by omega)]
      · refine Good.bad (v := iI (-1)) hI ?_ ?_
        · unfold F_X8_keep
          rw [bnd_eq (isShelf_yes hs), if_neg k1_ne0, if_neg y1, bnd_eq (isThere_no b1 b3 hy), if_pos k0_eq0]
        · unfold F_X9_keep
          rw [bnd_eq (isShelf9_yes hs), if_neg k1_ne0, if_neg y1, bnd_eq (isBody_no b1 b4 hy), if_pos k0_eq0]
  · refine Good.bad (v := iI (-1)) hI ?_ ?_
    · unfold F_X8_keep
      rw [bnd_eq (isShelf_no hx), if_pos k0_eq0]
    · unfold F_X9_keep
      rw [bnd_eq (isShelf9_no hx), if_pos k0_eq0]
theorem fillL_loop {r L : Nat} {v : Int64} (hr : (shp r).2 = L) (hL : L ≤ 1000) : ∀ c i f (μ : Mm), i + c = L → c < f → ∃ μ', F_J7_fill_d0a16_6 r f v (kI i) (kI L) μ = some ((), μ') ∧ (∀ j, i ≤ j → j < L → gL μ' r j = v) ∧ (∀ a j, (a ≠ r ∨ j < i) → gL μ' a j = gL μ a j) ∧ (∀ a j, gI μ' a j = gI μ a j) ∧ ∀ a j, gR μ' a j = gR μ a j := by
  intro c
  induction c with
  | zero =>
    intro i f μ hi hf
    obtain ⟨f, rfl⟩ : ∃ g, f = g + 1 := ⟨f - 1, by omega⟩
    refine ⟨μ, ?_, fun j h1 h2 => absurd h2 (by omega), fun a j _ => rfl, fun _ _ => rfl, fun _ _ => rfl⟩
    unfold F_J7_fill_d0a16_6
    simp (disch := omega) only [show L ≤ i by omega, iI_lit, kI_add, kI_mul, kI_eq, kI_lt, kI_le, kI_neg1, neg1_kI, neg1_lt0, neg1_0le, kO_none, kO_some, nm_eq, bnd_some, rz_0, rz_1, zb_0, zb_1, rd_kI, wrI_kI, wrL_kI, dvI_kI, rmI_kI, if_true, if_false, ite_true, ite_false, reduceIte, Nat.lt_irrefl, Nat.le_refl, not_true, not_false_iff, true_and, and_true, false_and, and_false, and_self, Bool.false_eq_true, eq_self, Decidable.not_not]
  | succ c ih =>
    intro i f μ hi hf
    obtain ⟨f, rfl⟩ : ∃ g, f = g + 1 := ⟨f - 1, by omega⟩
    obtain ⟨μ', i1, i2, i3, i4, i5⟩ := ih (i + 1) f (pL μ r i v) (by omega) (by omega)
    refine ⟨μ', ?_, fun j h1 h2 => ?_, fun a j h1 => ?_, fun a j => i4 a j, fun a j => i5 a j⟩
    · unfold F_J7_fill_d0a16_6
      simp (disch := omega) only [hr, show ¬ L ≤ i by omega, i1, iI_lit, kI_add, kI_mul, kI_eq, kI_lt, kI_le, kI_neg1, neg1_kI, neg1_lt0, neg1_0le, kO_none, kO_some, nm_eq, bnd_some, rz_0, rz_1, zb_0, zb_1, rd_kI, wrI_kI, wrL_kI, dvI_kI, rmI_kI, if_true, if_false, ite_true, ite_false, reduceIte, Nat.lt_irrefl, Nat.le_refl, not_true, not_false_iff, true_and, and_true, false_and, and_false, and_self, Bool.false_eq_true, eq_self, Decidable.not_not]
    · by_cases z : j = i
      · rw [i3 r j (Or.inr (by omega)), gL_pL, if_pos ⟨rfl, z⟩]
      · exact i2 j (by omega) h2
    · rw [i3 a j (by omega), gL_pL, if_neg (by omega)]
theorem fillL_eq {r L : Nat} {v : Int64} {μ : Mm} (hr : shp r = (5, L)) (hL : L ≤ 1000) : ∃ μ', F_J7_fill_d0a16 r v μ = some ((), μ') ∧ (∀ j, j < L → gL μ' r j = v) ∧ (∀ a j, a ≠ r → gL μ' a j = gL μ a j) ∧ (∀ a j, gI μ' a j = gI μ a j) ∧ ∀ a j, gR μ' a j = gR μ a j := by
  obtain ⟨μ', i1, i2, i3, i4, i5⟩ := fillL_loop (r := r) (L := L) (v := v) (by rw [hr]) hL L 0 FU μ (by omega) (by unfold FU; omega)
  refine ⟨μ', ?_, fun j h => i2 j (Nat.zero_le _) h, fun a j h => i3 a j (Or.inl h), i4, i5⟩
  unfold F_J7_fill_d0a16
  rw [hr, if_pos rfl, nm_eq, iI_lit]
  exact i1
theorem row9_loop {s : Nat} (hs : s < 6) : ∀ c i f (μ : Mm), i + c = 60 → c < f → ∃ μ', F_X9_row_54 f (kI s) (kI (60 * s + i)) μ = some (kI 1, μ') ∧ (∀ j, i ≤ j → j < 60 → gL μ' 155 (60 * s + j) = iL 0) ∧ (∀ a j, ¬ (a = 155 ∧ 60 * s + i ≤ j ∧ j < 60 * s + 60) → gL μ' a j = gL μ a j) ∧ (∀ a j, gI μ' a j = gI μ a j) ∧ ∀ a j, gR μ' a j = gR μ a j := by
  intro c
  induction c with
  | zero =>
    intro i f μ hi hf
    obtain ⟨f, rfl⟩ : ∃ g, f = g + 1 := ⟨f - 1, by omega⟩
    refine ⟨μ, ?_, fun j h1 h2 => absurd h2 (by omega), fun a j _ => rfl, fun _ _ => rfl, fun _ _ => rfl⟩
    unfold F_X9_row_54
    simp (disch := omega) only [show 60 * s + 60 ≤ 60 * s + i by omega, iI_lit, kI_add, kI_mul, kI_eq, kI_lt, kI_le, kI_neg1, neg1_kI, neg1_lt0, neg1_0le, kO_none, kO_some, nm_eq, bnd_some, rz_0, rz_1, zb_0, zb_1, rd_kI, wrI_kI, wrL_kI, dvI_kI, rmI_kI, if_true, if_false, ite_true, ite_false, reduceIte, Nat.lt_irrefl, Nat.le_refl, not_true, not_false_iff, true_and, and_true, false_and, and_false, and_self, Bool.false_eq_true, eq_self, Decidable.not_not]
  | succ c ih =>
    intro i f μ hi hf
    obtain ⟨f, rfl⟩ : ∃ g, f = g + 1 := ⟨f - 1, by omega⟩
    obtain ⟨μ', i1, i2, i3, i4, i5⟩ := ih (i + 1) f (pL μ 155 (60 * s + i) (iL 0)) (by omega) (by omega)
    refine ⟨μ', ?_, fun j h1 h2 => ?_, fun a j h1 => ?_, fun a j => i4 a j, fun a j => i5 a j⟩
    · unfold F_X9_row_54
      rw [show 60 * s + (i + 1) = 60 * s + i + 1 by omega] at i1
      simp (disch := omega) only [show ¬ 60 * s + 60 ≤ 60 * s + i by omega, i1, iI_lit, kI_add, kI_mul, kI_eq, kI_lt, kI_le, kI_neg1, neg1_kI, neg1_lt0, neg1_0le, kO_none, kO_some, nm_eq, bnd_some, rz_0, rz_1, zb_0, zb_1, rd_kI, wrI_kI, wrL_kI, dvI_kI, rmI_kI, if_true, if_false, ite_true, ite_false, reduceIte, Nat.lt_irrefl, Nat.le_refl, not_true, not_false_iff, true_and, and_true, false_and, and_false, and_self, Bool.false_eq_true, eq_self, Decidable.not_not]
    · by_cases z : j = i
      · rw [i3 155 _ (by omega), gL_pL, if_pos ⟨rfl, by omega⟩]
      · exact i2 j (by omega) h2
    · rw [i3 a j (by omega), gL_pL, if_neg (by omega)]
theorem g_row (x y z : Int32) : Good (F_X8_row x y z) (F_X9_row x y z) := by
  intro μ hI
  rcases per_cases 6 x with ⟨s, hs, rfl⟩ | hx
  · rcases per_cases 5 y with ⟨q, hq, rfl⟩ | hy
    · have hin : ∀ m : Mm, F_X9_in (kI q) (iI 0) (iI 4) m = some (kI 1, m) := fun m => in_yes (μ := m) (k := q) (a := 0) (b := 4) (by omega) (by omega) (by omega)
      have q1 : ¬ kI q < iI 0 := by rw [iI_lit, kI_lt (by omega) (by omega)]; omega
      have q2 : ¬ iI 4 < kI q := by rw [iI_lit, kI_lt (by omega) (by omega)]; omega
      rcases i32_cases z with hz | ⟨n, n1, rfl⟩
      · refine Good.bad (v := iI (-14)) hI ?_ ?_
        · unfold F_X8_row
          rw [bnd_eq (isShelf_yes hs), if_neg k1_ne0, if_neg q1, if_neg q2, if_pos (by rw [iI_lit, neg_le hz (by omega)]; trivial), if_neg (by rw [iI_lit, le_neg hz (by omega)]; exact id)]
        · unfold F_X9_row
          rw [bnd_eq (isShelf9_yes hs), if_neg k1_ne0, bnd_eq (hin μ), if_neg k1_ne0, if_pos (by rw [iI_lit, neg_le hz (by omega)]; trivial), if_neg (by rw [iI_lit, le_neg hz (by omega)]; exact id)]
      · by_cases hn : n ≤ 60
        · obtain ⟨m2, f1, f2, f3, f4, f5⟩ := fillL_eq (r := 107 + s) (L := 60) (v := iL 0) (μ := pI (pI μ 104 s (kI q)) 105 s (kI n)) ((by decide +kernel : ∀ s, s < 6 → shp (107 + s) = (5, 60)) s hs) (by omega)
          obtain ⟨m3, g1, g2, g3, g4, g5⟩ := row9_loop hs 60 0 FU (pI (pI m2 153 s (iI (-2 - (q : Int)))) 154 s (kI n)) (by omega) (by unfold FU; omega)
          have hIe : ∀ a j, ¬ ((a = 104 ∨ a = 105 ∨ a = 153 ∨ a = 154) ∧ j = s) → gI m3 a j = gI μ a j := fun a j h => by
            rw [g4, gI_pI, if_neg (by omega), gI_pI, if_neg (by omega), f4, gI_pI, if_neg (by omega), gI_pI, if_neg (by omega)]
          refine ⟨kI 1, m2, m3, ?_, ?_, hI.shel (fun a j h => hIe a j (by omega)) (fun a j => by rw [g5]; exact f5 a j) (she_other (s := s) hI.she hIe (fun t i ht hne hi => ⟨?_, ?_⟩) (Or.inr (Or.inr ⟨q, n, by omega, hn, ?_, ?_, ?_, ?_, fun i hi => ?_⟩)))⟩
          · unfold F_X8_row F_X5_holdRow
            rw [bnd_eq (isShelf_yes hs), if_neg k1_ne0, if_neg q1, if_neg q2, if_pos (by rw [iI_lit, kI_le (by omega) (by omega)]; exact hn), if_pos (by rw [iI_lit, kI_le (by omega) (by omega)]; omega), wrI_kI (by omega) (by omega), wrI_kI (by omega) (by omega), rd_kI (by omega) (by omega), Nat.one_mul, bnd_eq f1]
            rfl
          · unfold F_X9_row
            rw [bnd_eq (isShelf9_yes hs), if_neg k1_ne0, bnd_eq (hin m2), if_neg k1_ne0, if_pos (by rw [iI_lit, kI_le (by omega) (by omega)]; exact hn), if_pos (by rw [iI_lit, kI_le (by omega) (by omega)]; omega), wrI_kI (by omega) (by omega), wrI_kI (by omega) (by omega), kI_iI q, iI_sub2, iI_lit, kI_mul, nm_eq]
            exact g1
          · rw [g3 _ _ (by omega)]
            show gL m2 (107 + t) i = _
            rw [f3 _ _ (by omega)]
            rfl
          · rw [g3 _ _ (by omega)]
            show gL m2 155 (60 * t + i) = _
            rw [f3 _ _ (by omega)]
            rfl
          · rw [g4, gI_pI, if_neg (by omega), gI_pI, if_neg (by omega), f4, gI_pI, if_neg (by omega), gI_pI, if_pos ⟨rfl, rfl⟩]
          · rw [g4, gI_pI, if_neg (by omega), gI_pI, if_neg (by omega), f4, gI_pI, if_pos ⟨rfl, rfl⟩]
          · rw [g4, gI_pI, if_neg (by omega), gI_pI, if_pos ⟨rfl, rfl⟩]
          · rw [g4, gI_pI, if_pos ⟨rfl, rfl⟩]
          · rw [g2 i (by omega) hi, g3 _ _ (by omega)]
            show gL m2 (107 + s) i = _
            rw [f2 i hi]
        · refine Good.bad (v := iI (-1)) hI ?_ ?_
          · unfold F_X8_row
            rw [bnd_eq (isShelf_yes hs), if_neg k1_ne0, if_neg q1, if_neg q2, if_neg (by rw [iI_lit, kI_le (by omega) (by omega)]; omega)]
          · unfold F_X9_row
            rw [bnd_eq (isShelf9_yes hs), if_neg k1_ne0, bnd_eq (hin μ), if_neg k1_ne0, if_neg (by rw [iI_lit, kI_le (by omega) (by omega)]; omega)]
    · have hin : F_X9_in y (iI 0) (iI 4) μ = some (kI 0, μ) := in_no (μ := μ) (x := y) (a := 0) (b := 4) (by omega) (by omega) (fun k _ h => hy k (by omega))
      refine Good.bad (v := iI (-1)) hI ?_ ?_
      · unfold F_X8_row
        rw [bnd_eq (isShelf_yes hs), if_neg k1_ne0]
        rcases i32_cases y with q | ⟨k, k1, rfl⟩
        · rw [if_pos (by rw [iI_lit, neg_lt q (by omega)]; trivial)]
        · rw [if_neg (by rw [iI_lit, kI_lt (by omega) (by omega)]; omega), if_pos (by
            rw [iI_lit, kI_lt (by omega) (by omega)]
            rcases Nat.lt_or_ge 4 k with z | z
            · exact z
            · exact absurd rfl (hy k (by omega)))]
      · unfold F_X9_row
        rw [bnd_eq (isShelf9_yes hs), if_neg k1_ne0, bnd_eq hin, if_pos k0_eq0]
  · refine Good.bad (v := iI (-1)) hI ?_ ?_
    · unfold F_X8_row
      rw [bnd_eq (isShelf_no hx), if_pos k0_eq0]
    · unfold F_X9_row
      rw [bnd_eq (isShelf9_no hx), if_pos k0_eq0]
