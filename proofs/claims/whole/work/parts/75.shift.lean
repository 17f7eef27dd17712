/-! SHIFT OF BOTH -/
theorem sh150_loop {o j n : Nat} (ho : o < 6) (hj : j + n ≤ 60) : ∀ c k f (μ : Mm), k + c = n → c < f → ∃ μ', F_X9_shift_150 f (kI o) (kI j) (kI n) (kI k) μ = some (kI n, μ') ∧ (∀ t, k ≤ t → t < n → gL μ' 155 (60 * o + j + t) = gL μ 156 t) ∧ (∀ a t, ¬ (a = 155 ∧ 60 * o + j + k ≤ t ∧ t < 60 * o + j + n) → gL μ' a t = gL μ a t) ∧ (∀ a t, gI μ' a t = gI μ a t) ∧ ∀ a t, gR μ' a t = gR μ a t := by
  intro c
  induction c with
  | zero =>
    intro k f μ hk hf
    obtain ⟨f, rfl⟩ : ∃ g, f = g + 1 := ⟨f - 1, by omega⟩
    refine ⟨μ, ?_, fun t h1 h2 => absurd h2 (by omega), fun a t _ => rfl, fun _ _ => rfl, fun _ _ => rfl⟩
    unfold F_X9_shift_150
    simp (disch := omega) only [show n ≤ k by omega, iI_lit, kI_add, kI_mul, kI_eq, kI_lt, kI_le, kI_neg1, neg1_kI, neg1_lt0, neg1_0le, kO_none, kO_some, nm_eq, bnd_some, rz_0, rz_1, zb_0, zb_1, rd_kI, wrI_kI, wrL_kI, dvI_kI, rmI_kI, if_true, if_false, ite_true, ite_false, reduceIte, Nat.lt_irrefl, Nat.le_refl, not_true, not_false_iff, true_and, and_true, false_and, and_false, and_self, Bool.false_eq_true, eq_self, Decidable.not_not]
  | succ c ih =>
    intro k f μ hk hf
    obtain ⟨f, rfl⟩ : ∃ g, f = g + 1 := ⟨f - 1, by omega⟩
    obtain ⟨μ', i1, i2, i3, i4, i5⟩ := ih (k + 1) f (pL μ 155 (60 * o + j + k) (gL μ 156 k)) (by omega) (by omega)
    refine ⟨μ', ?_, fun t h1 h2 => ?_, fun a t h1 => ?_, fun a t => i4 a t, fun a t => i5 a t⟩
    · unfold F_X9_shift_150
      simp (disch := omega) only [show ¬ n ≤ k by omega, i1, iI_lit, kI_add, kI_mul, kI_eq, kI_lt, kI_le, kI_neg1, neg1_kI, neg1_lt0, neg1_0le, kO_none, kO_some, nm_eq, bnd_some, rz_0, rz_1, zb_0, zb_1, rd_kI, wrI_kI, wrL_kI, dvI_kI, rmI_kI, if_true, if_false, ite_true, ite_false, reduceIte, Nat.lt_irrefl, Nat.le_refl, not_true, not_false_iff, true_and, and_true, false_and, and_false, and_self, Bool.false_eq_true, eq_self, Decidable.not_not]
    · by_cases z : t = k
      · rw [i3 155 _ (by omega), gL_pL, if_pos ⟨rfl, by omega⟩, z]
      · rw [i2 t (by omega) h2, gL_pL, if_neg (by omega)]
    · rw [i3 a t (by omega), gL_pL, if_neg (by omega)]
theorem sh113_loop {s i o j n : Nat} (hs : s < 6) (ho : o < 6) (hi : i + n ≤ 60) (hj : j + n ≤ 60) : ∀ c k f (μ : Mm), k + c = n → c < f → (∃ μ0 : Mm, ∀ t, t < k → gL μ 156 t = gL μ0 156 t) → ∃ μ', F_X9_shift_113 f (kI s) (kI i) (kI o) (kI j) (kI n) (kI k) μ = F_X9_shift_150 FU (kI o) (kI j) (kI n) (kI 0) μ' ∧ (∀ t, k ≤ t → t < n → gL μ' 156 t = gL μ 155 (60 * s + i + t)) ∧ (∀ a t, ¬ (a = 156 ∧ k ≤ t ∧ t < n) → gL μ' a t = gL μ a t) ∧ (∀ a t, gI μ' a t = gI μ a t) ∧ ∀ a t, gR μ' a t = gR μ a t := by
  intro c
  induction c with
  | zero =>
    intro k f μ hk hf _
    obtain ⟨f, rfl⟩ : ∃ g, f = g + 1 := ⟨f - 1, by omega⟩
    refine ⟨μ, ?_, fun t h1 h2 => absurd h2 (by omega), fun a t _ => rfl, fun _ _ => rfl, fun _ _ => rfl⟩
    rw [F_X9_shift_113, if_pos (by rw [kI_le (by omega) (by omega)]; omega), iI_lit]
  | succ c ih =>
    intro k f μ hk hf _
    obtain ⟨f, rfl⟩ : ∃ g, f = g + 1 := ⟨f - 1, by omega⟩
    obtain ⟨μ', i1, i2, i3, i4, i5⟩ := ih (k + 1) f (pL μ 156 k (gL μ 155 (60 * s + i + k))) (by omega) (by omega) ⟨_, fun t _ => rfl⟩
    refine ⟨μ', ?_, fun t h1 h2 => ?_, fun a t h1 => ?_, fun a t => i4 a t, fun a t => i5 a t⟩
    · rw [F_X9_shift_113, if_neg (by rw [kI_le (by omega) (by omega)]; omega)]
      simp (disch := omega) only [iI_lit, kI_add, kI_mul, kI_eq, kI_lt, kI_le, kI_neg1, neg1_kI, neg1_lt0, neg1_0le, kO_none, kO_some, nm_eq, bnd_some, rz_0, rz_1, zb_0, zb_1, rd_kI, wrI_kI, wrL_kI, dvI_kI, rmI_kI, if_true, if_false, ite_true, ite_false, reduceIte, Nat.lt_irrefl, Nat.le_refl, not_true, not_false_iff, true_and, and_true, false_and, and_false, and_self, Bool.false_eq_true, eq_self, Decidable.not_not]
      exact i1
    · by_cases z : t = k
      · rw [i3 156 _ (by omega), gL_pL, if_pos ⟨rfl, z⟩, z]
      · rw [i2 t (by omega) h2, gL_pL, if_neg (by omega)]
    · rw [i3 a t (by omega), gL_pL, if_neg (by omega)]
theorem reaches_eq {μ : Mm} {s sz : Nat} {x y : Int32} (hs : s < 6) (h : gI μ 105 s = kI sz) (hz : sz ≤ 60) : F_X5_reaches (kI s) x y μ = some (if 0 ≤ x.toInt ∧ 0 ≤ y.toInt ∧ x.toInt + y.toInt ≤ sz then kI 1 else kI 0, μ) := by
  unfold F_X5_reaches
  rcases i32_cases x with q | ⟨i, i1, rfl⟩
  · rw [if_pos (by rw [iI_lit, neg_lt q (by omega)]; trivial), if_neg (by omega)]; rfl
  · rw [if_neg (by rw [iI_lit, kI_lt (by omega) (by omega)]; omega), kI_toInt i1]
    rcases i32_cases y with q | ⟨n, n1, rfl⟩
    · rw [if_pos (by rw [iI_lit, neg_lt q (by omega)]; trivial), if_neg (by omega)]; rfl
    · rw [if_neg (by rw [iI_lit, kI_lt (by omega) (by omega)]; omega), kI_toInt n1, rd_kI (by omega) (by omega), h]
      by_cases z : sz < i
      · rw [if_pos (by rw [kI_lt (by omega) (by omega)]; exact z), if_neg (by omega)]; rfl
      · rw [if_neg (by rw [kI_lt (by omega) (by omega)]; exact z), rd_kI (by omega) (by omega), h, kI_sub (by omega)]
        by_cases w : sz - i < n
        · rw [if_pos (by rw [kI_lt (by omega) (by omega)]; exact w), if_neg (by omega)]; rfl
        · rw [if_neg (by rw [kI_lt (by omega) (by omega)]; exact w), if_pos (by omega)]; rfl
theorem cpL_kI {β : Type} {n0 n1 sp dp k : Nat} (hs : sp + k ≤ n0) (hd : dp + k ≤ n1) (h0 : n0 ≤ 2147483647) (h1 : n1 ≤ 2147483647) (μ : Mm) (a0 a1 : Nat) (G : Mm → Option β) : cpL n0 n1 μ a0 (kI sp) a1 (kI dp) (kI k) G = G (rL μ a1 (va_cpy (gL μ a0) (gL μ a1) sp dp k)) := by
  unfold cpL
  rw [kI_toInt (by omega), kI_toInt (by omega), kI_toInt (by omega), if_pos (by omega)]
  rfl
theorem gL_rL {μ : Mm} {a x y : Nat} {f : Nat → Int64} : gL (rL μ a f) x y = if x = a then f y else gL μ x y := rfl
theorem va_cpy_at {f g : Nat → Int64} {sp dp n k : Nat} : va_cpy f g sp dp n k = if dp ≤ k ∧ k < dp + n then f (sp + (k - dp)) else g k := rfl
theorem g_shift (x1 x2 x3 x4 x5 : Int32) : Good (F_X8_shift x1 x2 x3 x4 x5) (F_X9_shift x1 x2 x3 x4 x5) := by
  intro μ hI
  rcases per_cases 6 x1 with ⟨s, hs, rfl⟩ | hx
  · rcases per_cases 6 x3 with ⟨o, ho, rfl⟩ | hx3
    · obtain ⟨v, v1, v2, v3⟩ := she_get hI.she hI.bod hs
      obtain ⟨w, w1, w2, w3⟩ := she_get hI.she hI.bod ho
      have e1 := isEmpty_eq hs v1 v2
      have r1 := isRow_eq hs v1 v2
      have e2 := isEmpty_eq ho w1 w2
      have c8 : ∀ r, (bnd (F_X5_isEmpty (kI s) μ) fun v5 m6 => (if v5 = iI 0 then bnd (F_X5_isEmpty (kI o) m6) fun v7 m8 => (if v7 = iI 0 then bnd (F_X5_isRow (kI s) m8) fun v9 m10 => (if v9 = iI 0 then some ((iI (-12)), m10) else rd 6 (kI s) fun j11 => rd 6 (kI o) fun j12 => (if (gI m10 104 j11) = (gI m10 104 j12) then bnd (F_X5_reaches (kI s) x2 x5 m10) fun v13 m14 => (if v13 = iI 0 then some ((iI (-13)), m14) else bnd (F_X5_reaches (kI o) x4 x5 m14) fun v15 m16 => (if v15 = iI 0 then some ((iI (-13)), m16) else rd 6 (kI s) fun j17 => rd 6 (kI o) fun j18 => cpL 60 60 m16 (107 + 1 * j17) x2 (107 + 1 * j18) x4 x5 fun m19 => some (x5, m19))) else some ((iI (-12)), m10))) else some ((iI (-11)), m8)) else some ((iI (-11)), m6))) = r → F_X8_shift (kI s) x2 (kI o) x4 x5 μ = r := fun r h => by
        unfold F_X8_shift
        rw [bnd_eq (isShelf_yes hs), if_neg k1_ne0, bnd_eq (isShelf_yes ho), if_neg k1_ne0]
        exact h
      have c9 : ∀ m r, (rd 6 (kI s) fun j5 => (if (gI m 153 j5) = (iI (-1)) then some ((iI (-11)), m) else rd 6 (kI o) fun j6 => (if (gI m 153 j6) = (iI (-1)) then some ((iI (-11)), m) else rd 6 (kI s) fun j7 => (if iI 0 ≤ (gI m 153 j7) then some ((iI (-12)), m) else rd 6 (kI s) fun j8 => rd 6 (kI o) fun j9 => (if (gI m 153 j8) = (gI m 153 j9) then (if x5 < iI 0 then some ((iI (-13)), m) else (if x2 < iI 0 then some ((iI (-13)), m) else (if x4 < iI 0 then some ((iI (-13)), m) else rd 6 (kI s) fun j10 => (if ((gI m 154 j10) - x5) < x2 then some ((iI (-13)), m) else rd 6 (kI o) fun j11 => (if x4 ≤ ((gI m 154 j11) - x5) then F_X9_shift_113 FU (kI s) x2 (kI o) x4 x5 (iI 0) m else some ((iI (-13)), m)))))) else some ((iI (-12)), m)))))) = r → F_X9_shift (kI s) x2 (kI o) x4 x5 m = r := fun m r h => by
        unfold F_X9_shift
        rw [bnd_eq (isShelf9_yes hs), if_neg k1_ne0, bnd_eq (isShelf9_yes ho), if_neg k1_ne0]
        exact h
      match v, v1, v2, v3, e1, r1 with
      | .inl none, v1, v2, v3, e1, r1 =>
        have h9 : gI μ 153 s = iI (-1) := v3
        refine Good.bad (v := iI (-11)) hI (c8 _ ?_) (c9 _ _ ?_)
        · rw [bnd_eq e1]
          show (if kI 1 = iI 0 then _ else _) = _
          rw [if_neg k1_ne0]
        · rw [rd_kI (by omega) (by omega), h9, if_pos rfl]
      | .inr b, v1, v2, v3, e1, r1 =>
        have h9 : gI μ 153 s = kI b := v3
        have hb : b < 50 := v1
        match w, w1, w2, w3, e2 with
        | .inl none, w1, w2, w3, e2 =>
          have h92 : gI μ 153 o = iI (-1) := w3
          refine Good.bad (v := iI (-11)) hI (c8 _ ?_) (c9 _ _ ?_)
          · rw [bnd_eq e1]
            show (if kI 0 = iI 0 then bnd (F_X5_isEmpty (kI o) μ) _ else _) = _
            rw [if_pos k0_eq0, bnd_eq e2]
            show (if kI 1 = iI 0 then _ else _) = _
            rw [if_neg k1_ne0]
          · rw [rd_kI (by omega) (by omega), h9, if_neg (by rw [kI_iI, iI_eq (by omega) (by omega)]; omega), rd_kI (by omega) (by omega), h92, if_pos rfl]
        | .inl (some (q', n')), w1, w2, w3, e2 =>
          have h92 : gI μ 153 o = iI (-2 - (q' : Int)) := w3.1
          have hq' : q' ≤ 4 := w1.1
          refine Good.bad (v := iI (-12)) hI (c8 _ ?_) (c9 _ _ ?_)
          · rw [bnd_eq e1]
            show (if kI 0 = iI 0 then bnd (F_X5_isEmpty (kI o) μ) _ else _) = _
            rw [if_pos k0_eq0, bnd_eq e2]
            show (if kI 0 = iI 0 then bnd (F_X5_isRow (kI s) μ) _ else _) = _
            rw [if_pos k0_eq0, bnd_eq r1]
            show (if kI 0 = iI 0 then _ else _) = _
            rw [if_pos k0_eq0]
          · rw [rd_kI (by omega) (by omega), h9, if_neg (by rw [kI_iI, iI_eq (by omega) (by omega)]; omega), rd_kI (by omega) (by omega), h92, if_neg (by rw [iI_eq (by omega) (by omega)]; omega), rd_kI (by omega) (by omega), h9, if_pos (by rw [iI_lit, kI_le (by omega) (by omega)]; omega)]
        | .inr b', w1, w2, w3, e2 =>
          have h92 : gI μ 153 o = kI b' := w3
          have hb' : b' < 50 := w1
          refine Good.bad (v := iI (-12)) hI (c8 _ ?_) (c9 _ _ ?_)
          · rw [bnd_eq e1]
            show (if kI 0 = iI 0 then bnd (F_X5_isEmpty (kI o) μ) _ else _) = _
            rw [if_pos k0_eq0, bnd_eq e2]
            show (if kI 0 = iI 0 then bnd (F_X5_isRow (kI s) μ) _ else _) = _
            rw [if_pos k0_eq0, bnd_eq r1]
            show (if kI 0 = iI 0 then _ else _) = _
            rw [if_pos k0_eq0]
          · rw [rd_kI (by omega) (by omega), h9, if_neg (by rw [kI_iI, iI_eq (by omega) (by omega)]; omega), rd_kI (by omega) (by omega), h92, if_neg (by rw [kI_iI, iI_eq (by omega) (by omega)]; omega), rd_kI (by omega) (by omega), h9, if_pos (by rw [iI_lit, kI_le (by omega) (by omega)]; omega)]
      | .inl (some (q, n)), v1, v2, v3, e1, r1 =>
        have h9 : gI μ 153 s = iI (-2 - (q : Int)) := v3.1
        have h94 : gI μ 154 s = kI n := v3.2
        have h84 : gI μ 104 s = kI q := v2.1
        have h85 : gI μ 105 s = kI n := v2.2
        have hq : q ≤ 4 := v1.1
        have hn : n ≤ 60 := v1.2
        match w, w1, w2, w3, e2 with
        | .inl none, w1, w2, w3, e2 =>
          have h92 : gI μ 153 o = iI (-1) := w3
          refine Good.bad (v := iI (-11)) hI (c8 _ ?_) (c9 _ _ ?_)
          · rw [bnd_eq e1]
            show (if kI 0 = iI 0 then bnd (F_X5_isEmpty (kI o) μ) _ else _) = _
            rw [if_pos k0_eq0, bnd_eq e2]
            show (if kI 1 = iI 0 then _ else _) = _
            rw [if_neg k1_ne0]
          · rw [rd_kI (by omega) (by omega), h9, if_neg (by rw [iI_eq (by omega) (by omega)]; omega), rd_kI (by omega) (by omega), h92, if_pos rfl]
        | .inr b', w1, w2, w3, e2 =>
          have h92 : gI μ 153 o = kI b' := w3
          have h842 : gI μ 104 o = iI (-1) := w2.1
          have hb' : b' < 50 := w1
          refine Good.bad (v := iI (-12)) hI (c8 _ ?_) (c9 _ _ ?_)
          · rw [bnd_eq e1]
            show (if kI 0 = iI 0 then bnd (F_X5_isEmpty (kI o) μ) _ else _) = _
            rw [if_pos k0_eq0, bnd_eq e2]
            show (if kI 0 = iI 0 then bnd (F_X5_isRow (kI s) μ) _ else _) = _
            rw [if_pos k0_eq0, bnd_eq r1]
            show (if kI 1 = iI 0 then _ else rd 6 (kI s) _) = _
            rw [if_neg k1_ne0, rd_kI (by omega) (by omega), rd_kI (by omega) (by omega), h84, h842, if_neg (by rw [kI_iI, iI_eq (by omega) (by omega)]; omega)]
          · rw [rd_kI (by omega) (by omega), h9, if_neg (by rw [iI_eq (by omega) (by omega)]; omega), rd_kI (by omega) (by omega), h92, if_neg (by rw [kI_iI, iI_eq (by omega) (by omega)]; omega), rd_kI (by omega) (by omega), h9, if_neg (by rw [iI_le2 (by omega) (by omega)]; omega), rd_kI (by omega) (by omega), rd_kI (by omega) (by omega), h9, h92, if_neg (by rw [kI_iI, iI_eq (by omega) (by omega)]; omega)]
        | .inl (some (q', n')), w1, w2, w3, e2 =>
          have h92 : gI μ 153 o = iI (-2 - (q' : Int)) := w3.1
          have h942 : gI μ 154 o = kI n' := w3.2
          have h842 : gI μ 104 o = kI q' := w2.1
          have h852 : gI μ 105 o = kI n' := w2.2
          have hq' : q' ≤ 4 := w1.1
          have hn' : n' ≤ 60 := w1.2
          have c8' : ∀ r, (if kI q = kI q' then bnd (F_X5_reaches (kI s) x2 x5 μ) fun v13 m14 => (if v13 = iI 0 then some ((iI (-13)), m14) else bnd (F_X5_reaches (kI o) x4 x5 m14) fun v15 m16 => (if v15 = iI 0 then some ((iI (-13)), m16) else rd 6 (kI s) fun j17 => rd 6 (kI o) fun j18 => cpL 60 60 m16 (107 + 1 * j17) x2 (107 + 1 * j18) x4 x5 fun m19 => some (x5, m19))) else some ((iI (-12)), μ)) = r → F_X8_shift (kI s) x2 (kI o) x4 x5 μ = r := fun r h => c8 _ (by
            rw [bnd_eq e1]
            show (if kI 0 = iI 0 then bnd (F_X5_isEmpty (kI o) μ) _ else _) = _
            rw [if_pos k0_eq0, bnd_eq e2]
            show (if kI 0 = iI 0 then bnd (F_X5_isRow (kI s) μ) _ else _) = _
            rw [if_pos k0_eq0, bnd_eq r1]
            show (if kI 1 = iI 0 then _ else rd 6 (kI s) _) = _
            rw [if_neg k1_ne0, rd_kI (by omega) (by omega), rd_kI (by omega) (by omega), h84, h842]
            exact h)
          have c9' : ∀ (m : Mm) r, (∀ a j, gI m a j = gI μ a j) → (if iI (-2 - (q : Int)) = iI (-2 - (q' : Int)) then (if x5 < iI 0 then some ((iI (-13)), m) else (if x2 < iI 0 then some ((iI (-13)), m) else (if x4 < iI 0 then some ((iI (-13)), m) else (if ((kI n) - x5) < x2 then some ((iI (-13)), m) else (if x4 ≤ ((kI n') - x5) then F_X9_shift_113 FU (kI s) x2 (kI o) x4 x5 (iI 0) m else some ((iI (-13)), m)))))) else some ((iI (-12)), m)) = r → F_X9_shift (kI s) x2 (kI o) x4 x5 m = r := fun m r hm h => c9 _ _ (by
            rw [rd_kI (by omega) (by omega), hm, h9, if_neg (by rw [iI_eq (by omega) (by omega)]; omega), rd_kI (by omega) (by omega), hm, h92, if_neg (by rw [iI_eq (by omega) (by omega)]; omega), rd_kI (by omega) (by omega), hm, h9, if_neg (by rw [iI_le2 (by omega) (by omega)]; omega), rd_kI (by omega) (by omega), rd_kI (by omega) (by omega), hm, hm, h9, h92, rd_kI (by omega) (by omega), rd_kI (by omega) (by omega), hm, hm, h94, h942]
            exact h)
          by_cases hqq : q = q'
          · subst hqq
            have rs := reaches_eq (x := x2) (y := x5) hs h85 hn
            have ro := reaches_eq (x := x4) (y := x5) ho h852 hn'
            by_cases hok : (0 ≤ x2.toInt ∧ 0 ≤ x5.toInt ∧ x2.toInt + x5.toInt ≤ n) ∧ (0 ≤ x4.toInt ∧ 0 ≤ x5.toInt ∧ x4.toInt + x5.toInt ≤ n')
            · rw [if_pos hok.1] at rs
              rw [if_pos hok.2] at ro
              obtain ⟨i, i1, rfl⟩ := (i32_cases x2).resolve_left (by omega)
              obtain ⟨j, j1, rfl⟩ := (i32_cases x4).resolve_left (by omega)
              obtain ⟨k, k1, rfl⟩ := (i32_cases x5).resolve_left (by omega)
              rw [kI_toInt i1, kI_toInt k1, kI_toInt j1] at hok
              have hik : i + k ≤ n := by omega
              have hjk : j + k ≤ n' := by omega
              obtain ⟨m2, p1, p2, p3, p4, p5⟩ := sh113_loop hs ho (show i + k ≤ 60 by omega) (show j + k ≤ 60 by omega) k 0 FU (rL μ (107 + o) (va_cpy (gL μ (107 + s)) (gL μ (107 + o)) i j k)) (by omega) (by unfold FU; omega) ⟨μ, fun t h => absurd h (Nat.not_lt_zero _)⟩
              obtain ⟨m3, q1, q2, q3, q4, q5⟩ := sh150_loop ho (show j + k ≤ 60 by omega) k 0 FU m2 (by omega) (by unfold FU; omega)
              have hs8 := she_row hI.she hs v2 v1
              have ho8 := she_row hI.she ho w2 w1
              have hl : ∀ a t, ¬ (a = 155 ∧ 60 * o + j ≤ t ∧ t < 60 * o + j + k) → ¬ (a = 156) → gL m3 a t = gL (rL μ (107 + o) (va_cpy (gL μ (107 + s)) (gL μ (107 + o)) i j k)) a t := fun a t h1 h2 => by
                rw [q3 a t (by omega), p3 a t (by omega)]
              refine ⟨kI k, rL μ (107 + o) (va_cpy (gL μ (107 + s)) (gL μ (107 + o)) i j k), m3, c8' _ ?_, c9' _ _ (fun a j => rfl) ?_, hI.shel (fun a t _ => by rw [q4, p4]; rfl) (fun a t => by rw [q5, p5]; rfl) (she_other (s := o) hI.she (fun a t _ => by rw [q4, p4]; rfl) (fun t x ht hne hx => ⟨?_, ?_⟩) (Or.inr (Or.inr ⟨q, n', hq, hn', by rw [q4, p4]; exact h842, by rw [q4, p4]; exact h852, by rw [q4, p4]; exact h92, by rw [q4, p4]; exact h942, fun x hx => ?_⟩)))⟩
              · rw [if_pos rfl, bnd_eq rs, if_neg k1_ne0, bnd_eq ro, if_neg k1_ne0, rd_kI (by omega) (by omega), rd_kI (by omega) (by omega), Nat.one_mul, Nat.one_mul, cpL_kI (by omega) (by omega) (by omega) (by omega)]
              · rw [if_pos rfl, if_neg (by rw [iI_lit, kI_lt (by omega) (by omega)]; omega), if_neg (by rw [iI_lit, kI_lt (by omega) (by omega)]; omega), if_neg (by rw [iI_lit, kI_lt (by omega) (by omega)]; omega), kI_sub (by omega), if_neg (by rw [kI_lt (by omega) (by omega)]; omega), kI_sub (by omega), if_pos (by rw [kI_le (by omega) (by omega)]; omega), iI_lit, p1, q1]
              · rw [hl _ _ (by omega) (by omega), gL_rL, if_neg (by omega)]
              · rw [hl _ _ (by omega) (by omega), gL_rL, if_neg (by omega)]
              · rw [hl (107 + o) x (by omega) (by omega), gL_rL, if_pos rfl, va_cpy_at]
                by_cases z : j ≤ x ∧ x < j + k
                · rw [if_pos z]
                  have := q2 (x - j) (by omega) (by omega)
                  rw [show 60 * o + j + (x - j) = 60 * o + x by omega] at this
                  rw [this, p2 (x - j) (by omega) (by omega), gL_rL, if_neg (by omega), hs8 _ (by omega)]
                  congr 1
                  omega
                · rw [if_neg z, hl 155 _ (by omega) (by omega), gL_rL, if_neg (by omega)]
                  exact ho8 x hx
            · refine Good.bad (v := iI (-13)) hI (c8' _ ?_) (c9' _ _ (fun _ _ => rfl) ?_)
              · rw [if_pos rfl, bnd_eq rs]
                by_cases z1 : 0 ≤ x2.toInt ∧ 0 ≤ x5.toInt ∧ x2.toInt + x5.toInt ≤ n
                · rw [if_pos z1, if_neg k1_ne0, bnd_eq ro, if_neg (fun z2 => hok ⟨z1, z2⟩), if_pos k0_eq0]
                · rw [if_neg z1, if_pos k0_eq0]
              · rw [if_pos rfl]
                rcases i32_cases x5 with hk | ⟨k, k1, rfl⟩
                · rw [if_pos (by rw [iI_lit, neg_lt hk (by omega)]; trivial)]
                · rw [if_neg (by rw [iI_lit, kI_lt (by omega) (by omega)]; omega)]
                  rcases i32_cases x2 with hi | ⟨i, i1, rfl⟩
                  · rw [if_pos (by rw [iI_lit, neg_lt hi (by omega)]; trivial)]
                  · rw [if_neg (by rw [iI_lit, kI_lt (by omega) (by omega)]; omega)]
                    rcases i32_cases x4 with hj | ⟨j, j1, rfl⟩
                    · rw [if_pos (by rw [iI_lit, neg_lt hj (by omega)]; trivial)]
                    · rw [if_neg (by rw [iI_lit, kI_lt (by omega) (by omega)]; omega)]
                      rw [kI_toInt i1, kI_toInt k1, kI_toInt j1] at hok
                      rw [kI_iI n, kI_iI k, iI_sub2, kI_iI i]
                      by_cases z1 : (n : Int) - k < i
                      · rw [if_pos (by rw [iI_lt2 (by omega) (by omega)]; exact z1)]
                      · rw [if_neg (by rw [iI_lt2 (by omega) (by omega)]; exact z1), kI_iI n', iI_sub2, kI_iI j, if_neg (by rw [iI_le2 (by omega) (by omega)]; omega)]
          · refine Good.bad (v := iI (-12)) hI (c8' _ ?_) (c9' _ _ (fun _ _ => rfl) ?_)
            · rw [if_neg (by rw [kI_eq (by omega) (by omega)]; exact hqq)]
            · rw [if_neg (by rw [iI_eq (by omega) (by omega)]; omega)]
    · refine Good.bad (v := iI (-1)) hI ?_ ?_
      · unfold F_X8_shift
        rw [bnd_eq (isShelf_yes hs), if_neg k1_ne0, bnd_eq (isShelf_no hx3), if_pos k0_eq0]
      · unfold F_X9_shift
        rw [bnd_eq (isShelf9_yes hs), if_neg k1_ne0, bnd_eq (isShelf9_no hx3), if_pos k0_eq0]
  · refine Good.bad (v := iI (-1)) hI ?_ ?_
    · unfold F_X8_shift
      rw [bnd_eq (isShelf_no hx), if_pos k0_eq0]
    · unfold F_X9_shift
      rw [bnd_eq (isShelf9_no hx), if_pos k0_eq0]
