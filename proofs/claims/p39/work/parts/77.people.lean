/-! PEOPLE OF BOTH -/
theorem iL_toInt {z : Int} (h1 : -9223372036854775808 ≤ z) (h2 : z < 9223372036854775808) : (iL z).toInt = z := Int64.toInt_ofInt_of_le (by omega) (by omega)
theorem toL (x : Int32) : x.toInt64 = iL x.toInt := by
  have h1 := x.toInt_lt
  have h2 := x.le_toInt
  apply Int64.toInt_inj.mp
  rw [Int32.toInt_toInt64, iL_toInt (by omega) (by omega)]
theorem iL_add (a b : Int) : iL a + iL b = iL (a + b) := by
  unfold iL
  rw [Int64.ofInt_add]
theorem iL_toI (z : Int) : (iL z).toInt32 = iI z := by
  unfold iL iI
  simp
theorem lgc_lt {x y : Int64} : (lg_cmp x y < iI 0) ↔ x < y := by
  unfold lg_cmp
  have e1 : ¬ ((1 : Int32) < iI 0) := by decide
  have e2 : ¬ ((0 : Int32) < iI 0) := by decide
  have e3 : ((-1 : Int32) < iI 0) := by decide
  by_cases h : x > y
  · rw [if_pos h]
    have : ¬ x < y := by
      rw [Int64.lt_iff_toInt_lt]; rw [gt_iff_lt, Int64.lt_iff_toInt_lt] at h; omega
    exact ⟨fun q => absurd q e1, fun q => absurd q this⟩
  · rw [if_neg h]
    by_cases k : x = y
    · rw [if_pos k]
      have : ¬ x < y := by rw [k, Int64.lt_iff_toInt_lt]; omega
      exact ⟨fun q => absurd q e2, fun q => absurd q this⟩
    · rw [if_neg k]
      refine ⟨fun _ => ?_, fun _ => e3⟩
      rw [gt_iff_lt, Int64.lt_iff_toInt_lt] at h
      rw [Int64.lt_iff_toInt_lt]
      have : x.toInt ≠ y.toInt := fun q => k (Int64.toInt_inj.mp q)
      omega
theorem lgc_ge {x y : Int64} : (iI 0 ≤ lg_cmp x y) ↔ ¬ x < y := by
  rw [← lgc_lt, Int32.le_iff_toInt_le, Int32.lt_iff_toInt_lt]
  omega
theorem iL_lt {a b : Int} (ha : -9223372036854775808 ≤ a ∧ a < 9223372036854775808) (hb : -9223372036854775808 ≤ b ∧ b < 9223372036854775808) : (iL a < iL b) ↔ a < b := by
  rw [Int64.lt_iff_toInt_lt, iL_toInt ha.1 ha.2, iL_toInt hb.1 hb.2]
/-- who come by a row: how many, and the party then -/
def ppl (el : Nat → Int32) (sz nn i0 : Nat) : Nat → Nat → Pa → (Nat → Nat) → Nat × Pa × (Nat → Nat)
  | 0, c, P, lot => (c, P, lot)
  | f + 1, c, P, lot => if c < nn ∧ pN P < 7 ∧ i0 + c < sz ∧ (el (i0 + c) = kI 0 ∨ el (i0 + c) = kI 1 ∨ el (i0 + c) = kI 2) then ppl el sz nn i0 f (c + 1) (addP P (el (i0 + c)).toInt.toNat) (addL P lot) else (c, P, lot)
theorem way_of {x : Int32} (h : x = kI 0 ∨ x = kI 1 ∨ x = kI 2) : x = kI x.toInt.toNat ∧ x.toInt.toNat ≤ 2 := by
  rcases h with rfl | rfl | rfl <;> rw [kI_toInt (by omega)] <;> exact ⟨rfl, by omega⟩
theorem way_no {x : Int32} (h : ¬ (x = kI 0 ∨ x = kI 1 ∨ x = kI 2)) : x.toInt < 0 ∨ ∃ k, k < 2147483648 ∧ x = kI k ∧ 2 < k := by
  rcases i32_cases x with q | ⟨k, k1, rfl⟩
  · exact Or.inl q
  · refine Or.inr ⟨k, k1, rfl, ?_⟩
    have : k ≠ 0 ∧ k ≠ 1 ∧ k ≠ 2 := ⟨fun z => h (by rw [z]; exact Or.inl rfl), fun z => h (by rw [z]; exact Or.inr (Or.inl rfl)), fun z => h (by rw [z]; exact Or.inr (Or.inr rfl))⟩
    omega
theorem IChg.mono2 {μ : Mm} {n m : Nat} (h : IChg μ n) (hm : n ≤ m) : IChg μ m := by
  obtain ⟨k, rfl⟩ : ∃ k, m = n + k := ⟨m - n, by omega⟩
  clear hm
  induction k with
  | zero => exact h
  | succ k ih => exact ih.mono
theorem refBytes_eq {μ : Mm} {s : Nat} {o : Option (Nat × Nat) ⊕ Nat} (hs : s < 6) (ho : shOk o) (h : shC8 μ s o) : F_X5_refusalOfBytes (kI s) μ = some (match o with | .inl none => iI (-11) | .inl (some (0, _)) => iI 0 | _ => iI (-12), μ) := by
  have e1 := isEmpty_eq hs ho h
  unfold F_X5_refusalOfBytes
  rw [bnd_eq (isShelf_yes hs), if_neg k1_ne0, bnd_eq e1]
  match o, ho, h with
  | .inl none, ho, h =>
    show (if kI 1 = iI 0 then _ else some (iI (-11), μ)) = _
    rw [if_neg k1_ne0]
  | .inl (some (0, n)), ho, h =>
    have h : gI μ 104 s = kI 0 := h.1
    show (if kI 0 = iI 0 then rd 6 (kI s) _ else _) = _
    rw [if_pos k0_eq0, rd_kI (by omega) (by omega), h, if_pos k0_eq0]
    rfl
  | .inl (some (q + 1, n)), ho, h =>
    have h : gI μ 104 s = kI (q + 1) := h.1
    have hq : q + 1 ≤ 4 := ho.1
    show (if kI 0 = iI 0 then rd 6 (kI s) _ else _) = _
    rw [if_pos k0_eq0, rd_kI (by omega) (by omega), h, if_neg (by rw [iI_lit, kI_eq (by omega) (by omega)]; omega)]
    rfl
  | .inr b, ho, h =>
    have h : gI μ 104 s = iI (-1) := h.1
    show (if kI 0 = iI 0 then rd 6 (kI s) _ else _) = _
    rw [if_pos k0_eq0, rd_kI (by omega) (by omega), h, if_neg (by rw [iI_eq (by omega) (by omega)]; omega)]
