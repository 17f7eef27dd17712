/-! IN DEED -/
def CD (a j : Nat) : Prop := (23 ≤ a ∧ a ≤ 27) ∨ SL a ∨ (a = 113 ∧ 15 ≤ j ∧ j ≤ 19) ∨ a = 117 ∨ ((a = 118 ∨ a = 119) ∧ j < 7) ∨ (120 ≤ a ∧ a ≤ 124 ∧ j = 0) ∨ a = 135 ∨ a = 136
theorem tot_op {m p : Nat} {P : Pa} {lot : Nat → Nat} {e : Ev} (h : WfE m P lot e) : tot (opE p e) = tot e + 1 := by
  show eP e + 1 + _ = eP e + _ + 1
  show eP e + 1 + (eT e 0 + eT e 1 + eT e 2 + eT e 3 + eT e 4 + eT e 5 + eT e 6) = eP e + (eT e 0 + eT e 1 + eT e 2 + eT e 3 + eT e 4 + eT e 5 + eT e 6) + 1
  omega
theorem sum_up {T : Nat → Nat} {k : Nat} (hk : k < 7) : up T k (T k + 1) 0 + up T k (T k + 1) 1 + up T k (T k + 1) 2 + up T k (T k + 1) 3 + up T k (T k + 1) 4 + up T k (T k + 1) 5 + up T k (T k + 1) 6 = T 0 + T 1 + T 2 + T 3 + T 4 + T 5 + T 6 + 1 := by
  have : k = 0 ∨ k = 1 ∨ k = 2 ∨ k = 3 ∨ k = 4 ∨ k = 5 ∨ k = 6 := by omega
  rcases this with rfl | rfl | rfl | rfl | rfl | rfl | rfl <;> simp [up] <;> omega
theorem tot_rb {p k q : Nat} {e : Ev} (hk : k < 7) : tot (rbE p k q e) = tot e + 1 := by
  have := sum_up (T := eT e) hk
  show eP e + (up (eT e) k (eT e k + 1) 0 + up (eT e) k (eT e k + 1) 1 + up (eT e) k (eT e k + 1) 2 + up (eT e) k (eT e k + 1) 3 + up (eT e) k (eT e k + 1) 4 + up (eT e) k (eT e k + 1) 5 + up (eT e) k (eT e k + 1) 6) = eP e + (eT e 0 + eT e 1 + eT e 2 + eT e 3 + eT e 4 + eT e 5 + eT e 6) + 1
  omega
theorem tot_le {m : Nat} {P : Pa} {lot : Nat → Nat} {e : Ev} (h : WfE m P lot e) : tot e ≤ 28 := by
  have hb := h.1
  have h0 := hb.1
  have h1 := hb.2.1 0
  have h2 := hb.2.1 1
  have h3 := hb.2.1 2
  have h4 := hb.2.1 3
  have h5 := hb.2.1 4
  have h6 := hb.2.1 5
  have h7 := hb.2.1 6
  unfold tot
  omega
theorem tot_0 {m : Nat} {P : Pa} {lot : Nat → Nat} {e : Ev} (h : WfE m P lot e) : (tot e ≤ 0) ↔ eP e = 0 := by
  constructor
  · intro q; unfold tot at q; omega
  · intro q
    have z : ∀ k, eT e k = 0 := fun k => (h.2.2.2.1 k (by omega)).2
    unfold tot
    rw [z 0, z 1, z 2, z 3, z 4, z 5, z 6]
    omega
theorem cu_lt {P : Pa} {lot : Nat → Nat} {e : Ev} {p : Nat} (h : WfE (pN P) P lot e) (hc : cu P lot e = some p) : eP e < pN P := by
  unfold cu at hc
  cases q : eR e with
  | some r => exact (h.2.2.2.2.2.2.1 r q).1
  | none =>
    rw [q] at hc
    have hc : (if eP e < pN P then some (lot (eP e)) else none) = some p := hc
    by_cases z : eP e < pN P
    · exact z
    · rw [if_neg z] at hc; cases hc
theorem cu_none {P : Pa} {lot : Nat → Nat} {e : Ev} (h : WfE (pN P) P lot e) (hc : cu P lot e = none) : eP e = pN P := by
  have := h.2.1
  unfold cu at hc
  cases q : eR e with
  | some r => rw [q] at hc; cases hc
  | none =>
    rw [q] at hc
    have hc : (if eP e < pN P then some (lot (eP e)) else none) = none := hc
    by_cases z : eP e < pN P
    · rw [if_pos z] at hc; cases hc
    · omega
theorem cI_lt0 : (cI none < kI 0) ↔ True := by
  rw [cI_none, Int32.lt_iff_toInt_lt, iI_toInt (z := -2) (by omega) (by omega), kI_toInt (by omega)]; simp
theorem cI_0le : (kI 0 ≤ cI none) ↔ False := by
  rw [cI_none, Int32.le_iff_toInt_le, iI_toInt (z := -2) (by omega) (by omega), kI_toInt (by omega)]; simp
theorem z0_op {p : Nat} {e : Ev} : Z0 (opE p e) := fun h => absurd h (Nat.succ_ne_zero _)
theorem z0_rb {p k q : Nat} {e : Ev} (h : k < eP e) : Z0 (rbE p k q e) := fun z => by
  have z : eP e = 0 := z
  omega
theorem plE_A {P : Pa} {lot : Nat → Nat} {m : Nat} : ∀ g e, eA (plE P lot m g e).1 = eA e
  | 0, e => rfl
  | g + 1, e => by
    unfold plE
    split
    · rfl
    · cases cu P lot e with
      | none => rfl
      | some p =>
        show eA (plE P lot m g (stE P e p)).1 = eA e
        rw [plE_A g]
        unfold stE
        cases ch P e p <;> rfl
