/-! EXACT OF BOTH -/
def FK (l a j : Nat) : Prop := ((a = 137 ∨ a = 138) ∧ 3 * l ≤ j ∧ j < 3 * l + 3) ∨ (a = 139 ∧ 5 * l ≤ j ∧ j < 5 * l + 5)
def FE (l a j : Nat) : Prop := (a = 140 ∧ 3 * l ≤ j ∧ j < 3 * l + 3) ∨ (a = 141 ∧ j = l)
def FX (l a j : Nat) : Prop := CX9 1 a j ∨ ((a = 137 ∨ a = 138 ∨ a = 140) ∧ 3 * l ≤ j) ∨ (a = 139 ∧ 5 * l ≤ j) ∨ (a = 141 ∧ l ≤ j)
theorem FK.x {l a j : Nat} (h : FK l a j) : FX l a j := by unfold FK at h; unfold FX; omega
theorem FE.x {l a j : Nat} (h : FE l a j) : FX l a j := by unfold FE at h; unfold FX; omega
theorem FX.up {l a j : Nat} (h : FX (l + 1) a j) : FX l a j := by
  unfold FX at h ⊢
  rcases h with h | h
  · exact Or.inl h
  · exact Or.inr (by omega)
