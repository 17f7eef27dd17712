/-! A TEXT, READ BY THE REFERENCE -/
def CE9 (a j : Nat) : Prop := (a = 113 ∧ 28 ≤ j ∧ j ≤ 31) ∨ ((a = 130 ∨ a = 131) ∧ 130 ≤ j)
section T9
variable {b : Nat → Nat} {l : Nat} {m0 : Mm}
end T9
