/-! LINES AND ALL, READ BY THE REFERENCE -/
def CW9 (a j : Nat) : Prop := CE9 a j ∨ (a = 132 ∧ j = 1) ∨ ((a = 133 ∨ a = 134) ∧ 61 ≤ j)
section T9C
variable {b : Nat → Nat} {l : Nat} {m0 : Mm}
theorem CE9.w {a j : Nat} (h : CE9 a j) : CW9 a j := Or.inl h
end T9C
