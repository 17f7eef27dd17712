/-! LOTS OF BOTH -/
def SKL (k a : Nat) : Prop := SL a ∨ (50 + 5 * k ≤ a ∧ a ≤ 99)
theorem SKL.up {k a : Nat} (h : SKL (k + 1) a) : SKL k a := by
  unfold SKL at h ⊢
  rcases h with h | h
  · exact Or.inl h
  · exact Or.inr (by omega)
theorem PC.skl {m m1 : Mm} {P : Pa} {k : Nat} (h : PC m P) (hf : Fr (SKL k) m m1) : PC m1 P := h.fr hf (fun a q => by unfold SKL SL at q; omega)
