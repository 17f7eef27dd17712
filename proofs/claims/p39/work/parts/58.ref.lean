/-! THE REFERENCE'S PARTY AND EVENINGS -/
def FrC (C : Nat → Nat → Prop) (μ μ1 : Mm) : Prop := (∀ a j, ¬ C a j → gI μ1 a j = gI μ a j) ∧ (∀ a j, gL μ1 a j = gL μ a j) ∧ ∀ a j, gR μ1 a j = gR μ a j
theorem FrC.refl {C : Nat → Nat → Prop} {μ : Mm} : FrC C μ μ := ⟨fun _ _ _ => rfl, fun _ _ => rfl, fun _ _ => rfl⟩
theorem FrC.trans {C : Nat → Nat → Prop} {μ μ1 μ2 : Mm} (h : FrC C μ μ1) (k : FrC C μ1 μ2) : FrC C μ μ2 := ⟨fun a j ha => (k.1 a j ha).trans (h.1 a j ha), fun a j => (k.2.1 a j).trans (h.2.1 a j), fun a j => (k.2.2 a j).trans (h.2.2 a j)⟩
theorem FrC.mono {C C' : Nat → Nat → Prop} {μ μ1 : Mm} (h : FrC C μ μ1) (hs : ∀ a j, C a j → C' a j) : FrC C' μ μ1 := ⟨fun a j ha => h.1 a j (fun q => ha (hs a j q)), h.2.1, h.2.2⟩
theorem FrC.put {C : Nat → Nat → Prop} {μ μ1 : Mm} {a j : Nat} {v : Int32} (h : FrC C μ μ1) (ha : C a j) : FrC C μ (pI μ1 a j v) := ⟨fun x y hx => by
  rw [gI_pI, if_neg (fun q : x = a ∧ y = j => hx (by rw [q.1, q.2]; exact ha))]; exact h.1 x y hx, h.2.1, h.2.2⟩
theorem Fr.c {S : Nat → Prop} {μ μ1 : Mm} (h : Fr S μ μ1) : FrC (fun a _ => S a) μ μ1 := ⟨fun a j q => h.1 a q j, h.2.1, h.2.2⟩
def wr (n o : Nat) : Nat := 2 ^ n - 2 ^ o
/-- the cells of the evening x -/
def CX9 (x a j : Nat) : Prop := ((a = 118 ∨ a = 119) ∧ 7 * x ≤ j ∧ j < 7 * x + 7) ∨ (120 ≤ a ∧ a ≤ 124 ∧ j = x) ∨ a = 135 ∨ a = 136
