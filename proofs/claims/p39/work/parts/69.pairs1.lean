/-! MEND, OF, UNDO, REDO OF BOTH -/
theorem kcases (n : Nat) (x y : Int32) : (∃ w num at9, Kn n w num at9 ∧ y = kI w ∧ x = kI num) ∨ ∀ w num at9, Kn n w num at9 → y = kI w → x ≠ kI num := by
  by_cases h : ∃ w num at9, Kn n w num at9 ∧ y = kI w ∧ x = kI num
  · exact Or.inl h
  · exact Or.inr fun w num at9 h1 h2 h3 => h ⟨w, num, at9, h1, h2, h3⟩
theorem vcases (w : Nat) (x : Int32) : (∃ v, vOk w v ∧ x = kI v) ∨ ∀ v, vOk w v → x ≠ kI v := by
  by_cases h : ∃ v, vOk w v ∧ x = kI v
  · exact Or.inl h
  · exact Or.inr fun v h1 h2 => h ⟨v, h1, h2⟩
theorem tsw5_at {β : Type} {w : Nat} (hw : w ≤ 4) {a b c d e f : Option β} : tsw (kI w) 0 [a, b, c, d, e] f = [a, b, c, d, e].getD w f := tsw0_at (by show w < 5; omega) (by omega)
theorem nE_ok {n d : Nat} {a : Nat} {E : Nat → Chg} (h : ∀ i, i < a → okC n (E i)) (hd : d ≤ a) (ha : a ≤ 40) {c : Chg} (hc : okC n c) : ∀ i, i < nD d + 1 → okC n (up (nE d E) (nD d) c i) := by
  intro i hi
  by_cases z : i = nD d
  · rw [z, up_at]; exact hc
  · rw [up_ne z]
    unfold nE
    unfold nD at hi z
    split
    · next q => rw [if_pos q] at hi z; exact h i (by omega)
    · next q => rw [if_neg q] at hi z; exact h (i + 1) (by omega)
