/-! PEOPLE OF BOTH -/
theorem IChg.mono2 {μ : Mm} {n m : Nat} (h : IChg μ n) (hm : n ≤ m) : IChg μ m := by
  obtain ⟨k, rfl⟩ : ∃ k, m = n + k := ⟨m - n, by omega⟩
  clear hm
  induction k with
  | zero => exact h
  | succ k ih => exact ih.mono
