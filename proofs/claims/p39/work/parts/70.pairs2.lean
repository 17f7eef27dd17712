/-! UNDO, REDO, OF, COUNT, FEED, BODY, TRACE OF BOTH -/
theorem tsw10_at {β : Type} {k : Nat} (hk : k < 4) {a b c d e : Option β} : tsw (kI (10 + k)) 10 [a, b, c, d] e = [a, b, c, d].getD k e := by
  unfold tsw
  rw [kI_toInt (by omega)]
  have h : (10 : Int) ≤ ((10 + k : Nat) : Int) ∧ ((10 + k : Nat) : Int) < 10 + (([a, b, c, d] : List (Option β)).length : Int) := by
    show (10 : Int) ≤ ((10 + k : Nat) : Int) ∧ ((10 + k : Nat) : Int) < 10 + ((4 : Nat) : Int)
    omega
  rw [if_pos h]
  congr 1
  omega
theorem tsw10_out {β : Type} {x : Int32} (hx : ∀ k, k < 4 → x ≠ kI (10 + k)) {a b c d e : Option β} : tsw x 10 [a, b, c, d] e = e := by
  unfold tsw
  rw [if_neg]
  intro h
  have h2 : x.toInt < 10 + ((4 : Nat) : Int) := h.2
  rcases i32_cases x with q | ⟨k, k1, rfl⟩
  · have := h.1; omega
  · rw [kI_toInt k1] at h h2
    have h1 := h.1
    exact hx (k - 10) (by omega) (by congr 1; omega)
