/-! BEST OF BOTH -/
/-- the reference's way through the parcels of one: what is best so far, and by which parcel -/
def fd (P : Pa) (c p u s : Nat) : Nat → Nat → Int → Option Nat → Int × Option Nat
  | 0, _, b, K => (b, K)
  | m + 1, i, b, K => if bt u i = 0 ∧ b < ((s + gB P c p u i : Nat) : Int) then fd P c p u s m (i + 1) ((s + gB P c p u i : Nat) : Int) (some i) else fd P c p u s m (i + 1) b K
theorem fd_spec {P : Pa} {c p u s : Nat} : ∀ m i b K, (∀ k, i ≤ k → k < i + m → bt u k = 0 → ((s + gB P c p u k : Nat) : Int) ≤ (fd P c p u s m i b K).1) ∧ b ≤ (fd P c p u s m i b K).1 ∧ (((fd P c p u s m i b K).1 = b ∧ (fd P c p u s m i b K).2 = K) ∨ ∃ k, i ≤ k ∧ k < i + m ∧ bt u k = 0 ∧ (fd P c p u s m i b K).2 = some k ∧ ((s + gB P c p u k : Nat) : Int) = (fd P c p u s m i b K).1 ∧ b < (fd P c p u s m i b K).1 ∧ ∀ j, i ≤ j → j < k → bt u j = 0 → ((s + gB P c p u j : Nat) : Int) < (fd P c p u s m i b K).1)
  | 0, i, b, K => ⟨fun k h1 h2 => absurd h2 (by omega), Int.le_refl _, Or.inl ⟨rfl, rfl⟩⟩
  | m + 1, i, b, K => by
    have e : fd P c p u s (m + 1) i b K = if bt u i = 0 ∧ b < ((s + gB P c p u i : Nat) : Int) then fd P c p u s m (i + 1) ((s + gB P c p u i : Nat) : Int) (some i) else fd P c p u s m (i + 1) b K := rfl
    rw [e]
    by_cases z : bt u i = 0 ∧ b < ((s + gB P c p u i : Nat) : Int)
    · rw [if_pos z]
      obtain ⟨h1, h2, h3⟩ := fd_spec (P := P) (c := c) (p := p) (u := u) (s := s) m (i + 1) ((s + gB P c p u i : Nat) : Int) (some i)
      generalize fd P c p u s m (i + 1) ((s + gB P c p u i : Nat) : Int) (some i) = r at h1 h2 h3
      refine ⟨fun k k1 k2 k3 => ?_, by omega, Or.inr ?_⟩
      · by_cases y : k = i
        · rw [y]; exact h2
        · exact h1 k (by omega) (by omega) k3
      · rcases h3 with ⟨a1, a2⟩ | ⟨k, a1, a2, a3, a4, a5, a6, a7⟩
        · exact ⟨i, Nat.le_refl _, by omega, z.1, a2, a1.symm, by omega, fun j j1 j2 => absurd j1 (by omega)⟩
        · refine ⟨k, by omega, by omega, a3, a4, a5, by omega, fun j j1 j2 j3 => ?_⟩
          by_cases y : j = i
          · rw [y]; exact a6
          · exact a7 j (by omega) j2 j3
    · rw [if_neg z]
      obtain ⟨h1, h2, h3⟩ := fd_spec (P := P) (c := c) (p := p) (u := u) (s := s) m (i + 1) b K
      generalize fd P c p u s m (i + 1) b K = r at h1 h2 h3
      have hi : bt u i = 0 → ((s + gB P c p u i : Nat) : Int) ≤ b := fun q => by
        rcases Int.lt_or_le b ((s + gB P c p u i : Nat) : Int) with w | w
        · exact absurd ⟨q, w⟩ z
        · exact w
      refine ⟨fun k k1 k2 k3 => ?_, h2, ?_⟩
      · by_cases y : k = i
        · rw [y] at k3 ⊢
          have := hi k3
          omega
        · exact h1 k (by omega) (by omega) k3
      · rcases h3 with h3 | ⟨k, a1, a2, a3, a4, a5, a6, a7⟩
        · exact Or.inl h3
        · refine Or.inr ⟨k, by omega, by omega, a3, a4, a5, a6, fun j j1 j2 j3 => ?_⟩
          by_cases y : j = i
          · rw [y] at j3 ⊢
            have := hi j3
            omega
          · exact a7 j (by omega) j2 j3
def CB9 (a j : Nat) : Prop := a = 142 ∨ a = 143 ∨ (a = 113 ∧ j = 47)
/-- what lies in the row of the best -/
def Kst (P : Pa) (c p u : Nat) (pre : Nat → Int32) (m0 m : Mm) (K : Option Nat) : Prop := match K with
  | none => ∀ j, gI m 143 j = gI m0 143 j
  | some k => (∀ j, j < p → gI m 143 j = pre j) ∧ gI m 143 p = kI k ∧ ∀ j, p + 1 ≤ j → j < pN P → gI m 143 j = kI (gr P c (p + 1) (u + 2 ^ k) j)
def PostB (P : Pa) (c p u s : Nat) (B : Int) (m m' : Mm) : Prop := FrC CB9 m m' ∧ (∀ j, j < p → gI m' 142 j = gI m 142 j) ∧ gI m' 113 47 = iI (if B < ((s + Mx P c p u : Nat) : Int) then ((s + Mx P c p u : Nat) : Int) else B) ∧ (B < ((s + Mx P c p u : Nat) : Int) → (∀ j, j < p → gI m' 143 j = gI m 142 j) ∧ ∀ j, p ≤ j → j < pN P → gI m' 143 j = kI (gr P c p u j)) ∧ (¬ B < ((s + Mx P c p u : Nat) : Int) → ∀ j, gI m' 143 j = gI m 143 j)
theorem iI_lt3 {B : Int} {s : Nat} (h1 : -1 ≤ B) (h2 : B ≤ 100000) (hs : s ≤ 100000) : (iI B < kI s) ↔ B < (s : Int) := by
  rw [kI_iI, iI_lt2 (by omega) (by omega)]
