/-! THE START -/
def mA : Mm := ((F_X8_init (clr m00 1)).getD ((), m00)).2
def mB : Mm := ((F_X9_init (clr mA 113)).getD ((), m00)).2
theorem get_of {o : Option (Unit × Mm)} (h : o.isSome = true) : o = some ((), (o.getD ((), m00)).2) := by
  cases o with
  | none => cases h
  | some x => rfl
theorem i8_eq : F_X8_init (clr m00 1) = some ((), mA) := get_of (by decide +kernel)
theorem i9_eq : F_X9_init (clr mA 113) = some ((), mB) := get_of (by decide +kernel)
def layB (m : Mm) : Bool := (List.range 157).all fun a => (List.range 64).all fun j => if (shp a).1 = 9 then (match sref (shp a).2 a j with
  | some x => decide (gR m a j = x)
  | none => true) else true
theorem sref_lt {ci a j x : Nat} (h : sref ci a j = some x) : j < 64 := by
  unfold sref at h
  split at h
  all_goals first
    | omega
    | cases h
theorem lay_of {m : Mm} (h : layB m = true) (h34 : ∀ j, j < 10 → gR m 34 j = 50 + 5 * j) (h35 : ∀ j, j < 10 → gR m 35 j = 36 + 1 * j) (h106 : ∀ j, j < 6 → gR m 106 j = 107 + 1 * j) : Lay m := by
  refine ⟨fun a ci j x q1 q2 => ?_, fun a j x q => ?_⟩
  · have ha : a ≤ NN := shp_le q1 (by omega)
    have hj := sref_lt q2
    have h1 := List.all_eq_true.mp h a (List.mem_range.mpr (by unfold NN at ha; omega))
    have h2 := List.all_eq_true.mp h1 j (List.mem_range.mpr hj)
    have h2 : (if (shp a).1 = 9 then (match sref (shp a).2 a j with
      | some x => decide (gR m a j = x)
      | none => true) else true) = true := h2
    rw [q1, if_pos rfl] at h2
    have h2 : (match sref ci a j with
      | some x => decide (gR m a j = x)
      | none => true) = true := h2
    rw [q2] at h2
    exact of_decide_eq_true h2
  · unfold aref at q
    split at q
    · by_cases z : j < 10
      · rw [if_pos z] at q
        cases q
        exact h34 j z
      · rw [if_neg z] at q
        cases q
    · by_cases z : j < 10
      · rw [if_pos z] at q
        cases q
        exact h35 j z
      · rw [if_neg z] at q
        cases q
    · by_cases z : j < 6
      · rw [if_pos z] at q
        cases q
        exact h106 j z
      · rw [if_neg z] at q
        cases q
    · cases q
theorem lay_B : Lay mB := lay_of (by decide +kernel) (by decide +kernel) (by decide +kernel) (by decide +kernel)
def P0 : Pa := (0, fun _ _ => 0, fun _ _ => 5, fun _ => 0, 3, 0, fun w _ _ _ _ _ => w)
def e00 : Ev := (fun _ => none, fun _ => 0, 0, none, none, fun _ => none, 0, iI (-1), iI (-1), kI 0)
def lot0 : Nat → Nat := fun _ => 0
def T0 : List Lin := [([], [(2, 0)])]
theorem pc_B : PC mB P0 := by
  refine ⟨⟨by decide +kernel, ?_, ?_, ?_, by decide +kernel, by decide +kernel⟩, ⟨6, Or.inl rfl, by decide +kernel, fun μ' hag w x t l o r => ?_⟩, ⟨by decide, fun _ _ => Nat.zero_le _, fun _ _ => (show 5 ≤ 9 by decide), fun _ => Nat.zero_le _, by decide, by decide, by decide⟩⟩
  · have : ∀ p, p < 7 → ∀ k, k < 7 → gI mB 3 (10 * p + k) = kI 0 := by decide +kernel
    exact fun p k hp hk => this p hp k hk
  · have : ∀ p, p < 7 → ∀ k, k < 7 → gI mB 4 (10 * p + k) = kI 5 := by decide +kernel
    exact fun p k hp hk => this p hp k hk
  · have : ∀ p, p < 7 → gI mB 5 p = kI 0 := by decide +kernel
    exact this
  · have hl : lay T0 = [(36, 0), (59, 0)] := by decide
    have hT : ∀ ln, ln ∈ T0 → LV ln := fun ln q => by
      rw [List.mem_singleton.mp q]
      exact ⟨Or.inl rfl, Vd.one (Or.inr (Or.inl ⟨rfl, by decide, rfl⟩))⟩
    refine number_eq (T := T0) (Or.inl rfl) ?_ ?_ (fun i hi => ?_) hT w x t l o r
    · rw [hag 6 (Or.inl rfl), hl]; decide +kernel
    · rw [hl]; decide
    · rw [hl] at hi ⊢
      rw [hag 7 (Or.inr (Or.inl rfl)), hag 8 (Or.inr (Or.inr rfl))]
      have hi : i < 2 := hi
      have : ∀ i, i < 2 → gI mB 7 i = kI (([(36, 0), (59, 0)] : List (Nat × Nat)).getD i (0, 0)).1 ∧ gI mB 8 i = kI (([(36, 0), (59, 0)] : List (Nat × Nat)).getD i (0, 0)).2 := by decide +kernel
      exact this i hi
theorem pr_B : PR mB P0 := by
  refine ⟨⟨by decide +kernel, ?_, ?_, ?_, by decide +kernel, by decide +kernel⟩, Or.inl ⟨by decide +kernel, fun w x t l o r => rfl⟩, pc_B.ok⟩
  · have : ∀ p, p < 7 → ∀ k, k < 7 → gI mB 114 (7 * p + k) = kI 0 := by decide +kernel
    exact fun p k hp hk => this p hp k hk
  · have : ∀ p, p < 7 → ∀ k, k < 7 → gI mB 115 (7 * p + k) = kI 5 := by decide +kernel
    exact fun p k hp hk => this p hp k hk
  · have : ∀ p, p < 7 → gI mB 116 p = kI 0 := by decide +kernel
    exact this
theorem wf_B : WfE (pN P0) P0 lot0 e00 := by
  have no : ∀ j, came e00 j → False := fun j h => by
    rcases h with h | ⟨_, h⟩
    · exact Nat.not_lt_zero _ h
    · exact h rfl
  refine ⟨⟨by decide, fun _ => Nat.zero_le _, fun k q h => ?_, fun p k h => ?_, fun r h => ?_, fun r h => ?_, by decide⟩, by decide, fun k h => absurd h (Nat.not_lt_zero k), fun k _ => ⟨rfl, rfl⟩, fun p k => ?_, fun k q h => ?_, fun r h => ?_, fun j h => (no j h).elim⟩
  · cases h
  · cases h
  · cases h
  · cases h
  · exact ⟨fun h => (by cases h), fun h => (by cases h)⟩
  · cases h
  · cases h
theorem deed_B : IDeed mB P0 lot0 e00 := by
  refine ⟨⟨rfl, ⟨?_, ?_, ?_⟩, by decide +kernel, by decide +kernel, by decide +kernel, by decide +kernel, by decide +kernel, by decide +kernel, by decide +kernel⟩, ⟨?_, fun j _ => (show 0 < 4294967296 by decide)⟩, ⟨by decide, fun i j h => absurd h (Nat.not_lt_zero i), fun i h => absurd h (Nat.not_lt_zero i)⟩, wf_B, fun _ => ⟨rfl, rfl, rfl⟩, ⟨by decide, fun k h => absurd h (Nat.not_lt_zero k), fun k h => absurd h (Nat.not_lt_zero k), by decide +kernel, by decide +kernel, fun z => absurd (z rfl) (by decide), fun z => absurd (z rfl) (by decide), fun z => absurd z (by decide), fun j h => absurd h (Nat.not_lt_zero j)⟩, by decide +kernel, by decide +kernel, by decide +kernel, Or.inl rfl⟩
  · have : ∀ k, k < 7 → gI mB 26 k = kO none := by decide +kernel
    exact this
  · have : ∀ k, k < 7 → gI mB 27 k = kI 0 := by decide +kernel
    exact this
  · have : ∀ k, k < 7 → gI mB 25 k = kO none := by decide +kernel
    exact this
  · have : ∀ k, k < 7 → gI mB 24 k = kI 0 := by decide +kernel
    exact this
theorem inv_B : Inv mB := by
  refine ⟨P0, lot0, e00, pc_B, pr_B, deed_B, ⟨0, 0, fun _ => (0, 0, 0, 0, 0), by decide, by decide, ⟨by decide +kernel, by decide +kernel, fun i h => absurd h (Nat.not_lt_zero i)⟩, ⟨by decide +kernel, by decide +kernel, fun i h => absurd h (Nat.not_lt_zero i)⟩, fun i h => absurd h (Nat.not_lt_zero i)⟩, ⟨0, by decide, by decide +kernel, by decide +kernel, fun i h => absurd h (Nat.not_lt_zero i)⟩, Or.inl ⟨by decide +kernel, by decide +kernel⟩, Or.inl ⟨by decide +kernel, by decide +kernel⟩, ⟨0, 0, by decide, by decide, by decide +kernel, by decide +kernel, by decide +kernel, by decide +kernel, fun i h => absurd h (Nat.not_lt_zero i), fun i h => absurd h (Nat.not_lt_zero i)⟩, ?_⟩
  have : ∀ s, s < 6 → gI mB 104 s = iI (-2) ∧ gI mB 153 s = iI (-1) := by decide +kernel
  exact fun s h => Or.inl (this s h)
theorem law_all (xs : Nat → Int32) (L : Nat) (hL : L ≤ 3072) : ∃ μ, F_law xs L = some ((), μ) := by
  obtain ⟨μ, h⟩ := law_loop (xs := xs) hL FU 0 mB inv_B (by omega) (by unfold FU; omega)
  refine ⟨μ, ?_⟩
  unfold F_law
  rw [nm_eq, bnd_eq i8_eq, nm_eq, bnd_eq i9_eq, if_pos lay_B]
  exact h
