/-! ALL CALLS, ONE AFTER ANOTHER -/
theorem lg_same (w : Int64) : lg_cmp w w = iI 0 := by
  unfold lg_cmp
  simp
  rfl
section LOOP
variable {xs : Nat → Int32} {L i : Nat} {k : Int32 → Mm → Option (Unit × Mm)} {m : Mm}
theorem arm_of {A B : Mm → Option (Int32 × Mm)} (g : Good A B) (hI : Inv m) (hk : ∀ m', Inv m' → ∃ μ, k (kI (i + 6)) m' = some ((), μ)) : ∃ μ, (bnd (A m) fun v2 m3 => bnd (B m3) fun v5 m6 => (if v2 = v5 then F_L_law_1151 k (kI i) m6 else none)) = some ((), μ) := by
  obtain ⟨v, m1, m2, a1, a2, a3⟩ := g m hI
  obtain ⟨μ, h⟩ := hk m2 a3
  refine ⟨μ, ?_⟩
  unfold F_L_law_1151
  rw [bnd_eq a1, bnd_eq a2, if_pos rfl, iI_lit, kI_add, nm_eq, h]
theorem arm_ofL {A B : Mm → Option (Int64 × Mm)} (g : Good A B) (hI : Inv m) (hk : ∀ m', Inv m' → ∃ μ, k (kI (i + 6)) m' = some ((), μ)) : ∃ μ, (bnd (A m) fun v2 m3 => bnd (B m3) fun v5 m6 => (if lg_cmp v2 v5 = iI 0 then F_L_law_1151 k (kI i) m6 else none)) = some ((), μ) := by
  obtain ⟨v, m1, m2, a1, a2, a3⟩ := g m hI
  obtain ⟨μ, h⟩ := hk m2 a3
  refine ⟨μ, ?_⟩
  unfold F_L_law_1151
  rw [bnd_eq a1, bnd_eq a2, if_pos (lg_same v), iI_lit, kI_add, nm_eq, h]
theorem rd_s (hi : i + 6 ≤ L) (hL : L ≤ 3072) (c : Nat) (hc : c < 6) (G : Nat → Option (Unit × Mm)) : rd L (kI i + iI (c : Int)) G = G (i + c) := by
  rw [show iI (c : Int) = kI c from rfl, kI_add, rd_kI (by omega) (by omega)]
theorem arm_0 (hi : i + 6 ≤ L) (hL : L ≤ 3072) (hI : Inv m) (hk : ∀ m', Inv m' → ∃ μ, k (kI (i + 6)) m' = some ((), μ)) : ∃ μ, F_L_arm0 xs L k (kI i) m = some ((), μ) := by
  unfold F_L_arm0
  have r1 : ∀ (G : Nat → Option (Unit × Mm)), rd L (kI i + iI 1) G = G (i + 1) := fun G => rd_s hi hL 1 (by omega) G
  simp only [r1]
  exact arm_of (g_person (xs (i + 1))) hI hk
theorem arm_1 (hi : i + 6 ≤ L) (hL : L ≤ 3072) (hI : Inv m) (hk : ∀ m', Inv m' → ∃ μ, k (kI (i + 6)) m' = some ((), μ)) : ∃ μ, F_L_arm1 xs L k (kI i) m = some ((), μ) := by
  unfold F_L_arm1
  have r1 : ∀ (G : Nat → Option (Unit × Mm)), rd L (kI i + iI 1) G = G (i + 1) := fun G => rd_s hi hL 1 (by omega) G
  have r2 : ∀ (G : Nat → Option (Unit × Mm)), rd L (kI i + iI 2) G = G (i + 2) := fun G => rd_s hi hL 2 (by omega) G
  have r3 : ∀ (G : Nat → Option (Unit × Mm)), rd L (kI i + iI 3) G = G (i + 3) := fun G => rd_s hi hL 3 (by omega) G
  simp only [r1, r2, r3]
  exact arm_of (g_people (xs (i + 1)) (xs (i + 2)) (xs (i + 3))) hI hk
theorem arm_2 (hi : i + 6 ≤ L) (hL : L ≤ 3072) (hI : Inv m) (hk : ∀ m', Inv m' → ∃ μ, k (kI (i + 6)) m' = some ((), μ)) : ∃ μ, F_L_arm2 xs L k (kI i) m = some ((), μ) := by
  unfold F_L_arm2
  have r1 : ∀ (G : Nat → Option (Unit × Mm)), rd L (kI i + iI 1) G = G (i + 1) := fun G => rd_s hi hL 1 (by omega) G
  have r2 : ∀ (G : Nat → Option (Unit × Mm)), rd L (kI i + iI 2) G = G (i + 2) := fun G => rd_s hi hL 2 (by omega) G
  have r3 : ∀ (G : Nat → Option (Unit × Mm)), rd L (kI i + iI 3) G = G (i + 3) := fun G => rd_s hi hL 3 (by omega) G
  simp only [r1, r2, r3]
  exact arm_of (g_mend (xs (i + 1)) (xs (i + 2)) (xs (i + 3))) hI hk
theorem arm_3 (hi : i + 6 ≤ L) (hL : L ≤ 3072) (hI : Inv m) (hk : ∀ m', Inv m' → ∃ μ, k (kI (i + 6)) m' = some ((), μ)) : ∃ μ, F_L_arm3 xs L k (kI i) m = some ((), μ) := by
  unfold F_L_arm3
  have r1 : ∀ (G : Nat → Option (Unit × Mm)), rd L (kI i + iI 1) G = G (i + 1) := fun G => rd_s hi hL 1 (by omega) G
  have r2 : ∀ (G : Nat → Option (Unit × Mm)), rd L (kI i + iI 2) G = G (i + 2) := fun G => rd_s hi hL 2 (by omega) G
  simp only [r1, r2]
  exact arm_of (g_of (xs (i + 1)) (xs (i + 2))) hI hk
theorem arm_4 (hi : i + 6 ≤ L) (hL : L ≤ 3072) (hI : Inv m) (hk : ∀ m', Inv m' → ∃ μ, k (kI (i + 6)) m' = some ((), μ)) : ∃ μ, F_L_arm4 xs L k (kI i) m = some ((), μ) := by
  unfold F_L_arm4
  have r1 : ∀ (G : Nat → Option (Unit × Mm)), rd L (kI i + iI 1) G = G (i + 1) := fun G => rd_s hi hL 1 (by omega) G
  simp only [r1]
  exact arm_of (g_swap (xs (i + 1))) hI hk
theorem arm_5 (hi : i + 6 ≤ L) (hL : L ≤ 3072) (hI : Inv m) (hk : ∀ m', Inv m' → ∃ μ, k (kI (i + 6)) m' = some ((), μ)) : ∃ μ, F_L_arm5 xs L k (kI i) m = some ((), μ) := by
  unfold F_L_arm5
  have r1 : ∀ (G : Nat → Option (Unit × Mm)), rd L (kI i + iI 1) G = G (i + 1) := fun G => rd_s hi hL 1 (by omega) G
  simp only [r1]
  exact arm_of (g_feed (xs (i + 1))) hI hk
theorem arm_6 (hi : i + 6 ≤ L) (hL : L ≤ 3072) (hI : Inv m) (hk : ∀ m', Inv m' → ∃ μ, k (kI (i + 6)) m' = some ((), μ)) : ∃ μ, F_L_arm6 xs L k (kI i) m = some ((), μ) := by
  unfold F_L_arm6
  exact arm_of (g_law) hI hk
theorem arm_7 (hi : i + 6 ≤ L) (hL : L ≤ 3072) (hI : Inv m) (hk : ∀ m', Inv m' → ∃ μ, k (kI (i + 6)) m' = some ((), μ)) : ∃ μ, F_L_arm7 xs L k (kI i) m = some ((), μ) := by
  unfold F_L_arm7
  exact arm_of (g_turn) hI hk
theorem arm_8 (hi : i + 6 ≤ L) (hL : L ≤ 3072) (hI : Inv m) (hk : ∀ m', Inv m' → ∃ μ, k (kI (i + 6)) m' = some ((), μ)) : ∃ μ, F_L_arm8 xs L k (kI i) m = some ((), μ) := by
  unfold F_L_arm8
  exact arm_of (g_open) hI hk
theorem arm_9 (hi : i + 6 ≤ L) (hL : L ≤ 3072) (hI : Inv m) (hk : ∀ m', Inv m' → ∃ μ, k (kI (i + 6)) m' = some ((), μ)) : ∃ μ, F_L_arm9 xs L k (kI i) m = some ((), μ) := by
  unfold F_L_arm9
  have r1 : ∀ (G : Nat → Option (Unit × Mm)), rd L (kI i + iI 1) G = G (i + 1) := fun G => rd_s hi hL 1 (by omega) G
  simp only [r1]
  exact arm_of (g_take (xs (i + 1))) hI hk
theorem arm_10 (hi : i + 6 ≤ L) (hL : L ≤ 3072) (hI : Inv m) (hk : ∀ m', Inv m' → ∃ μ, k (kI (i + 6)) m' = some ((), μ)) : ∃ μ, F_L_arm10 xs L k (kI i) m = some ((), μ) := by
  unfold F_L_arm10
  exact arm_of (g_goOn) hI hk
theorem arm_11 (hi : i + 6 ≤ L) (hL : L ≤ 3072) (hI : Inv m) (hk : ∀ m', Inv m' → ∃ μ, k (kI (i + 6)) m' = some ((), μ)) : ∃ μ, F_L_arm11 xs L k (kI i) m = some ((), μ) := by
  unfold F_L_arm11
  exact arm_of (g_again) hI hk
theorem arm_12 (hi : i + 6 ≤ L) (hL : L ≤ 3072) (hI : Inv m) (hk : ∀ m', Inv m' → ∃ μ, k (kI (i + 6)) m' = some ((), μ)) : ∃ μ, F_L_arm12 xs L k (kI i) m = some ((), μ) := by
  unfold F_L_arm12
  exact arm_of (g_anew) hI hk
theorem arm_13 (hi : i + 6 ≤ L) (hL : L ≤ 3072) (hI : Inv m) (hk : ∀ m', Inv m' → ∃ μ, k (kI (i + 6)) m' = some ((), μ)) : ∃ μ, F_L_arm13 xs L k (kI i) m = some ((), μ) := by
  unfold F_L_arm13
  have r1 : ∀ (G : Nat → Option (Unit × Mm)), rd L (kI i + iI 1) G = G (i + 1) := fun G => rd_s hi hL 1 (by omega) G
  simp only [r1]
  exact arm_of (g_led (xs (i + 1))) hI hk
theorem arm_14 (hi : i + 6 ≤ L) (hL : L ≤ 3072) (hI : Inv m) (hk : ∀ m', Inv m' → ∃ μ, k (kI (i + 6)) m' = some ((), μ)) : ∃ μ, F_L_arm14 xs L k (kI i) m = some ((), μ) := by
  unfold F_L_arm14
  have r1 : ∀ (G : Nat → Option (Unit × Mm)), rd L (kI i + iI 1) G = G (i + 1) := fun G => rd_s hi hL 1 (by omega) G
  have r2 : ∀ (G : Nat → Option (Unit × Mm)), rd L (kI i + iI 2) G = G (i + 2) := fun G => rd_s hi hL 2 (by omega) G
  simp only [r1, r2]
  exact arm_of (g_evening (xs (i + 1)) (xs (i + 2))) hI hk
theorem arm_15 (hi : i + 6 ≤ L) (hL : L ≤ 3072) (hI : Inv m) (hk : ∀ m', Inv m' → ∃ μ, k (kI (i + 6)) m' = some ((), μ)) : ∃ μ, F_L_arm15 xs L k (kI i) m = some ((), μ) := by
  unfold F_L_arm15
  have r1 : ∀ (G : Nat → Option (Unit × Mm)), rd L (kI i + iI 1) G = G (i + 1) := fun G => rd_s hi hL 1 (by omega) G
  simp only [r1]
  exact arm_of (g_exact (xs (i + 1))) hI hk
theorem arm_16 (hi : i + 6 ≤ L) (hL : L ≤ 3072) (hI : Inv m) (hk : ∀ m', Inv m' → ∃ μ, k (kI (i + 6)) m' = some ((), μ)) : ∃ μ, F_L_arm16 xs L k (kI i) m = some ((), μ) := by
  unfold F_L_arm16
  have r1 : ∀ (G : Nat → Option (Unit × Mm)), rd L (kI i + iI 1) G = G (i + 1) := fun G => rd_s hi hL 1 (by omega) G
  simp only [r1]
  exact arm_of (g_best (xs (i + 1))) hI hk
theorem arm_17 (hi : i + 6 ≤ L) (hL : L ≤ 3072) (hI : Inv m) (hk : ∀ m', Inv m' → ∃ μ, k (kI (i + 6)) m' = some ((), μ)) : ∃ μ, F_L_arm17 xs L k (kI i) m = some ((), μ) := by
  unfold F_L_arm17
  exact arm_of (g_pairs) hI hk
theorem arm_18 (hi : i + 6 ≤ L) (hL : L ≤ 3072) (hI : Inv m) (hk : ∀ m', Inv m' → ∃ μ, k (kI (i + 6)) m' = some ((), μ)) : ∃ μ, F_L_arm18 xs L k (kI i) m = some ((), μ) := by
  unfold F_L_arm18
  have r1 : ∀ (G : Nat → Option (Unit × Mm)), rd L (kI i + iI 1) G = G (i + 1) := fun G => rd_s hi hL 1 (by omega) G
  simp only [r1]
  exact arm_of (g_face (xs (i + 1))) hI hk
theorem arm_19 (hi : i + 6 ≤ L) (hL : L ≤ 3072) (hI : Inv m) (hk : ∀ m', Inv m' → ∃ μ, k (kI (i + 6)) m' = some ((), μ)) : ∃ μ, F_L_arm19 xs L k (kI i) m = some ((), μ) := by
  unfold F_L_arm19
  have r1 : ∀ (G : Nat → Option (Unit × Mm)), rd L (kI i + iI 1) G = G (i + 1) := fun G => rd_s hi hL 1 (by omega) G
  have r2 : ∀ (G : Nat → Option (Unit × Mm)), rd L (kI i + iI 2) G = G (i + 2) := fun G => rd_s hi hL 2 (by omega) G
  have r3 : ∀ (G : Nat → Option (Unit × Mm)), rd L (kI i + iI 3) G = G (i + 3) := fun G => rd_s hi hL 3 (by omega) G
  simp only [r1, r2, r3]
  exact arm_of (g_numbers (xs (i + 1)) (xs (i + 2)) (xs (i + 3))) hI hk
theorem arm_20 (hi : i + 6 ≤ L) (hL : L ≤ 3072) (hI : Inv m) (hk : ∀ m', Inv m' → ∃ μ, k (kI (i + 6)) m' = some ((), μ)) : ∃ μ, F_L_arm20 xs L k (kI i) m = some ((), μ) := by
  unfold F_L_arm20
  have r1 : ∀ (G : Nat → Option (Unit × Mm)), rd L (kI i + iI 1) G = G (i + 1) := fun G => rd_s hi hL 1 (by omega) G
  simp only [r1]
  exact arm_of (g_judge (xs (i + 1))) hI hk
theorem arm_21 (hi : i + 6 ≤ L) (hL : L ≤ 3072) (hI : Inv m) (hk : ∀ m', Inv m' → ∃ μ, k (kI (i + 6)) m' = some ((), μ)) : ∃ μ, F_L_arm21 xs L k (kI i) m = some ((), μ) := by
  unfold F_L_arm21
  have r1 : ∀ (G : Nat → Option (Unit × Mm)), rd L (kI i + iI 1) G = G (i + 1) := fun G => rd_s hi hL 1 (by omega) G
  simp only [r1]
  exact arm_of (g_lots (xs (i + 1))) hI hk
theorem arm_22 (hi : i + 6 ≤ L) (hL : L ≤ 3072) (hI : Inv m) (hk : ∀ m', Inv m' → ∃ μ, k (kI (i + 6)) m' = some ((), μ)) : ∃ μ, F_L_arm22 xs L k (kI i) m = some ((), μ) := by
  unfold F_L_arm22
  exact arm_of (g_image) hI hk
theorem arm_23 (hi : i + 6 ≤ L) (hL : L ≤ 3072) (hI : Inv m) (hk : ∀ m', Inv m' → ∃ μ, k (kI (i + 6)) m' = some ((), μ)) : ∃ μ, F_L_arm23 xs L k (kI i) m = some ((), μ) := by
  unfold F_L_arm23
  exact arm_of (g_back) hI hk
theorem arm_24 (hi : i + 6 ≤ L) (hL : L ≤ 3072) (hI : Inv m) (hk : ∀ m', Inv m' → ∃ μ, k (kI (i + 6)) m' = some ((), μ)) : ∃ μ, F_L_arm24 xs L k (kI i) m = some ((), μ) := by
  unfold F_L_arm24
  exact arm_of (g_undo) hI hk
theorem arm_25 (hi : i + 6 ≤ L) (hL : L ≤ 3072) (hI : Inv m) (hk : ∀ m', Inv m' → ∃ μ, k (kI (i + 6)) m' = some ((), μ)) : ∃ μ, F_L_arm25 xs L k (kI i) m = some ((), μ) := by
  unfold F_L_arm25
  exact arm_of (g_redo) hI hk
theorem arm_26 (hi : i + 6 ≤ L) (hL : L ≤ 3072) (hI : Inv m) (hk : ∀ m', Inv m' → ∃ μ, k (kI (i + 6)) m' = some ((), μ)) : ∃ μ, F_L_arm26 xs L k (kI i) m = some ((), μ) := by
  unfold F_L_arm26
  have r1 : ∀ (G : Nat → Option (Unit × Mm)), rd L (kI i + iI 1) G = G (i + 1) := fun G => rd_s hi hL 1 (by omega) G
  simp only [r1]
  exact arm_of (g_body (xs (i + 1))) hI hk
theorem arm_27 (hi : i + 6 ≤ L) (hL : L ≤ 3072) (hI : Inv m) (hk : ∀ m', Inv m' → ∃ μ, k (kI (i + 6)) m' = some ((), μ)) : ∃ μ, F_L_arm27 xs L k (kI i) m = some ((), μ) := by
  unfold F_L_arm27
  have r1 : ∀ (G : Nat → Option (Unit × Mm)), rd L (kI i + iI 1) G = G (i + 1) := fun G => rd_s hi hL 1 (by omega) G
  have r2 : ∀ (G : Nat → Option (Unit × Mm)), rd L (kI i + iI 2) G = G (i + 2) := fun G => rd_s hi hL 2 (by omega) G
  have r3 : ∀ (G : Nat → Option (Unit × Mm)), rd L (kI i + iI 3) G = G (i + 3) := fun G => rd_s hi hL 3 (by omega) G
  simp only [r1, r2, r3]
  exact arm_of (g_act (xs (i + 1)) (xs (i + 2)) (xs (i + 3))) hI hk
theorem arm_28 (hi : i + 6 ≤ L) (hL : L ≤ 3072) (hI : Inv m) (hk : ∀ m', Inv m' → ∃ μ, k (kI (i + 6)) m' = some ((), μ)) : ∃ μ, F_L_arm28 xs L k (kI i) m = some ((), μ) := by
  unfold F_L_arm28
  have r1 : ∀ (G : Nat → Option (Unit × Mm)), rd L (kI i + iI 1) G = G (i + 1) := fun G => rd_s hi hL 1 (by omega) G
  simp only [r1]
  exact arm_of (g_trace (xs (i + 1))) hI hk
theorem arm_29 (hi : i + 6 ≤ L) (hL : L ≤ 3072) (hI : Inv m) (hk : ∀ m', Inv m' → ∃ μ, k (kI (i + 6)) m' = some ((), μ)) : ∃ μ, F_L_arm29 xs L k (kI i) m = some ((), μ) := by
  unfold F_L_arm29
  have r1 : ∀ (G : Nat → Option (Unit × Mm)), rd L (kI i + iI 1) G = G (i + 1) := fun G => rd_s hi hL 1 (by omega) G
  have r2 : ∀ (G : Nat → Option (Unit × Mm)), rd L (kI i + iI 2) G = G (i + 2) := fun G => rd_s hi hL 2 (by omega) G
  simp only [r1, r2]
  exact arm_of (g_keep (xs (i + 1)) (xs (i + 2))) hI hk
theorem arm_30 (hi : i + 6 ≤ L) (hL : L ≤ 3072) (hI : Inv m) (hk : ∀ m', Inv m' → ∃ μ, k (kI (i + 6)) m' = some ((), μ)) : ∃ μ, F_L_arm30 xs L k (kI i) m = some ((), μ) := by
  unfold F_L_arm30
  have r1 : ∀ (G : Nat → Option (Unit × Mm)), rd L (kI i + iI 1) G = G (i + 1) := fun G => rd_s hi hL 1 (by omega) G
  have r2 : ∀ (G : Nat → Option (Unit × Mm)), rd L (kI i + iI 2) G = G (i + 2) := fun G => rd_s hi hL 2 (by omega) G
  have r3 : ∀ (G : Nat → Option (Unit × Mm)), rd L (kI i + iI 3) G = G (i + 3) := fun G => rd_s hi hL 3 (by omega) G
  simp only [r1, r2, r3]
  exact arm_of (g_row (xs (i + 1)) (xs (i + 2)) (xs (i + 3))) hI hk
theorem arm_31 (hi : i + 6 ≤ L) (hL : L ≤ 3072) (hI : Inv m) (hk : ∀ m', Inv m' → ∃ μ, k (kI (i + 6)) m' = some ((), μ)) : ∃ μ, F_L_arm31 xs L k (kI i) m = some ((), μ) := by
  unfold F_L_arm31
  have r1 : ∀ (G : Nat → Option (Unit × Mm)), rd L (kI i + iI 1) G = G (i + 1) := fun G => rd_s hi hL 1 (by omega) G
  have r2 : ∀ (G : Nat → Option (Unit × Mm)), rd L (kI i + iI 2) G = G (i + 2) := fun G => rd_s hi hL 2 (by omega) G
  have r3 : ∀ (G : Nat → Option (Unit × Mm)), rd L (kI i + iI 3) G = G (i + 3) := fun G => rd_s hi hL 3 (by omega) G
  have r4 : ∀ (G : Nat → Option (Unit × Mm)), rd L (kI i + iI 4) G = G (i + 4) := fun G => rd_s hi hL 4 (by omega) G
  simp only [r1, r2, r3, r4]
  exact arm_of (g_put (xs (i + 1)) (xs (i + 2)) _) hI hk
theorem arm_32 (hi : i + 6 ≤ L) (hL : L ≤ 3072) (hI : Inv m) (hk : ∀ m', Inv m' → ∃ μ, k (kI (i + 6)) m' = some ((), μ)) : ∃ μ, F_L_arm32 xs L k (kI i) m = some ((), μ) := by
  unfold F_L_arm32
  have r1 : ∀ (G : Nat → Option (Unit × Mm)), rd L (kI i + iI 1) G = G (i + 1) := fun G => rd_s hi hL 1 (by omega) G
  have r2 : ∀ (G : Nat → Option (Unit × Mm)), rd L (kI i + iI 2) G = G (i + 2) := fun G => rd_s hi hL 2 (by omega) G
  simp only [r1, r2]
  exact arm_ofL (g_element (xs (i + 1)) (xs (i + 2))) hI hk
theorem arm_33 (hi : i + 6 ≤ L) (hL : L ≤ 3072) (hI : Inv m) (hk : ∀ m', Inv m' → ∃ μ, k (kI (i + 6)) m' = some ((), μ)) : ∃ μ, F_L_arm33 xs L k (kI i) m = some ((), μ) := by
  unfold F_L_arm33
  have r1 : ∀ (G : Nat → Option (Unit × Mm)), rd L (kI i + iI 1) G = G (i + 1) := fun G => rd_s hi hL 1 (by omega) G
  have r2 : ∀ (G : Nat → Option (Unit × Mm)), rd L (kI i + iI 2) G = G (i + 2) := fun G => rd_s hi hL 2 (by omega) G
  have r3 : ∀ (G : Nat → Option (Unit × Mm)), rd L (kI i + iI 3) G = G (i + 3) := fun G => rd_s hi hL 3 (by omega) G
  have r4 : ∀ (G : Nat → Option (Unit × Mm)), rd L (kI i + iI 4) G = G (i + 4) := fun G => rd_s hi hL 4 (by omega) G
  have r5 : ∀ (G : Nat → Option (Unit × Mm)), rd L (kI i + iI 5) G = G (i + 5) := fun G => rd_s hi hL 5 (by omega) G
  simp only [r1, r2, r3, r4, r5]
  exact arm_of (g_shift (xs (i + 1)) (xs (i + 2)) (xs (i + 3)) (xs (i + 4)) (xs (i + 5))) hI hk
theorem arm_34 (hi : i + 6 ≤ L) (hL : L ≤ 3072) (hI : Inv m) (hk : ∀ m', Inv m' → ∃ μ, k (kI (i + 6)) m' = some ((), μ)) : ∃ μ, F_L_arm34 xs L k (kI i) m = some ((), μ) := by
  unfold F_L_arm34
  have r1 : ∀ (G : Nat → Option (Unit × Mm)), rd L (kI i + iI 1) G = G (i + 1) := fun G => rd_s hi hL 1 (by omega) G
  have r2 : ∀ (G : Nat → Option (Unit × Mm)), rd L (kI i + iI 2) G = G (i + 2) := fun G => rd_s hi hL 2 (by omega) G
  simp only [r1, r2]
  exact arm_of (g_taken (xs (i + 1)) (xs (i + 2))) hI hk
theorem arm_35 (hi : i + 6 ≤ L) (hL : L ≤ 3072) (hI : Inv m) (hk : ∀ m', Inv m' → ∃ μ, k (kI (i + 6)) m' = some ((), μ)) : ∃ μ, F_L_arm35 xs L k (kI i) m = some ((), μ) := by
  unfold F_L_arm35
  have r1 : ∀ (G : Nat → Option (Unit × Mm)), rd L (kI i + iI 1) G = G (i + 1) := fun G => rd_s hi hL 1 (by omega) G
  simp only [r1]
  exact arm_of (g_count (xs (i + 1))) hI hk
theorem tsw_all {β : Type} {Q : Option β → Prop} {x : Int32} {lo : Int} {fs : List (Option β)} {d : Option β} (h : ∀ F, F ∈ fs → Q F) (hd : Q d) : Q (tsw x lo fs d) := by
  unfold tsw
  by_cases z : lo ≤ x.toInt ∧ x.toInt < lo + fs.length
  · rw [if_pos z, List.getD_eq_getElem?_getD, List.getElem?_eq_getElem (by omega)]
    exact h _ (List.getElem_mem _)
  · rw [if_neg z]; exact hd
theorem law_if (hL : L ≤ 3072) (hi : i ≤ 4000) : ((Int32.ofNat L - iI 6) < kI i) ↔ L < i + 6 := by
  have e : Int32.ofNat L = kI L := rfl
  by_cases z : L < 6
  · have q : (Int32.ofNat L - iI 6).toInt < 0 := (by decide +kernel : ∀ L, L < 6 → (Int32.ofNat L - iI 6).toInt < 0) L z
    rw [Int32.lt_iff_toInt_lt, kI_toInt (by omega)]
    omega
  · rw [e, show kI L - iI 6 = kI (L - 6) from kI_sub (b := 6) (by omega), kI_lt (by omega) (by omega)]
    omega
end LOOP
theorem law_loop {xs : Nat → Int32} {L : Nat} (hL : L ≤ 3072) : ∀ f i (m : Mm), Inv m → i ≤ L + 6 → L + 6 < i + 6 * f → ∃ μ, F_L_law_18 xs L f (kI i) m = some ((), μ)
  | 0, i, m, hI, hi, hf => absurd hf (by omega)
  | f + 1, i, m, hI, hi, hf => by
    rw [F_L_law_18]
    by_cases z : L < i + 6
    · rw [if_pos ((law_if hL (by omega)).mpr z)]
      exact ⟨m, rfl⟩
    · rw [if_neg (fun w => z ((law_if hL (by omega)).mp w)), rd_kI (by omega) (by omega)]
      have hk : ∀ m', Inv m' → ∃ μ, F_L_law_18 xs L f (kI (i + 6)) m' = some ((), μ) := fun m' h => law_loop hL f (i + 6) m' h (by omega) (by omega)
      have h6 : i + 6 ≤ L := by omega
      refine tsw_all (Q := fun F => ∃ μ, F = some ((), μ)) ?_ ?_
      · refine List.forall_mem_cons.mpr ⟨arm_0 h6 hL hI hk, List.forall_mem_cons.mpr ⟨arm_1 h6 hL hI hk, List.forall_mem_cons.mpr ⟨arm_2 h6 hL hI hk, List.forall_mem_cons.mpr ⟨arm_3 h6 hL hI hk, List.forall_mem_cons.mpr ⟨arm_4 h6 hL hI hk, List.forall_mem_cons.mpr ⟨arm_5 h6 hL hI hk, List.forall_mem_cons.mpr ⟨arm_6 h6 hL hI hk, List.forall_mem_cons.mpr ⟨arm_7 h6 hL hI hk, List.forall_mem_cons.mpr ⟨arm_8 h6 hL hI hk, List.forall_mem_cons.mpr ⟨arm_9 h6 hL hI hk, List.forall_mem_cons.mpr ⟨arm_10 h6 hL hI hk, List.forall_mem_cons.mpr ⟨arm_11 h6 hL hI hk, List.forall_mem_cons.mpr ⟨arm_12 h6 hL hI hk, List.forall_mem_cons.mpr ⟨arm_13 h6 hL hI hk, List.forall_mem_cons.mpr ⟨arm_14 h6 hL hI hk, List.forall_mem_cons.mpr ⟨arm_15 h6 hL hI hk, List.forall_mem_cons.mpr ⟨arm_16 h6 hL hI hk, List.forall_mem_cons.mpr ⟨arm_17 h6 hL hI hk, List.forall_mem_cons.mpr ⟨arm_18 h6 hL hI hk, List.forall_mem_cons.mpr ⟨arm_19 h6 hL hI hk, List.forall_mem_cons.mpr ⟨arm_20 h6 hL hI hk, List.forall_mem_cons.mpr ⟨arm_21 h6 hL hI hk, List.forall_mem_cons.mpr ⟨arm_22 h6 hL hI hk, List.forall_mem_cons.mpr ⟨arm_23 h6 hL hI hk, List.forall_mem_cons.mpr ⟨arm_24 h6 hL hI hk, List.forall_mem_cons.mpr ⟨arm_25 h6 hL hI hk, List.forall_mem_cons.mpr ⟨arm_26 h6 hL hI hk, List.forall_mem_cons.mpr ⟨arm_27 h6 hL hI hk, List.forall_mem_cons.mpr ⟨arm_28 h6 hL hI hk, List.forall_mem_cons.mpr ⟨arm_29 h6 hL hI hk, List.forall_mem_cons.mpr ⟨arm_30 h6 hL hI hk, List.forall_mem_cons.mpr ⟨arm_31 h6 hL hI hk, List.forall_mem_cons.mpr ⟨arm_32 h6 hL hI hk, List.forall_mem_cons.mpr ⟨arm_33 h6 hL hI hk, List.forall_mem_cons.mpr ⟨arm_34 h6 hL hI hk, List.forall_mem_cons.mpr ⟨arm_35 h6 hL hI hk, fun _ h => absurd h List.not_mem_nil⟩⟩⟩⟩⟩⟩⟩⟩⟩⟩⟩⟩⟩⟩⟩⟩⟩⟩⟩⟩⟩⟩⟩⟩⟩⟩⟩⟩⟩⟩⟩⟩⟩⟩⟩⟩
      · unfold F_L_law_1151
        rw [iI_lit, kI_add, nm_eq]
        exact hk m hI
