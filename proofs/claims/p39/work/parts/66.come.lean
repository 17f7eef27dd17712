/-! ANEW, SWAP, WHO COMES -/
theorem wf_0 {m m' : Nat} {P P' : Pa} {lot lot' : Nat → Nat} {e : Ev} (h : WfE m P lot e) (h0 : eP e = 0) (hR : eR e = none) : WfE m' P' lot' e := by
  obtain ⟨hb, h1, h2, h3, h4, h5, h6, h8⟩ := h
  refine ⟨hb, by omega, fun k hk => absurd hk (by omega), h3, h4, fun k q hq => ?_, fun r hr => ?_, fun j hj _ => ?_⟩
  · rw [(h3 k (by omega)).1] at hq; cases hq
  · rw [hR] at hr; cases hr
  · rcases hj with hj | hj
    · omega
    · exact absurd hR hj.2
theorem RC.frS {C : Nat → Nat → Prop} {μ μ1 : Mm} {t : Nat} {e : Ev} (h : RC μ t e) (hf : FrC C μ μ1) (hs : ∀ a j, C a j → ¬ SE t a) : RC μ1 t e := by
  have q : ∀ a, SE t a → ∀ j, gI μ1 a j = gI μ a j := fun a h1 j => hf.1 a j (fun z => hs a j z h1)
  obtain ⟨h0, ⟨h1, h2, h3⟩, h4, h5, h6, h7, h8, h9, h10⟩ := h
  refine ⟨h0, ⟨fun k hk => ?_, fun k hk => ?_, fun k hk => ?_⟩, ?_, ?_, ?_, ?_, ?_, ?_, ?_⟩
  · rw [q _ (by unfold SE; omega)]; exact h1 k hk
  · rw [q _ (by unfold SE; omega)]; exact h2 k hk
  · rw [q _ (by unfold SE; omega)]; exact h3 k hk
  all_goals (rw [q _ (by unfold SE; omega)]; assumption)
def swL (lot : Nat → Nat) (i j : Nat) : Nat → Nat := up (up lot i (lot j)) j (lot i)
theorem swL_at {lot : Nat → Nat} {i j x : Nat} : swL lot i j x = if x = j then lot i else if x = i then lot j else lot x := rfl
theorem swL_ok {n : Nat} {P : Pa} {lot : Nat → Nat} {i j : Nat} (h : LotOk n P lot) (hi : i < n) (hj : j < n) : LotOk n P (swL lot i j) := by
  obtain ⟨h1, h2, h3⟩ := h
  refine ⟨h1, fun x y hx hy e => ?_, fun x hx => ?_⟩
  · rw [swL_at, swL_at] at e
    by_cases a1 : x = j
    · rw [if_pos a1] at e
      by_cases b1 : y = j
      · omega
      · rw [if_neg b1] at e
        by_cases b2 : y = i
        · rw [if_pos b2] at e
          have := h2 i j hi hj e
          omega
        · rw [if_neg b2] at e
          exact absurd (h2 i y hi hy e).symm b2
    · rw [if_neg a1] at e
      by_cases a2 : x = i
      · rw [if_pos a2] at e
        by_cases b1 : y = j
        · rw [if_pos b1] at e
          have := h2 j i hj hi e
          omega
        · rw [if_neg b1] at e
          by_cases b2 : y = i
          · omega
          · rw [if_neg b2] at e
            exact absurd (h2 j y hj hy e).symm b1
      · rw [if_neg a2] at e
        by_cases b1 : y = j
        · rw [if_pos b1] at e
          exact absurd (h2 x i hx hi e) a2
        · rw [if_neg b1] at e
          by_cases b2 : y = i
          · rw [if_pos b2] at e
            exact absurd (h2 x j hx hj e) a1
          · rw [if_neg b2] at e
            exact h2 x y hx hy e
  · rw [swL_at]
    split
    · exact h3 i hi
    · split
      · exact h3 j hj
      · exact h3 x hx
theorem swapM {μ : Mm} {a i j : Nat} {lot : Nat → Nat} {m : Nat} (h : ∀ x, x < m → gI μ a x = kI (lot x)) (hi : i < m) (hj : j < m) : ∀ x, x < m → gI (pI (pI μ a i (kI (lot j))) a j (kI (lot i))) a x = kI (swL lot i j x) := fun x hx => by
  rw [swL_at]
  by_cases z : x = j
  · simp [gI_pI, z]
  · by_cases y : x = i
    · have : ¬ i = j := fun w => z (y.trans w)
      simp [gI_pI, y, this]
    · simp [gI_pI, z, y, h x hx]
/-- one comes -/
def addP (P : Pa) (w : Nat) : Pa := (pN P + 1, pW P, pK P, up (pY P) (pN P) w, pM P, pA P, pF P)
def addL (P : Pa) (lot : Nat → Nat) : Nat → Nat := up lot (pN P) (pN P)
theorem addP_ok {P : Pa} {w : Nat} (h : PaOk P) (hn : pN P < 7) (hw : w ≤ 2) : PaOk (addP P w) := by
  obtain ⟨h1, h2, h3, h4, h5⟩ := h
  refine ⟨by show pN P + 1 ≤ 7; omega, h2, h3, fun p => ?_, h5⟩
  show up (pY P) (pN P) w p ≤ 2
  by_cases z : p = pN P
  · rw [z, up_at]; exact hw
  · rw [up_ne z]; exact h4 p
theorem welcome_eq {μ : Mm} {P : Pa} {lot : Nat → Nat} {e : Ev} {w : Nat} (hP : PC μ P) (h : RC μ 23 e) (hL : LotC μ 23 lot) (hn : pN P < 7) (hw : w ≤ 2) : ∃ μ1, F_X8_welcome (kI w) μ = some (kI (pN P), μ1) ∧ PC μ1 (addP P w) ∧ RC μ1 23 e ∧ LotC μ1 23 (addL P lot) ∧ FrC (fun a _ => a = 2 ∨ a = 5 ∨ a = 24) μ μ1 := by
  have f : FrC (fun a _ => a = 2 ∨ a = 5 ∨ a = 24) μ (pI (pI (pI μ 5 (pN P) (kI w)) 24 (pN P) (kI (pN P))) 2 0 (kI (pN P + 1))) := ((FrC.put (C := fun a _ => a = 2 ∨ a = 5 ∨ a = 24) FrC.refl (by omega)).put (by omega)).put (by omega)
  have hP' := hP
  obtain ⟨⟨h1, h2, h3, h4, h5, h6⟩, hl, ho⟩ := hP
  refine ⟨_, ?_, ⟨⟨?_, fun p k hp hk => ?_, fun p k hp hk => ?_, fun p hp => ?_, ?_, ?_⟩, ?_, addP_ok ho hn hw⟩, h.frS f (fun a j q => by unfold SE; omega), ⟨fun j hj => ?_, fun j hj => ?_⟩, f⟩
  · unfold F_X8_welcome
    simp (disch := omega) only [h1, hn, iI_lit, kI_add, kI_mul, kI_eq, kI_lt, kI_le, kI_neg1, neg1_kI, neg1_lt0, neg1_0le, kO_none, kO_some, nm_eq, bnd_some, rz_0, rz_1, zb_0, zb_1, rd_kI, wrI_kI, wrL_kI, dvI_kI, rmI_kI, if_true, if_false, ite_true, ite_false, reduceIte, Nat.lt_irrefl, Nat.le_refl, not_true, not_false_iff, true_and, and_true, false_and, and_false, and_self, Bool.false_eq_true, eq_self, Decidable.not_not]
  · show _ = kI (pN P + 1)
    simp [gI_pI]
  · rw [f.1 3 _ (by omega)]; exact h2 p k hp hk
  · rw [f.1 4 _ (by omega)]; exact h3 p k hp hk
  · show _ = kI (up (pY P) (pN P) w p)
    by_cases z : p = pN P
    · simp [gI_pI, z, up_at]
    · simp [gI_pI, z, up_ne z, h4 p hp]
  · show _ = kI (pM P)
    simp [gI_pI, h5]
  · show _ = kI (pA P)
    simp [gI_pI, h6]
  · obtain ⟨lp, l1, l2, l3⟩ := hl
    refine ⟨lp, l1, l2, fun μ' q => l3 μ' (fun a ha j => ?_)⟩
    rw [q a ha j, f.1 a j (by omega)]
  · show _ = kI (up lot (pN P) (pN P) j)
    by_cases z : j = pN P
    · simp [gI_pI, z, up_at]
    · simp [gI_pI, z, up_ne z, hL.1 j hj]
  · show up lot (pN P) (pN P) j < 4294967296
    by_cases z : j = pN P
    · rw [z, up_at]; omega
    · rw [up_ne z]; exact hL.2 j hj
def CAdd (a j : Nat) : Prop := (a = 113 ∧ j = 1) ∨ a = 116 ∨ a = 117 ∨ CX9 0 a j
theorem addL_ok {P : Pa} {lot : Nat → Nat} {w : Nat} (h : LotOk (pN P) P lot) : LotOk (pN (addP P w)) (addP P w) (addL P lot) := by
  obtain ⟨h1, h2, h3⟩ := h
  refine ⟨Nat.le_refl _, fun i j hi hj q => ?_, fun i hi => ?_⟩
  · have hi : i < pN P + 1 := hi
    have hj : j < pN P + 1 := hj
    change up lot (pN P) (pN P) i = up lot (pN P) (pN P) j at q
    by_cases z : i = pN P
    · by_cases y : j = pN P
      · omega
      · rw [z, up_at, up_ne y] at q
        have := h3 j (by omega)
        omega
    · by_cases y : j = pN P
      · rw [y, up_at, up_ne z] at q
        have := h3 i (by omega)
        omega
      · rw [up_ne z, up_ne y] at q
        exact h2 i j (by omega) (by omega) q
  · have hi : i < pN P + 1 := hi
    show up lot (pN P) (pN P) i < pN P + 1
    by_cases z : i = pN P
    · rw [z, up_at]; omega
    · rw [up_ne z]; have := h3 i (by omega); omega
theorem Kn.mono {n w a b : Nat} (h : Kn n w a b) : Kn (n + 1) w a b := by
  rcases h with ⟨h1, p, k, h2, h3, h4⟩ | ⟨h1, p, k, h2, h3, h4⟩ | ⟨h1, h2⟩ | h | h
  · exact Or.inl ⟨h1, p, k, by omega, by omega, h4⟩
  · exact Or.inr (Or.inl ⟨h1, p, k, by omega, by omega, h4⟩)
  · exact Or.inr (Or.inr (Or.inl ⟨h1, by omega, h2.2⟩))
  · exact Or.inr (Or.inr (Or.inr (Or.inl h)))
  · exact Or.inr (Or.inr (Or.inr (Or.inr h)))
theorem IChg.mono {μ : Mm} {n : Nat} (h : IChg μ n) : IChg μ (n + 1) := by
  obtain ⟨d, a, E, h1, h2, h3, h4, h5⟩ := h
  exact ⟨d, a, E, h1, h2, h3, h4, fun i hi => ⟨(h5 i hi).1.mono, (h5 i hi).2⟩⟩
/-- neither party nor deed -/
def Oth (μ : Mm) (n : Nat) : Prop := IChg μ n ∧ ITape μ ∧ ILaw μ ∧ IImg μ ∧ IBod μ ∧ IShe μ
