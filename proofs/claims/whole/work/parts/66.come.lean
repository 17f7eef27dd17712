/-! ANEW, SWAP, WHO COMES -/
theorem wf_0 {m m' : Nat} {P P' : Pa} {lot lot' : Nat → Nat} {e : Ev} (h : WfE m P lot e) (h0 : eP e = 0) (hR : eR e = none) : WfE m' P' lot' e := by
  obtain ⟨hb, h1, h2, h3, h4, h5, h6, h8⟩ := h
  refine ⟨hb, by omega, fun k hk => absurd hk (by omega), h3, h4, fun k q hq => ?_, fun r hr => ?_, fun j hj _ => ?_⟩
  · rw [(h3 k (by omega)).1] at hq; cases hq
  · rw [hR] at hr; cases hr
  · rcases hj with hj | hj
    · omega
    · exact absurd hR hj.2
theorem RR0_wr {μ : Mm} {P : Pa} {lot : Nat → Nat} {w g n : Int32} {e : Ev} (h : RR μ 0 P lot (wrE w g n)) (hT : ∀ k, eP e ≤ k → eO e k = none ∧ eT e k = 0) (h0 : eP e = 0) (hR : eR e = none) (hJ : eJ e = none) : RR μ 0 P lot e := by
  obtain ⟨g0, g1, g2, g3, g4, g5, g6, g7, g8⟩ := h
  refine ⟨g0, fun k hk => ?_, fun k hk => ?_, ?_, ?_, ?_, ?_, fun z => absurd z (by omega), g8⟩
  · rw [(hT k (by omega)).1]; exact g1 k hk
  · rw [(hT k (by omega)).2]; exact g2 k hk
  · rw [h0]; exact g3
  · have : cu P lot e = cu P lot (wrE w g n) := by
      unfold cu
      rw [hR, h0]
      rfl
    rw [this]; exact g4
  · rw [h0]; exact g5
  · rw [hJ]; exact g6
theorem g_anew : Good (F_X8_anew) (F_X9_anew) := by
  intro μ hI
  obtain ⟨P, lot, e, hR, hD⟩ := hI.split
  have hn := hR.1.n7
  obtain ⟨m1, a1, a2, a3⟩ := wrap_eq (μ := μ) (t := 23) sh23
  rw [hD.1.2.2.2.2.2.2.1, hD.1.2.2.2.2.2.2.2.1, hD.1.2.2.2.2.2.2.2.2] at a2
  have u3 : FrC (fun a _ => SE 23 a) μ m1 := a3.c
  have hL1 : LotC m1 23 lot := hD.2.1.frC u3 (fun a j q => by unfold SE at q; omega)
  have hPR1 : PR m1 P := hR.2.1.fr u3 (fun a j q z => by unfold SE at q; unfold CP at z; omega)
  obtain ⟨_, m2, b1, b2, b3⟩ := beginAt_eq (μ := m1) (x := 0) (by omega) hPR1 (fun j hj => by rw [u3.1 117 j (by unfold SE; omega)]; exact hD.2.2.2.2.2.1.2.2.2.2.2.2.2.2 j hj) (eW e) (eG e)
  have g0 : FrC (fun a j => a = 113 ∧ 15 ≤ j ∧ j ≤ 16) m2 (pI (pI m2 113 15 (kI 0)) 113 16 (kI 0)) := (FrC.refl.put (by omega)).put (by omega)
  have fa : FrC (fun a j => CX9 0 a j ∨ (a = 113 ∧ (15 ≤ j ∧ j ≤ 19))) m1 (pI (pI m2 113 15 (kI 0)) 113 16 (kI 0)) := (b3.mono fun a j q => Or.inl q).trans (g0.mono fun a j q => by omega)
  have hwy : WfE (pN P) P lot (wrE (eW e) (eG e) (eN e)) := wf_wr
  have hl := hD.led
  have hLed : Led (pI (pI m2 113 15 (kI 0)) 113 16 (kI 0)) (wrE (eW e) (eG e) (eN e)) := by
    unfold Led at hl ⊢
    have k : ∀ j, j = 17 ∨ j = 18 ∨ j = 19 → gI (pI (pI m2 113 15 (kI 0)) 113 16 (kI 0)) 113 j = gI μ 113 j := fun j hj => by
      rw [g0.1 113 j (by omega), b3.1 113 j (by unfold CX9; omega), u3.1 113 j (by unfold SE; omega)]
    refine ⟨by simp [gI_pI]; rfl, ?_, ?_⟩
    · rw [k 19 (by omega)]; exact hl.2.1
    · rw [k 17 (by omega), k 18 (by omega)]; exact hl.2.2
  have hD2 : IDeed (pI (pI m2 113 15 (kI 0)) 113 16 (kI 0)) P lot (wrE (eW e) (eG e) (eN e)) := IDeed.step2 a2 hL1 ((RR0_wr b2 (fun k _ => ⟨rfl, rfl⟩) rfl rfl rfl).fr hn g0 (fun a j q => by omega)) hLed (fa.mono fun a j q => q.elim (fun z => Or.inr (Or.inr (Or.inr (Or.inl z)))) (fun z => by omega)) (by simp [gI_pI]; rfl) hD.2.2.1 hwy (fun _ => ⟨rfl, rfl, rfl⟩)
  have f : FrC CD μ (pI (pI m2 113 15 (kI 0)) 113 16 (kI 0)) := (u3.mono fun a j q => by unfold SE at q; unfold CD; omega).trans (fa.mono fun a j q => by unfold CX9 at q; unfold CD; omega)
  refine ⟨kI (pN P), m1, _, ?_, ?_, Inv.join (hR.fr f (fun _ _ q => q)) hD2⟩
  · unfold F_X8_anew
    rw [bnd_eq a1, u3.1 2 0 (by unfold SE; omega), hR.1.n]
  · unfold F_X9_anew
    simp only [iI_lit]
    rw [bnd_eq b1, nm_eq, nm_eq, fa.1 113 1 (by unfold CX9; omega), hPR1.n]
theorem RC.frS {C : Nat → Nat → Prop} {μ μ1 : Mm} {t : Nat} {e : Ev} (h : RC μ t e) (hf : FrC C μ μ1) (hs : ∀ a j, C a j → ¬ SE t a) : RC μ1 t e := by
  have q : ∀ a, SE t a → ∀ j, gI μ1 a j = gI μ a j := fun a h1 j => hf.1 a j (fun z => hs a j z h1)
  obtain ⟨h0, ⟨h1, h2, h3⟩, h4, h5, h6, h7, h8, h9, h10⟩ := h
  refine ⟨h0, ⟨fun k hk => ?_, fun k hk => ?_, fun k hk => ?_⟩, ?_, ?_, ?_, ?_, ?_, ?_, ?_⟩
  · rw [q _ (by unfold SE; omega)]; exact h1 k hk
  · rw [q _ (by unfold SE; omega)]; exact h2 k hk
  · rw [q _ (by unfold SE; omega)]; exact h3 k hk
  all_goals (rw [q _ (by unfold SE; omega)]; assumption)
def swL (lot : Nat → Nat) (i j : Nat) : Nat → Nat := up (up lot i (lot j)) j (lot i)
theorem swL_at {lot : Nat → Nat} {i j x : Nat} : swL lot i j x = if x = j then lot i else if x = i then lot j else lot x := rfl
theorem swL_ok {n : Nat} {P : Pa} {lot : Nat → Nat} {i j : Nat} (h : LotOk n P lot) (hi : i < n) (hj : j < n) : LotOk n P (swL lot i j) := by
  obtain ⟨h1, h2, h3⟩ := h
  refine ⟨h1, fun x y hx hy e => ?_, fun x hx => ?_⟩
  · rw [swL_at, swL_at] at e
    by_cases a1 : x = j
    · rw [if_pos a1] at e
      by_cases b1 : y = j
      · omega
      · rw [if_neg b1] at e
        by_cases b2 : y = i
        · rw [if_pos b2] at e
          have := h2 i j hi hj e
          omega
        · rw [if_neg b2] at e
          exact absurd (h2 i y hi hy e).symm b2
    · rw [if_neg a1] at e
      by_cases a2 : x = i
      · rw [if_pos a2] at e
        by_cases b1 : y = j
        · rw [if_pos b1] at e
          have := h2 j i hj hi e
          omega
        · rw [if_neg b1] at e
          by_cases b2 : y = i
          · omega
          · rw [if_neg b2] at e
            exact absurd (h2 j y hj hy e).symm b1
      · rw [if_neg a2] at e
        by_cases b1 : y = j
        · rw [if_pos b1] at e
          exact absurd (h2 x i hx hi e) a2
        · rw [if_neg b1] at e
          by_cases b2 : y = i
          · rw [if_pos b2] at e
            exact absurd (h2 x j hx hj e) a1
          · rw [if_neg b2] at e
            exact h2 x y hx hy e
  · rw [swL_at]
    split
    · exact h3 i hi
    · split
      · exact h3 j hj
      · exact h3 x hx
theorem swapM {μ : Mm} {a i j : Nat} {lot : Nat → Nat} {m : Nat} (h : ∀ x, x < m → gI μ a x = kI (lot x)) (hi : i < m) (hj : j < m) : ∀ x, x < m → gI (pI (pI μ a i (kI (lot j))) a j (kI (lot i))) a x = kI (swL lot i j x) := fun x hx => by
  rw [swL_at]
  by_cases z : x = j
  · simp [gI_pI, z]
  · by_cases y : x = i
    · have : ¬ i = j := fun w => z (y.trans w)
      simp [gI_pI, y, this]
    · simp [gI_pI, z, y, h x hx]
theorem g_swap (x : Int32) : Good (F_X8_swap x) (F_X9_swap x) := by
  intro μ hI
  obtain ⟨P, lot, e, hR, hD⟩ := hI.split
  have hn := hR.1.n7
  have hw := hD.2.2.2.1
  have hb := hw.1
  have hbeg := hasBegun_eq hD.1 hb
  have e15 := hD.2.2.2.2.2.2.1
  have t0 := tot_0 hw
  have t28 := tot_le hw
  rcases pair_cases (pN P) x with ⟨p, k, hp, hk, rfl⟩ | hx
  · have i1 := isPair_yes hR.1 hp hk
    have i2 := fun (m : Mm) (h : PR m P) => areBoth_yes h hp hk
    have d1 : (10 * p + k) / 10 = p := by omega
    have d2 : (10 * p + k) % 10 = k := by omega
    by_cases hpk : p = k
    · refine Good.bad (v := iI (-1)) hI ?_ ?_
      · unfold F_X8_swap
        rw [bnd_eq i1]
        simp (disch := omega) only [show (10 * k + k) / 10 = k by omega, show (10 * k + k) % 10 = k by omega, hpk, Nat.one_ne_zero, iI_lit, kI_add, kI_mul, kI_eq, kI_lt, kI_le, kI_neg1, neg1_kI, neg1_lt0, neg1_0le, kO_none, kO_some, nm_eq, bnd_some, rz_0, rz_1, zb_0, zb_1, rd_kI, wrI_kI, wrL_kI, dvI_kI, rmI_kI, if_true, if_false, ite_true, ite_false, reduceIte, Nat.lt_irrefl, Nat.le_refl, not_true, not_false_iff, true_and, and_true, false_and, and_false, and_self, Bool.false_eq_true, eq_self, Decidable.not_not]
      · unfold F_X9_swap
        rw [bnd_eq (i2 _ hR.2.1)]
        simp (disch := omega) only [show (10 * k + k) / 10 = k by omega, show (10 * k + k) % 10 = k by omega, hpk, Nat.one_ne_zero, iI_lit, kI_add, kI_mul, kI_eq, kI_lt, kI_le, kI_neg1, neg1_kI, neg1_lt0, neg1_0le, kO_none, kO_some, nm_eq, bnd_some, rz_0, rz_1, zb_0, zb_1, rd_kI, wrI_kI, wrL_kI, dvI_kI, rmI_kI, if_true, if_false, ite_true, ite_false, reduceIte, Nat.lt_irrefl, Nat.le_refl, not_true, not_false_iff, true_and, and_true, false_and, and_false, and_self, Bool.false_eq_true, eq_self, Decidable.not_not]
    · by_cases h0 : eP e = 0
      · rw [if_neg (by omega)] at hbeg
        obtain ⟨z1, z2, z3⟩ := hD.2.2.2.2.1 h0
        have hL := hD.2.1
        have c1 : F_X2_changePlaces 23 (kI p) (kI k) μ = some ((), pI (pI μ 24 p (kI (lot k))) 24 k (kI (lot p))) := by
          have l1 := hL.1 p (by omega)
          have l2 := hL.1 k (by omega)
          unfold F_X2_changePlaces
          rw [if_pos sh23]
          simp (disch := omega) only [l1, l2, iI_lit, kI_add, kI_mul, kI_eq, kI_lt, kI_le, kI_neg1, neg1_kI, neg1_lt0, neg1_0le, kO_none, kO_some, nm_eq, bnd_some, rz_0, rz_1, zb_0, zb_1, rd_kI, wrI_kI, wrL_kI, dvI_kI, rmI_kI, if_true, if_false, ite_true, ite_false, reduceIte, Nat.lt_irrefl, Nat.le_refl, not_true, not_false_iff, true_and, and_true, false_and, and_false, and_self, Bool.false_eq_true, eq_self, Decidable.not_not]
        have s1 := swapM (μ := μ) (a := 24) (i := p) (j := k) (m := 7) hL.1 (by omega) (by omega)
        have f1 : FrC (fun a _ => a = 24) μ (pI (pI μ 24 p (kI (lot k))) 24 k (kI (lot p))) := (FrC.put (C := fun a _ => a = 24) FrC.refl rfl).put rfl
        have hL1 : LotC (pI (pI μ 24 p (kI (lot k))) 24 k (kI (lot p))) 23 (swL lot p k) := ⟨s1, fun j hj => by
          rw [swL_at]
          split
          · exact hL.2 p (by omega)
          · split
            · exact hL.2 k (by omega)
            · exact hL.2 j hj⟩
        have hRC1 := hD.1.frS f1 (fun a j q => by unfold SE; omega)
        have hRC1' : PC (pI (pI μ 24 p (kI (lot k))) 24 k (kI (lot p))) P := hR.1.frC f1 (fun a j q => by unfold CPc; omega)
        have hPR1 : PR (pI (pI μ 24 p (kI (lot k))) 24 k (kI (lot p))) P := hR.2.1.fr f1 (fun a j q z => by unfold CP at z; omega)
        have hRR1 := hD.2.2.2.2.2.1.fr hn f1 (fun a j q => by omega)
        have hled1 : Led (pI (pI μ 24 p (kI (lot k))) 24 k (kI (lot p))) e := hD.led
        generalize hm1 : pI (pI μ 24 p (kI (lot k))) 24 k (kI (lot p)) = m1 at c1 s1 f1 hL1 hRC1 hRC1' hPR1 hRR1 hled1
        obtain ⟨g0, g1, g2, g3, g4, g5, g6, g7, g8⟩ := hRR1
        have s2 := swapM (μ := m1) (a := 117) (i := p) (j := k) (m := pN P) g8 hp hk
        have c2 : F_X9_swapLot (kI p) (kI k) m1 = some ((), pI (pI m1 117 p (kI (lot k))) 117 k (kI (lot p))) := by
          have l1 := g8 p hp
          have l2 := g8 k hk
          unfold F_X9_swapLot
          simp (disch := omega) only [l1, l2, iI_lit, kI_add, kI_mul, kI_eq, kI_lt, kI_le, kI_neg1, neg1_kI, neg1_lt0, neg1_0le, kO_none, kO_some, nm_eq, bnd_some, rz_0, rz_1, zb_0, zb_1, rd_kI, wrI_kI, wrL_kI, dvI_kI, rmI_kI, if_true, if_false, ite_true, ite_false, reduceIte, Nat.lt_irrefl, Nat.le_refl, not_true, not_false_iff, true_and, and_true, false_and, and_false, and_self, Bool.false_eq_true, eq_self, Decidable.not_not]
        have f2 : FrC (fun a j => a = 117 ∨ (a = 121 ∧ j = 0)) m1 (pI (pI (pI m1 117 p (kI (lot k))) 117 k (kI (lot p))) 121 0 (kI (swL lot p k 0))) := ((FrC.put (C := fun a j => a = 117 ∨ (a = 121 ∧ j = 0)) FrC.refl (Or.inl rfl)).put (Or.inl rfl)).put (Or.inr ⟨rfl, rfl⟩)
        have hsw0 := s2 0 (by omega)
        have hRR2 : RR (pI (pI (pI m1 117 p (kI (lot k))) 117 k (kI (lot p))) 121 0 (kI (swL lot p k 0))) 0 P (swL lot p k) e := by
          refine ⟨g0, fun j hj => ?_, fun j hj => ?_, ?_, ?_, ?_, ?_, fun z => absurd z (by omega), fun j hj => ?_⟩
          · rw [f2.1 118 _ (by omega)]; exact g1 j hj
          · rw [f2.1 119 _ (by omega)]; exact g2 j hj
          · rw [f2.1 120 _ (by omega)]; exact g3
          · have : cu P (swL lot p k) e = some (swL lot p k 0) := by
              unfold cu
              rw [z1, h0]
              show (if 0 < pN P then some (swL lot p k 0) else none) = _
              rw [if_pos (by omega)]
            rw [this, kO_some]
            simp [gI_pI]
          · rw [f2.1 122 _ (by omega)]; exact g5
          · rw [f2.1 123 _ (by omega)]; exact g6
          · rw [gI_pI, if_neg (by omega)]; exact s2 j hj
        have hled2 : Led (pI (pI (pI m1 117 p (kI (lot k))) 117 k (kI (lot p))) 121 0 (kI (swL lot p k 0))) e := hled1
        have hD2 : IDeed (pI (pI (pI m1 117 p (kI (lot k))) 117 k (kI (lot p))) 121 0 (kI (swL lot p k 0))) P (swL lot p k) e := IDeed.step2 hRC1 hL1 hRR2 hled2 (f2.mono fun a j q => by unfold CX9; omega) (by rw [f2.1 113 16 (by omega), f1.1 113 16 (by omega)]; exact hD.2.2.2.2.2.2.2.1) (swL_ok hD.2.2.1 hp hk) (wf_0 hw h0 z1) hD.2.2.2.2.1
        have f : FrC CD μ (pI (pI (pI m1 117 p (kI (lot k))) 117 k (kI (lot p))) 121 0 (kI (swL lot p k 0))) := (f1.mono fun a j q => by unfold CD; omega).trans (f2.mono fun a j q => by unfold CD; omega)
        have e15' : gI m1 113 15 = kI (tot e) := by rw [f1.1 113 15 (by omega)]; exact e15
        have q1 := s1 p (by omega)
        have q2 := s2 p hp
        refine ⟨kI (swL lot p k p), m1, _, ?_, ?_, Inv.join (hR.fr f (fun _ _ q => q)) hD2⟩
        · unfold F_X8_swap
          rw [bnd_eq i1]
          simp (disch := omega) only [d1, d2, hpk, hbeg, c1, q1, Nat.one_ne_zero, iI_lit, kI_add, kI_mul, kI_eq, kI_lt, kI_le, kI_neg1, neg1_kI, neg1_lt0, neg1_0le, kO_none, kO_some, nm_eq, bnd_some, rz_0, rz_1, zb_0, zb_1, rd_kI, wrI_kI, wrL_kI, dvI_kI, rmI_kI, if_true, if_false, ite_true, ite_false, reduceIte, Nat.lt_irrefl, Nat.le_refl, not_true, not_false_iff, true_and, and_true, false_and, and_false, and_self, Bool.false_eq_true, eq_self, Decidable.not_not]
        · unfold F_X9_swap
          rw [bnd_eq (i2 _ hPR1)]
          have q3 : gI (pI (pI (pI m1 117 p (kI (lot k))) 117 k (kI (lot p))) 121 0 (kI (swL lot p k 0))) 117 p = kI (swL lot p k p) := by rw [gI_pI, if_neg (by omega)]; exact q2
          simp (disch := omega) only [d1, d2, hpk, e15', c2, hsw0, q3, show tot e ≤ 0 by omega, Nat.one_ne_zero, iI_lit, kI_add, kI_mul, kI_eq, kI_lt, kI_le, kI_neg1, neg1_kI, neg1_lt0, neg1_0le, kO_none, kO_some, nm_eq, bnd_some, rz_0, rz_1, zb_0, zb_1, rd_kI, wrI_kI, wrL_kI, dvI_kI, rmI_kI, if_true, if_false, ite_true, ite_false, reduceIte, Nat.lt_irrefl, Nat.le_refl, not_true, not_false_iff, true_and, and_true, false_and, and_false, and_self, Bool.false_eq_true, eq_self, Decidable.not_not]
      · rw [if_pos (by omega)] at hbeg
        refine Good.bad (v := iI (-5)) hI ?_ ?_
        · unfold F_X8_swap
          rw [bnd_eq i1]
          simp (disch := omega) only [d1, d2, hpk, hbeg, Nat.one_ne_zero, iI_lit, kI_add, kI_mul, kI_eq, kI_lt, kI_le, kI_neg1, neg1_kI, neg1_lt0, neg1_0le, kO_none, kO_some, nm_eq, bnd_some, rz_0, rz_1, zb_0, zb_1, rd_kI, wrI_kI, wrL_kI, dvI_kI, rmI_kI, if_true, if_false, ite_true, ite_false, reduceIte, Nat.lt_irrefl, Nat.le_refl, not_true, not_false_iff, true_and, and_true, false_and, and_false, and_self, Bool.false_eq_true, eq_self, Decidable.not_not]
        · unfold F_X9_swap
          rw [bnd_eq (i2 _ hR.2.1)]
          simp (disch := omega) only [d1, d2, hpk, e15, show ¬ tot e ≤ 0 by omega, Nat.one_ne_zero, iI_lit, kI_add, kI_mul, kI_eq, kI_lt, kI_le, kI_neg1, neg1_kI, neg1_lt0, neg1_0le, kO_none, kO_some, nm_eq, bnd_some, rz_0, rz_1, zb_0, zb_1, rd_kI, wrI_kI, wrL_kI, dvI_kI, rmI_kI, if_true, if_false, ite_true, ite_false, reduceIte, Nat.lt_irrefl, Nat.le_refl, not_true, not_false_iff, true_and, and_true, false_and, and_false, and_self, Bool.false_eq_true, eq_self, Decidable.not_not]
  · refine Good.bad (v := iI (-1)) hI ?_ ?_
    · unfold F_X8_swap
      rw [bnd_eq (isPair_no hR.1 hx)]
      rfl
    · unfold F_X9_swap
      rw [bnd_eq (areBoth_no hR.2.1 hx)]
      rfl
/-- one comes -/
def addP (P : Pa) (w : Nat) : Pa := (pN P + 1, pW P, pK P, up (pY P) (pN P) w, pM P, pA P, pF P)
def addL (P : Pa) (lot : Nat → Nat) : Nat → Nat := up lot (pN P) (pN P)
theorem addP_ok {P : Pa} {w : Nat} (h : PaOk P) (hn : pN P < 7) (hw : w ≤ 2) : PaOk (addP P w) := by
  obtain ⟨h1, h2, h3, h4, h5⟩ := h
  refine ⟨by show pN P + 1 ≤ 7; omega, h2, h3, fun p => ?_, h5⟩
  show up (pY P) (pN P) w p ≤ 2
  by_cases z : p = pN P
  · rw [z, up_at]; exact hw
  · rw [up_ne z]; exact h4 p
theorem welcome_eq {μ : Mm} {P : Pa} {lot : Nat → Nat} {e : Ev} {w : Nat} (hP : PC μ P) (h : RC μ 23 e) (hL : LotC μ 23 lot) (hn : pN P < 7) (hw : w ≤ 2) : ∃ μ1, F_X8_welcome (kI w) μ = some (kI (pN P), μ1) ∧ PC μ1 (addP P w) ∧ RC μ1 23 e ∧ LotC μ1 23 (addL P lot) ∧ FrC (fun a _ => a = 2 ∨ a = 5 ∨ a = 24) μ μ1 := by
  have f : FrC (fun a _ => a = 2 ∨ a = 5 ∨ a = 24) μ (pI (pI (pI μ 5 (pN P) (kI w)) 24 (pN P) (kI (pN P))) 2 0 (kI (pN P + 1))) := ((FrC.put (C := fun a _ => a = 2 ∨ a = 5 ∨ a = 24) FrC.refl (by omega)).put (by omega)).put (by omega)
  have hP' := hP
  obtain ⟨⟨h1, h2, h3, h4, h5, h6⟩, hl, ho⟩ := hP
  refine ⟨_, ?_, ⟨⟨?_, fun p k hp hk => ?_, fun p k hp hk => ?_, fun p hp => ?_, ?_, ?_⟩, ?_, addP_ok ho hn hw⟩, h.frS f (fun a j q => by unfold SE; omega), ⟨fun j hj => ?_, fun j hj => ?_⟩, f⟩
  · unfold F_X8_welcome
    simp (disch := omega) only [h1, hn, iI_lit, kI_add, kI_mul, kI_eq, kI_lt, kI_le, kI_neg1, neg1_kI, neg1_lt0, neg1_0le, kO_none, kO_some, nm_eq, bnd_some, rz_0, rz_1, zb_0, zb_1, rd_kI, wrI_kI, wrL_kI, dvI_kI, rmI_kI, if_true, if_false, ite_true, ite_false, reduceIte, Nat.lt_irrefl, Nat.le_refl, not_true, not_false_iff, true_and, and_true, false_and, and_false, and_self, Bool.false_eq_true, eq_self, Decidable.not_not]
  · show _ = kI (pN P + 1)
    simp [gI_pI]
  · rw [f.1 3 _ (by omega)]; exact h2 p k hp hk
  · rw [f.1 4 _ (by omega)]; exact h3 p k hp hk
  · show _ = kI (up (pY P) (pN P) w p)
    by_cases z : p = pN P
    · simp [gI_pI, z, up_at]
    · simp [gI_pI, z, up_ne z, h4 p hp]
  · show _ = kI (pM P)
    simp [gI_pI, h5]
  · show _ = kI (pA P)
    simp [gI_pI, h6]
  · obtain ⟨lp, l1, l2, l3⟩ := hl
    refine ⟨lp, l1, l2, fun μ' q => l3 μ' (fun a ha j => ?_)⟩
    rw [q a ha j, f.1 a j (by omega)]
  · show _ = kI (up lot (pN P) (pN P) j)
    by_cases z : j = pN P
    · simp [gI_pI, z, up_at]
    · simp [gI_pI, z, up_ne z, hL.1 j hj]
  · show up lot (pN P) (pN P) j < 4294967296
    by_cases z : j = pN P
    · rw [z, up_at]; omega
    · rw [up_ne z]; exact hL.2 j hj
def CAdd (a j : Nat) : Prop := (a = 113 ∧ j = 1) ∨ a = 116 ∨ a = 117 ∨ CX9 0 a j
theorem addPerson_eq {μ : Mm} {P : Pa} {lot : Nat → Nat} {e : Ev} {w : Nat} (hP : PR μ P) (h : RR μ 0 P lot e) (hn : pN P < 7) (hw : w ≤ 2) (hT : ∀ k, eP e ≤ k → eO e k = none ∧ eT e k = 0) (h0 : eP e = 0) (hR : eR e = none) (hJ : eJ e = none) : Wp (F_X9_addPerson (kI w) μ) fun r μ' => r = kI (pN P) ∧ PR μ' (addP P w) ∧ RR μ' 0 (addP P w) (addL P lot) e ∧ FrC CAdd μ μ' := by
  have hP' := hP
  have f : FrC CAdd μ (pI (pI (pI μ 116 (pN P) (kI w)) 117 (pN P) (kI (pN P))) 113 1 (kI (pN P + 1))) := ((FrC.refl.put (Or.inr (Or.inl rfl))).put (Or.inr (Or.inr (Or.inl rfl)))).put (Or.inl ⟨rfl, rfl⟩)
  have h8 := h.2.2.2.2.2.2.2.2
  obtain ⟨⟨h1, h2, h3, h4, h5, h6⟩, hl, ho⟩ := hP
  have hP3 : PR (pI (pI (pI μ 116 (pN P) (kI w)) 117 (pN P) (kI (pN P))) 113 1 (kI (pN P + 1))) (addP P w) := by
    refine ⟨⟨?_, fun p k hp hk => ?_, fun p k hp hk => ?_, fun p hp => ?_, ?_, ?_⟩, ?_, addP_ok ho hn hw⟩
    · show _ = kI (pN P + 1)
      simp [gI_pI]
    · rw [f.1 114 _ (by unfold CAdd CX9; omega)]; exact h2 p k hp hk
    · rw [f.1 115 _ (by unfold CAdd CX9; omega)]; exact h3 p k hp hk
    · show _ = kI (up (pY P) (pN P) w p)
      by_cases z : p = pN P
      · simp [gI_pI, z, up_at]
      · simp [gI_pI, z, up_ne z, h4 p hp]
    · show _ = kI (pM P)
      simp [gI_pI, h5]
    · show _ = kI (pA P)
      simp [gI_pI, h6]
    · rcases hl with ⟨l1, l2⟩ | ⟨l1, l2⟩
      · exact Or.inl ⟨by rw [f.1 113 39 (by unfold CAdd CX9; omega)]; exact l1, l2⟩
      · refine Or.inr ⟨by rw [f.1 113 39 (by unfold CAdd CX9; omega)]; exact l1, fun μ' q => l2 μ' (fun a j z => ?_)⟩
        rw [q a j z, f.1 a j (by unfold CAdd CX9; omega)]
  obtain ⟨_, m5, b1, b2, b3⟩ := beginAt_eq (x := 0) (lot := addL P lot) (by omega) hP3 (fun j hj => by
    show _ = kI (up lot (pN P) (pN P) j)
    by_cases z : j = pN P
    · simp [gI_pI, z, up_at]
    · have hj : j < pN P + 1 := hj
      simp [gI_pI, z, up_ne z, h8 j (by omega)]) (kI 0) (kI 0)
  refine ⟨kI (pN P), m5, ?_, rfl, hP3.cx b3, RR0_wr b2 hT h0 hR hJ, f.trans (b3.mono fun a j q => Or.inr (Or.inr (Or.inr q)))⟩
  have e1 : gI m5 113 1 = kI (pN P + 1) := (hP3.cx b3).n
  unfold F_X9_addPerson
  simp (disch := omega) only [h1, gI_pI, show ¬ (113 : Nat) = 116 by omega, show ¬ (113 : Nat) = 117 by omega, iI_lit, kI_add, kI_mul, kI_eq, kI_lt, kI_le, kI_neg1, neg1_kI, neg1_lt0, neg1_0le, kO_none, kO_some, nm_eq, bnd_some, rz_0, rz_1, zb_0, zb_1, rd_kI, wrI_kI, wrL_kI, dvI_kI, rmI_kI, if_true, if_false, ite_true, ite_false, reduceIte, Nat.lt_irrefl, Nat.le_refl, not_true, not_false_iff, true_and, and_true, false_and, and_false, and_self, Bool.false_eq_true, eq_self, Decidable.not_not]
  rw [bnd_eq b1, e1, kI_sub (by omega)]
  rfl
theorem addL_ok {P : Pa} {lot : Nat → Nat} {w : Nat} (h : LotOk (pN P) P lot) : LotOk (pN (addP P w)) (addP P w) (addL P lot) := by
  obtain ⟨h1, h2, h3⟩ := h
  refine ⟨Nat.le_refl _, fun i j hi hj q => ?_, fun i hi => ?_⟩
  · have hi : i < pN P + 1 := hi
    have hj : j < pN P + 1 := hj
    change up lot (pN P) (pN P) i = up lot (pN P) (pN P) j at q
    by_cases z : i = pN P
    · by_cases y : j = pN P
      · omega
      · rw [z, up_at, up_ne y] at q
        have := h3 j (by omega)
        omega
    · by_cases y : j = pN P
      · rw [y, up_at, up_ne z] at q
        have := h3 i (by omega)
        omega
      · rw [up_ne z, up_ne y] at q
        exact h2 i j (by omega) (by omega) q
  · have hi : i < pN P + 1 := hi
    show up lot (pN P) (pN P) i < pN P + 1
    by_cases z : i = pN P
    · rw [z, up_at]; omega
    · rw [up_ne z]; have := h3 i (by omega); omega
theorem Kn.mono {n w a b : Nat} (h : Kn n w a b) : Kn (n + 1) w a b := by
  rcases h with ⟨h1, p, k, h2, h3, h4⟩ | ⟨h1, p, k, h2, h3, h4⟩ | ⟨h1, h2⟩ | h | h
  · exact Or.inl ⟨h1, p, k, by omega, by omega, h4⟩
  · exact Or.inr (Or.inl ⟨h1, p, k, by omega, by omega, h4⟩)
  · exact Or.inr (Or.inr (Or.inl ⟨h1, by omega, h2.2⟩))
  · exact Or.inr (Or.inr (Or.inr (Or.inl h)))
  · exact Or.inr (Or.inr (Or.inr (Or.inr h)))
theorem IChg.mono {μ : Mm} {n : Nat} (h : IChg μ n) : IChg μ (n + 1) := by
  obtain ⟨d, a, E, h1, h2, h3, h4, h5⟩ := h
  exact ⟨d, a, E, h1, h2, h3, h4, fun i hi => ⟨(h5 i hi).1.mono, (h5 i hi).2⟩⟩
/-- neither party nor deed -/
def Oth (μ : Mm) (n : Nat) : Prop := IChg μ n ∧ ITape μ ∧ ILaw μ ∧ IImg μ ∧ IBod μ ∧ IShe μ
theorem Oth.fr {C : Nat → Nat → Prop} {μ μ1 : Mm} {n : Nat} (h : Oth μ n) (hf : FrC C μ μ1) (hs : ∀ a j, C a j → CD a j ∨ a = 2 ∨ a = 5 ∨ a = 3 ∨ a = 4 ∨ CP a j) : Oth μ1 n := by
  obtain ⟨h4, h5, h6, h7, h8, h9⟩ := h
  refine ⟨h4.fr hf (fun a j z q => ?_), h5.fr hf (fun a j z q => ?_), h6.fr hf, h7.fr hf (fun a j z q => ?_), h8.fr hf (fun a j z q => ?_), h9.fr hf (fun a j z q => ?_)⟩
  all_goals (have z := hs a j z; unfold CD SL CP at z)
  · unfold CChg at q; omega
  · unfold CTape at q; omega
  · unfold CImg at q; omega
  · unfold CBod at q; omega
  · unfold CShe at q; omega
theorem Rest.oth {μ : Mm} {P : Pa} (h : Rest μ P) : Oth μ (pN P) := h.2.2
theorem Led.fr {C : Nat → Nat → Prop} {μ μ1 : Mm} {e : Ev} (h : Led μ e) (hf : FrC C μ μ1) (hs : ∀ a j, C a j → ¬ (a = 113 ∧ (j = 15 ∨ j = 17 ∨ j = 18 ∨ j = 19))) : Led μ1 e := by
  unfold Led at h ⊢
  rw [hf.1 113 15 (fun z => hs _ _ z (by omega)), hf.1 113 17 (fun z => hs _ _ z (by omega)), hf.1 113 18 (fun z => hs _ _ z (by omega)), hf.1 113 19 (fun z => hs _ _ z (by omega))]
  exact h
theorem g_person (x : Int32) : Good (F_X8_person x) (F_X9_person x) := by
  intro μ hI
  obtain ⟨P, lot, e, hR, hD⟩ := hI.split
  have hn := hR.1.n7
  have hw := hD.2.2.2.1
  have hb := hw.1
  have hbeg := hasBegun_eq hD.1 hb
  have e15 := hD.2.2.2.2.2.2.1
  have t0 := tot_0 hw
  have t28 := tot_le hw
  rcases per_cases 3 x with ⟨w, w3, rfl⟩ | hx
  · have hin := fun m => in_yes (μ := m) (k := w) (a := 0) (b := 2) (by omega) (by omega) (by omega)
    by_cases h0 : eP e = 0
    · rw [if_neg (by omega)] at hbeg
      obtain ⟨z1, z2, z3⟩ := hD.2.2.2.2.1 h0
      by_cases n7 : pN P < 7
      · obtain ⟨m1, a1, a2, a3, a4, a5⟩ := welcome_eq (w := w) hR.1 hD.1 hD.2.1 n7 (by omega)
        have hPR1 : PR m1 P := hR.2.1.fr a5 (fun a j q z => by unfold CP at z; omega)
        have hRR1 := hD.2.2.2.2.2.1.fr hn a5 (fun a j q => by omega)
        obtain ⟨r, m2, b1, rfl, b3, b4, b5⟩ := addPerson_eq (w := w) hPR1 hRR1 n7 (by omega) hw.2.2.2.1 h0 z1 z2
        have hD2 : IDeed m2 (addP P w) (addL P lot) e := IDeed.step2 a3 a4 b4 ((hD.led.fr a5 (fun a j q => by omega)).fr b5 (fun a j q => by unfold CAdd CX9 at q; omega)) (b5.mono fun a j q => by unfold CAdd CX9 at q; unfold CX9; omega) (by rw [b5.1 113 16 (by unfold CAdd CX9; omega), a5.1 113 16 (by omega)]; exact hD.2.2.2.2.2.2.2.1) (addL_ok hD.2.2.1) (wf_0 hw h0 z1) hD.2.2.2.2.1
        have hO := (hR.oth.fr a5 (fun a j q => by unfold CD; omega)).fr b5 (fun a j q => by unfold CAdd CX9 at q; unfold CD CP SL; omega)
        have hPC2 : PC m2 (addP P w) := a2.frC b5 (fun a j q => by unfold CAdd CX9 at q; unfold CPc; omega)
        have e15' : gI m1 113 15 = kI (tot e) := by rw [a5.1 113 15 (by omega)]; exact e15
        have en1 := hPR1.n
        refine ⟨kI (pN P), m1, m2, ?_, ?_, Inv.join (P := addP P w) ⟨hPC2, b3, hO.1.mono, hO.2⟩ hD2⟩
        · unfold F_X8_person
          simp (disch := omega) only [Nat.not_lt_zero, show w ≤ 2 by omega, hbeg, hR.1.n, n7, a1, iI_lit, kI_add, kI_mul, kI_eq, kI_lt, kI_le, kI_neg1, neg1_kI, neg1_lt0, neg1_0le, kO_none, kO_some, nm_eq, bnd_some, rz_0, rz_1, zb_0, zb_1, rd_kI, wrI_kI, wrL_kI, dvI_kI, rmI_kI, if_true, if_false, ite_true, ite_false, reduceIte, Nat.lt_irrefl, Nat.le_refl, not_true, not_false_iff, true_and, and_true, false_and, and_false, and_self, Bool.false_eq_true, eq_self, Decidable.not_not]
        · unfold F_X9_person
          simp (disch := omega) only [hin, e15', show tot e ≤ 0 by omega, en1, show ¬ pN P = 7 by omega, b1, Nat.one_ne_zero, iI_lit, kI_add, kI_mul, kI_eq, kI_lt, kI_le, kI_neg1, neg1_kI, neg1_lt0, neg1_0le, kO_none, kO_some, nm_eq, bnd_some, rz_0, rz_1, zb_0, zb_1, rd_kI, wrI_kI, wrL_kI, dvI_kI, rmI_kI, if_true, if_false, ite_true, ite_false, reduceIte, Nat.lt_irrefl, Nat.le_refl, not_true, not_false_iff, true_and, and_true, false_and, and_false, and_self, Bool.false_eq_true, eq_self, Decidable.not_not]
      · refine Good.bad (v := iI (-3)) hI ?_ ?_
        · unfold F_X8_person
          simp (disch := omega) only [Nat.not_lt_zero, show w ≤ 2 by omega, hbeg, hR.1.n, n7, iI_lit, kI_add, kI_mul, kI_eq, kI_lt, kI_le, kI_neg1, neg1_kI, neg1_lt0, neg1_0le, kO_none, kO_some, nm_eq, bnd_some, rz_0, rz_1, zb_0, zb_1, rd_kI, wrI_kI, wrL_kI, dvI_kI, rmI_kI, if_true, if_false, ite_true, ite_false, reduceIte, Nat.lt_irrefl, Nat.le_refl, not_true, not_false_iff, true_and, and_true, false_and, and_false, and_self, Bool.false_eq_true, eq_self, Decidable.not_not]
        · unfold F_X9_person
          simp (disch := omega) only [hin, e15, show tot e ≤ 0 by omega, hR.2.1.n, show pN P = 7 by omega, Nat.one_ne_zero, iI_lit, kI_add, kI_mul, kI_eq, kI_lt, kI_le, kI_neg1, neg1_kI, neg1_lt0, neg1_0le, kO_none, kO_some, nm_eq, bnd_some, rz_0, rz_1, zb_0, zb_1, rd_kI, wrI_kI, wrL_kI, dvI_kI, rmI_kI, if_true, if_false, ite_true, ite_false, reduceIte, Nat.lt_irrefl, Nat.le_refl, not_true, not_false_iff, true_and, and_true, false_and, and_false, and_self, Bool.false_eq_true, eq_self, Decidable.not_not]
    · rw [if_pos (by omega)] at hbeg
      refine Good.bad (v := iI (-5)) hI ?_ ?_
      · unfold F_X8_person
        simp (disch := omega) only [Nat.not_lt_zero, show w ≤ 2 by omega, hbeg, Nat.one_ne_zero, iI_lit, kI_add, kI_mul, kI_eq, kI_lt, kI_le, kI_neg1, neg1_kI, neg1_lt0, neg1_0le, kO_none, kO_some, nm_eq, bnd_some, rz_0, rz_1, zb_0, zb_1, rd_kI, wrI_kI, wrL_kI, dvI_kI, rmI_kI, if_true, if_false, ite_true, ite_false, reduceIte, Nat.lt_irrefl, Nat.le_refl, not_true, not_false_iff, true_and, and_true, false_and, and_false, and_self, Bool.false_eq_true, eq_self, Decidable.not_not]
      · unfold F_X9_person
        simp (disch := omega) only [hin, e15, show ¬ tot e ≤ 0 by omega, Nat.one_ne_zero, iI_lit, kI_add, kI_mul, kI_eq, kI_lt, kI_le, kI_neg1, neg1_kI, neg1_lt0, neg1_0le, kO_none, kO_some, nm_eq, bnd_some, rz_0, rz_1, zb_0, zb_1, rd_kI, wrI_kI, wrL_kI, dvI_kI, rmI_kI, if_true, if_false, ite_true, ite_false, reduceIte, Nat.lt_irrefl, Nat.le_refl, not_true, not_false_iff, true_and, and_true, false_and, and_false, and_self, Bool.false_eq_true, eq_self, Decidable.not_not]
  · have hin := in_no (μ := μ) (x := x) (a := 0) (b := 2) (by omega) (by omega) (fun k _ h => hx k (by omega))
    refine Good.bad (v := iI (-1)) hI ?_ ?_
    · unfold F_X8_person
      rcases i32_cases x with q | ⟨k, k1, rfl⟩
      · simp (disch := omega) only [iI_lit, neg_lt q, iI_lit, kI_add, kI_mul, kI_eq, kI_lt, kI_le, kI_neg1, neg1_kI, neg1_lt0, neg1_0le, kO_none, kO_some, nm_eq, bnd_some, rz_0, rz_1, zb_0, zb_1, rd_kI, wrI_kI, wrL_kI, dvI_kI, rmI_kI, if_true, if_false, ite_true, ite_false, reduceIte, Nat.lt_irrefl, Nat.le_refl, not_true, not_false_iff, true_and, and_true, false_and, and_false, and_self, Bool.false_eq_true, eq_self, Decidable.not_not]
      · have : 2 < k := by
          rcases Nat.lt_or_ge 2 k with y | y
          · exact y
          · exact absurd rfl (hx k (by omega))
        simp (disch := omega) only [Nat.not_lt_zero, show ¬ k ≤ 2 by omega, iI_lit, kI_add, kI_mul, kI_eq, kI_lt, kI_le, kI_neg1, neg1_kI, neg1_lt0, neg1_0le, kO_none, kO_some, nm_eq, bnd_some, rz_0, rz_1, zb_0, zb_1, rd_kI, wrI_kI, wrL_kI, dvI_kI, rmI_kI, if_true, if_false, ite_true, ite_false, reduceIte, Nat.lt_irrefl, Nat.le_refl, not_true, not_false_iff, true_and, and_true, false_and, and_false, and_self, Bool.false_eq_true, eq_self, Decidable.not_not]
    · unfold F_X9_person
      simp (disch := omega) only [hin, iI_lit, kI_add, kI_mul, kI_eq, kI_lt, kI_le, kI_neg1, neg1_kI, neg1_lt0, neg1_0le, kO_none, kO_some, nm_eq, bnd_some, rz_0, rz_1, zb_0, zb_1, rd_kI, wrI_kI, wrL_kI, dvI_kI, rmI_kI, if_true, if_false, ite_true, ite_false, reduceIte, Nat.lt_irrefl, Nat.le_refl, not_true, not_false_iff, true_and, and_true, false_and, and_false, and_self, Bool.false_eq_true, eq_self, Decidable.not_not]
