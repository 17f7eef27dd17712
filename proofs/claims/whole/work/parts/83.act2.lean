/-! ACT OF BOTH -/
def CAct (a j : Nat) : Prop := (a = 100 ∧ (j = 3 ∨ j = 4)) ∨ a = 102 ∨ (a = 113 ∧ j = 58) ∨ a = 152
theorem Inv.act {μ μ1 : Mm} (h : Inv μ) (hf : FrC CAct μ μ1) (hb : IBod μ1) : Inv μ1 := by
  obtain ⟨P, lot, e, h1, h2, h3, h4, h5, h6, h7, h8, h9⟩ := h
  refine ⟨P, lot, e, h1.frC hf (fun a j z q => ?_), h2.fr hf (fun a j z q => ?_), h3.fr h1.n7 hf (fun a j z q => ?_), h4.fr hf (fun a j z q => ?_), h5.fr hf (fun a j z q => ?_), h6.fr hf, h7.fr hf (fun a j z q => ?_), hb, h9.fr hf (fun a j z q => ?_)⟩
  all_goals (unfold CAct at z)
  · unfold CPc at q; omega
  · unfold CP at q; omega
  · unfold CDeed at q; omega
  · unfold CChg at q; omega
  · unfold CTape at q; omega
  · unfold CImg at q; omega
  · unfold CShe at q; omega
/-- both have begun anew -/
theorem act_0 {μ : Mm} (hI : Inv μ) : Inv (pI (pI μ 100 3 (iI 0)) 113 58 (iI 0)) := by
  obtain ⟨b, r, b1, b2, b3, b4, b5, b6, b7, b8⟩ := hI.bod
  have f : FrC CAct μ (pI (pI μ 100 3 (iI 0)) 113 58 (iI 0)) := (FrC.put (C := CAct) FrC.refl (Or.inl ⟨rfl, Or.inl rfl⟩)).put (Or.inr (Or.inr (Or.inl ⟨rfl, rfl⟩)))
  refine hI.act f ⟨b, 0, b1, by omega, ?_, ?_, ?_, ?_, fun i hi => ?_, fun i hi => absurd hi (by omega)⟩
  · rw [f.1 100 1 (by unfold CAct; omega)]; exact b3
  · rw [f.1 113 56 (by unfold CAct; omega)]; exact b4
  · rw [gI_pI, if_neg (by omega), gI_pI, if_pos ⟨rfl, rfl⟩]; rfl
  · rw [gI_pI, if_pos ⟨rfl, rfl⟩]; rfl
  · rw [f.1 101 i (by unfold CAct; omega), f.1 151 i (by unfold CAct; omega)]; exact b7 i hi
theorem g_act (x y z : Int32) : Good (F_X8_act x y z) (F_X9_act x y z) := by
  intro μ hI
  obtain ⟨b, r, b1, b2, b3, b4, b5, b6, b7, b8⟩ := hI.bod
  have f1 : FrC CAct μ (pI μ 100 3 (iI 0)) := FrC.refl.put (Or.inl ⟨rfl, Or.inl rfl⟩)
  have c1 : gI (pI μ 100 3 (iI 0)) 100 1 = kI b := by rw [f1.1 100 1 (by unfold CAct; omega)]; exact b3
  have d1 : gI (pI (pI μ 100 3 (iI 0)) 113 58 (iI 0)) 113 56 = kI b := by rw [gI_pI, if_neg (by omega), f1.1 113 56 (by unfold CAct; omega)]; exact b4
  rcases per_cases b x with ⟨s, hs, rfl⟩ | hx
  · obtain ⟨kd, hk, k1, k2⟩ := b7 s hs
    by_cases hy : ∃ a, a < 4 ∧ y = kI a
    · obtain ⟨a, ha, rfl⟩ := hy
      obtain ⟨v, l, e1, e2⟩ := acts_same (kI s) z hk ha
      have f2 : FrC CAct μ (pI (pI μ 100 3 (iI 0)) 100 4 (kI s)) := f1.put (Or.inl ⟨rfl, Or.inr rfl⟩)
      have hT : T8 s b kd (pI (pI μ 100 3 (iI 0)) 100 4 (kI s)) (pI (pI μ 100 3 (iI 0)) 100 4 (kI s)) [] := by
        refine ⟨FrC.refl, ?_, by show 0 ≤ 24; omega, fun i hi => absurd hi (Nat.not_lt_zero i), ?_, ?_, ?_⟩
        · rw [gI_pI, if_neg (by omega), gI_pI, if_pos ⟨rfl, rfl⟩]; rfl
        · rw [gI_pI, if_pos ⟨rfl, rfl⟩]
        · rw [f2.1 100 1 (by unfold CAct; omega)]; exact b3
        · rw [f2.1 101 s (by unfold CAct; omega)]; exact k1
      obtain ⟨m2, g1, g2⟩ := act8 hs b1 hk ha _ v l hT e1
      have f3 : FrC CAct μ m2 := f2.trans (g2.1.mono fun a j q => by unfold CAct; omega)
      have f4 : FrC CAct μ (pI m2 113 58 (iI 0)) := f3.put (Or.inr (Or.inr (Or.inl ⟨rfl, rfl⟩)))
      have hT9 : T9 s kd (pI m2 113 58 (iI 0)) (pI m2 113 58 (iI 0)) [] := by
        refine ⟨FrC.refl, ?_, by show 0 ≤ 24; omega, fun i hi => absurd hi (Nat.not_lt_zero i), ?_⟩
        · rw [gI_pI, if_pos ⟨rfl, rfl⟩]; rfl
        · rw [f4.1 151 s (by unfold CAct; omega)]; exact k2
      have hs50 : s < 50 := by omega
      have ib := isBody_yes (μ := pI m2 113 58 (iI 0)) b1 (by rw [f4.1 113 56 (by unfold CAct; omega)]; exact b4) hs
      have hin : F_X9_in (kI a) (iI 0) (iI 3) (pI m2 113 58 (iI 0)) = some (kI 1, pI m2 113 58 (iI 0)) := in_yes (a := 0) (b := 3) (by omega) (by omega) (by omega)
      obtain ⟨m4, i1, i2⟩ : ∃ m4, F_X9_act (kI s) (kI a) z m2 = some (v, m4) ∧ T9 s kd (pI m2 113 58 (iI 0)) m4 l := by
        have st : F_X9_act (kI s) (kI a) z m2 = if a = 0 then F_X9_opening (kI s) z (pI m2 113 58 (iI 0)) else if a = 1 then F_X9_taking (kI s) z (pI m2 113 58 (iI 0)) else if a = 2 then F_X9_looking (kI s) z (pI m2 113 58 (iI 0)) else F_X9_keeping (kI s) z (pI m2 113 58 (iI 0)) := by
          unfold F_X9_act
          rw [nm_eq, bnd_eq ib, if_neg k1_ne0, bnd_eq hin, if_neg k1_ne0, bnd_id, bnd_id, bnd_id, bnd_id]
          by_cases a0 : a = 0
          · rw [if_pos a0, if_pos (by rw [iI_lit, kI_eq (by omega) (by omega)]; exact a0)]
          · rw [if_neg a0, if_neg (by rw [iI_lit, kI_eq (by omega) (by omega)]; exact a0)]
            by_cases a1 : a = 1
            · rw [if_pos a1, if_pos (by rw [iI_lit, kI_eq (by omega) (by omega)]; exact a1)]
            · rw [if_neg a1, if_neg (by rw [iI_lit, kI_eq (by omega) (by omega)]; exact a1)]
              by_cases a2 : a = 2
              · rw [if_pos a2, if_pos (by rw [iI_lit, kI_eq (by omega) (by omega)]; exact a2)]
              · rw [if_neg a2, if_neg (by rw [iI_lit, kI_eq (by omega) (by omega)]; exact a2)]
        rw [st]
        unfold qA at e2
        by_cases a0 : a = 0
        · rw [if_pos a0] at e2 ⊢
          exact rrO hs50 hk z [] _ v l hT9 e2
        · rw [if_neg a0] at e2 ⊢
          by_cases a1 : a = 1
          · rw [if_pos a1] at e2 ⊢
            exact rrT hs50 hk z [] _ v l hT9 e2
          · rw [if_neg a1] at e2 ⊢
            by_cases a2 : a = 2
            · rw [if_pos a2] at e2 ⊢
              exact rrL hs50 hk z [] _ v l hT9 e2
            · rw [if_neg a2] at e2 ⊢
              exact rrK hs50 hk z [] _ v l hT9 e2
      have f5 : FrC CAct μ m4 := f4.trans (i2.1.mono fun a j q => by unfold CAct; omega)
      have q0 : ∀ j, gI m4 100 j = gI m2 100 j := fun j => by rw [i2.1.1 100 j (by omega), gI_pI, if_neg (by omega)]
      have q2 : ∀ j, gI m4 102 j = gI m2 102 j := fun j => by rw [i2.1.1 102 j (by omega), gI_pI, if_neg (by omega)]
      have hl := i2.2.2.1
      refine ⟨v, m2, m4, ?_, i1, hI.act f5 ⟨b, l.length, b1, by omega, ?_, ?_, ?_, i2.2.1, fun i hi => ?_, fun i hi hj => ?_⟩⟩
      · unfold F_X8_act F_X0_perform
        rw [nm_eq, bnd_eq (isThere_yes b1 c1 hs), if_neg k1_ne0, if_neg (by rw [iI_lit, kI_lt (by omega) (by omega)]; omega), if_pos (by rw [iI_lit, kI_le (by omega) (by omega)]; omega), nm_eq, bnd_id, bnd_id]
        exact g1
      · rw [f5.1 100 1 (by unfold CAct; omega)]; exact b3
      · rw [f5.1 113 56 (by unfold CAct; omega)]; exact b4
      · rw [q0 3]; exact g2.2.1
      · rw [f5.1 101 i (by unfold CAct; omega), f5.1 151 i (by unfold CAct; omega)]; exact b7 i hi
      · rw [q2 i, g2.2.2.2.1 i hi, i2.2.2.2.1 i hi]
    · have hy' : ∀ a, a < 4 → y ≠ kI a := fun a h1 h2 => hy ⟨a, h1, h2⟩
      refine ⟨iI 0, pI μ 100 3 (iI 0), pI (pI μ 100 3 (iI 0)) 113 58 (iI 0), ?_, ?_, act_0 hI⟩
      · unfold F_X8_act F_X0_perform
        rw [nm_eq, bnd_eq (isThere_yes b1 c1 hs), if_neg k1_ne0, bnd_id]
        rcases i32_cases y with q | ⟨a, a1, rfl⟩
        · rw [if_pos (by rw [iI_lit, neg_lt q (by omega)]; trivial)]
        · rw [if_neg (by rw [iI_lit, kI_lt (by omega) (by omega)]; omega), if_neg (by
            rw [iI_lit, kI_le (by omega) (by omega)]
            intro q
            exact hy' a (by omega) rfl)]
      · unfold F_X9_act
        have hin : F_X9_in y (iI 0) (iI 3) (pI (pI μ 100 3 (iI 0)) 113 58 (iI 0)) = some (kI 0, pI (pI μ 100 3 (iI 0)) 113 58 (iI 0)) := in_no (a := 0) (b := 3) (by omega) (by omega) (fun k _ h => hy' k (by omega))
        rw [nm_eq, bnd_eq (isBody_yes b1 d1 hs), if_neg k1_ne0, bnd_eq hin, if_pos k0_eq0]
  · refine ⟨iI 0, pI μ 100 3 (iI 0), pI (pI μ 100 3 (iI 0)) 113 58 (iI 0), ?_, ?_, act_0 hI⟩
    · unfold F_X8_act F_X0_perform
      rw [nm_eq, bnd_eq (isThere_no b1 c1 hx), if_pos k0_eq0, bnd_some]
    · unfold F_X9_act
      rw [nm_eq, bnd_eq (isBody_no b1 d1 hx), if_pos k0_eq0]
