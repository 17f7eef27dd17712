/-! IN DEED, second -/
theorem IDeed.step2 {μ1 μ2 : Mm} {P' : Pa} {lot' : Nat → Nat} {e' : Ev} (a1 : RC μ1 23 e') (a2 : LotC μ1 23 lot') (b1 : RR μ2 0 P' lot' e') (b2 : Led μ2 e') (b3 : FrC (fun a j => a = 2 ∨ a = 116 ∨ a = 117 ∨ CX9 0 a j ∨ (a = 113 ∧ (j = 1 ∨ (15 ≤ j ∧ j ≤ 19)))) μ1 μ2) (b4 : gI μ2 113 16 = kI (eA e')) (hl : LotOk (pN P') P' lot') (hw : WfE (pN P') P' lot' e') (hz : Z0 e') : IDeed μ2 P' lot' e' :=
  ⟨a1.frC b3 (fun a j q => by unfold CX9 at q; omega), a2.frC b3 (fun a j q => by unfold CX9 at q; omega), hl, hw, hz, b1, b2.1, b4, b2.2.1, b2.2.2⟩
theorem wf_xc {P : Pa} {lot : Nat → Nat} {e : Ev} {k0 w : Nat} (hP : PaOk P) (hl : LotOk (pN P) P lot) (hw : WfE (pN P) P lot e) (h2 : eP e = pN P) (hk0 : eH e (lot 0) = some k0) (hk : k0 < pN P) (hwn : w < pN P) (hM : eT e w < pM P) : WfE (pN P) P lot (xcE (lot 0) k0 w (own0 e w) (setA e)) := by
  have hp : lot 0 < pN P := hl.2.2 0 (by omega)
  obtain ⟨q1, q2⟩ := own_of hw (show w < eP e by omega)
  obtain ⟨hb, h1, h2', h3, h4, h5, h6, h8⟩ := hw
  have hn := hP.1
  have hM3 := hP.2.2.2.2.2.1
  have ok0 : eO e k0 = some (lot 0) := (h4 _ _).mp hk0
  have hhq : eH e (own0 e w) = some w := (h4 _ _).mpr q1
  generalize own0 e w = q at q1 q2 hhq ⊢
  generalize hp0 : lot 0 = p at hp ok0 hk0 ⊢
  have cm : ∀ j, came e j ↔ came (xcE p k0 w q (setA e)) j := fun j => Iff.rfl
  have inv : ∀ x y, up (up (eH e) q (some k0)) p (some w) x = some y ↔ up (up (eO e) k0 (some q)) w (some p) y = some x := by
    intro x y
    by_cases xp : x = p
    · rw [xp, up_at]
      by_cases yw : y = w
      · rw [yw, up_at]; simp
      · rw [up_ne yw]
        constructor
        · intro z; cases z; exact absurd rfl yw
        · intro z
          by_cases yk : y = k0
          · rw [yk, up_at] at z
            cases z
            rw [hhq] at hk0
            cases hk0
            exact absurd yk yw
          · rw [up_ne yk] at z
            have := (h4 p y).mpr z
            rw [hk0] at this
            cases this
            exact absurd rfl yk
    · rw [up_ne xp]
      by_cases xq : x = q
      · rw [xq, up_at]
        by_cases yw : y = w
        · rw [yw, up_at]
          constructor
          · intro z
            cases z
            rw [ok0] at q1
            cases q1
            exact absurd xq xp
          · intro z; cases z; exact absurd xq xp
        · rw [up_ne yw]
          by_cases yk : y = k0
          · rw [yk, up_at]; simp
          · rw [up_ne yk]
            constructor
            · intro z; cases z; exact absurd rfl yk
            · intro z
              have := (h4 q y).mpr z
              rw [hhq] at this
              cases this
              exact absurd rfl yw
      · rw [up_ne xq]
        by_cases yw : y = w
        · rw [yw, up_at]
          constructor
          · intro z
            have := (h4 x w).mp z
            rw [q1] at this
            cases this
            exact absurd rfl xq
          · intro z; cases z; exact absurd rfl xp
        · rw [up_ne yw]
          by_cases yk : y = k0
          · rw [yk, up_at]
            constructor
            · intro z
              have := (h4 x k0).mp z
              rw [ok0] at this
              cases this
              exact absurd rfl xp
            · intro z; cases z; exact absurd rfl xq
          · rw [up_ne yk]; exact h4 x y
  refine ⟨⟨hb.1, fun x => ?_, fun x y hy => ?_, fun x y hy => ?_, hb.2.2.2.2.1, hb.2.2.2.2.2.1, Nat.le_refl _⟩, h1, fun x hx => ?_, fun x hx => ?_, inv, fun x y hy => ?_, fun r hr => ?_, fun j hj hne => ?_⟩
  · show up (eT e) w (eT e w + 1) x ≤ 3
    by_cases z : x = w
    · rw [z, up_at]; omega
    · rw [up_ne z]; exact hb.2.1 x
  · change up (up (eO e) k0 (some q)) w (some p) x = some y at hy
    by_cases z : x = w
    · rw [z, up_at] at hy; cases hy; omega
    · rw [up_ne z] at hy
      by_cases z2 : x = k0
      · rw [z2, up_at] at hy; cases hy; omega
      · rw [up_ne z2] at hy; exact hb.2.2.1 x y hy
  · change up (up (eH e) q (some k0)) p (some w) x = some y at hy
    by_cases z : x = p
    · rw [z, up_at] at hy; cases hy; omega
    · rw [up_ne z] at hy
      by_cases z2 : x = q
      · rw [z2, up_at] at hy; cases hy; omega
      · rw [up_ne z2] at hy; exact hb.2.2.2.1 x y hy
  · show ∃ y, y < pN P ∧ up (up (eO e) k0 (some q)) w (some p) x = some y
    by_cases z : x = w
    · exact ⟨p, hp, by rw [z, up_at]⟩
    · rw [up_ne z]
      by_cases z2 : x = k0
      · exact ⟨q, q2, by rw [z2, up_at]⟩
      · rw [up_ne z2]; exact h2' x hx
  · change eP e ≤ x at hx
    show up (up (eO e) k0 (some q)) w (some p) x = none ∧ up (eT e) w (eT e w + 1) x = 0
    rw [up_ne (by omega), up_ne (by omega), up_ne (by omega)]
    exact h3 x hx
  · change up (up (eO e) k0 (some q)) w (some p) x = some y at hy
    by_cases z : x = w
    · rw [z, up_at] at hy; cases hy
      exact ⟨0, Or.inl (by show 0 < eP e; omega), hp0⟩
    · rw [up_ne z] at hy
      by_cases z2 : x = k0
      · rw [z2, up_at] at hy; cases hy
        exact h5 w _ q1
      · rw [up_ne z2] at hy; exact h5 x y hy
  · have hr : eR e = some r := hr
    have := (h6 r hr).1
    omega
  · show up (up (eH e) q (some k0)) p (some w) (lot j) ≠ none
    by_cases z : lot j = p
    · rw [z, up_at]; intro v; cases v
    · rw [up_ne z]
      by_cases z2 : lot j = q
      · rw [z2, up_at]; intro v; cases v
      · rw [up_ne z2]; exact h8 j hj hne
theorem wf_set {P : Pa} {m : Nat} {lot : Nat → Nat} {e : Ev} (h : WfE m P lot e) : WfE m P lot (setA e) :=
  ⟨⟨h.1.1, h.1.2.1, h.1.2.2.1, h.1.2.2.2.1, h.1.2.2.2.2.1, h.1.2.2.2.2.2.1, Nat.le_refl _⟩, h.2⟩
theorem agC_lt {P : Pa} {lot : Nat → Nat} {e : Ev} {w : Nat} (h : agC P lot e = some w) : w < eP e ∧ eT e w < pM P := by
  unfold agC at h
  rcases pick_in _ _ _ _ _ h with z | z
  · cases z
  · exact ⟨by omega, cA_iff.mp z.1⟩
theorem wf_ag {P : Pa} {lot : Nat → Nat} {e : Ev} (hP : PaOk P) (hl : LotOk (pN P) P lot) (hw : WfE (pN P) P lot e) (h1 : 0 < eP e) (h2 : eP e = pN P) : WfE (pN P) P lot (agE P lot e) := by
  have hR : eR e = none := by
    cases q : eR e with
    | none => rfl
    | some r => have := (hw.2.2.2.2.2.2.1 r q).1; omega
  obtain ⟨k0, hk0⟩ : ∃ k0, eH e (lot 0) = some k0 := by
    cases q : eH e (lot 0) with
    | none => exact absurd q (hw.2.2.2.2.2.2.2 0 (Or.inl h1) (by rw [hR]; intro z; cases z))
    | some k => exact ⟨k, rfl⟩
  have hk : k0 < pN P := by
    have := (hw.2.2.2.2.1 _ _).mp hk0
    by_cases z : k0 < eP e
    · omega
    · rw [(hw.2.2.2.1 k0 (by omega)).1] at this; cases this
  unfold agE
  cases hc : agC P lot e with
  | none => exact wf_set hw
  | some w =>
    obtain ⟨w1, w2⟩ := agC_lt hc
    show WfE (pN P) P lot (xcE (lot 0) ((eH e (lot 0)).getD 0) w (own0 e w) (setA e))
    rw [hk0]
    exact wf_xc hP hl hw h2 hk0 hk (by omega) w2
theorem wf_cl {P : Pa} {lot : Nat → Nat} {e : Ev} (hP : PaOk P) (hl : LotOk (pN P) P lot) (hw : WfE (pN P) P lot e) : WfE (pN P) P lot (clE P lot e) := by
  unfold clE
  split
  · next q => exact wf_ag hP hl hw q.2.1 (by have := hw.2.1; omega)
  · exact hw
theorem X9_again_go {m : Mm} {a w n : Nat} (h6 : gI m 113 6 = kI a) (ha : a ≠ 0) (ha2 : a < 100) (h16 : gI m 113 16 = kI w) (hw : w ≠ 1) (hw2 : w < 100) (hR : gI m 121 0 = iI (-1)) (h1 : gI m 113 1 = kI n) (hn : n ≠ 0) (hn2 : n < 100) : F_X9_again m = bnd (F_X9_againChoice (kI 0) (pI m 113 16 (kI 1))) fun v3 m4 => if v3 < kI 0 then F_X9_again_66 m4 else bnd (F_X9_changeAt (kI 0) v3 m4) fun _ m6 => bnd (F_X9_lead (gI m6 117 0) v3 m6) fun _ m9 => F_X9_again_66 m9 := by
  unfold F_X9_again
  simp (disch := omega) only [h6, ha, h16, hw, hR, h1, hn, iI_lit, kI_add, kI_mul, kI_eq, kI_lt, kI_le, kI_neg1, neg1_kI, neg1_lt0, neg1_0le, kO_none, kO_some, nm_eq, bnd_some, rz_0, rz_1, zb_0, zb_1, rd_kI, wrI_kI, wrL_kI, dvI_kI, rmI_kI, if_true, if_false, ite_true, ite_false, reduceIte, Nat.lt_irrefl, Nat.le_refl, not_true, not_false_iff, true_and, and_true, false_and, and_false, and_self, Bool.false_eq_true, eq_self, Decidable.not_not]
theorem bnd_eq {γ β : Type} {F : Option (γ × Mm)} {r : γ} {m : Mm} (h : F = some (r, m)) (G : γ → Mm → Option β) : bnd F G = G r m := by rw [h, bnd_some]
theorem g_again : Good (F_X8_again) (F_X9_again) := by
  intro μ hI
  obtain ⟨P, lot, e, hR, hD⟩ := hI.split
  have hn := hR.1.n7
  have hw := hD.2.2.2.1
  have hok := hR.1.ok
  have ha := hok.2.2.2.2.2.2
  have hb := hw.1
  have ea1 := hR.1.a
  have ea2 := hR.2.1.a
  have ew1 := hD.1.2.2.2.2.2.1
  have ew2 := hD.2.2.2.2.2.2.2.1
  have eA1 := hb.2.2.2.2.2.2
  have e4 := hD.2.2.2.2.2.1.2.2.2.2.1
  have en := hR.2.1.n
  by_cases a0 : pA P = 0
  · refine Good.bad (v := iI (-5)) hI ?_ ?_
    · unfold F_X8_again; simp (disch := omega) only [ea1, a0, iI_lit, kI_add, kI_mul, kI_eq, kI_lt, kI_le, kI_neg1, neg1_kI, neg1_lt0, neg1_0le, kO_none, kO_some, nm_eq, bnd_some, rz_0, rz_1, zb_0, zb_1, rd_kI, wrI_kI, wrL_kI, dvI_kI, rmI_kI, if_true, if_false, ite_true, ite_false, reduceIte, Nat.lt_irrefl, Nat.le_refl, not_true, not_false_iff, true_and, and_true, false_and, and_false, and_self, Bool.false_eq_true, eq_self, Decidable.not_not]
    · unfold F_X9_again; simp (disch := omega) only [ea2, a0, iI_lit, kI_add, kI_mul, kI_eq, kI_lt, kI_le, kI_neg1, neg1_kI, neg1_lt0, neg1_0le, kO_none, kO_some, nm_eq, bnd_some, rz_0, rz_1, zb_0, zb_1, rd_kI, wrI_kI, wrL_kI, dvI_kI, rmI_kI, if_true, if_false, ite_true, ite_false, reduceIte, Nat.lt_irrefl, Nat.le_refl, not_true, not_false_iff, true_and, and_true, false_and, and_false, and_self, Bool.false_eq_true, eq_self, Decidable.not_not]
  · by_cases w0 : eA e = 1
    · refine Good.bad (v := iI (-5)) hI ?_ ?_
      · unfold F_X8_again; simp (disch := omega) only [ea1, a0, ew1, w0, Nat.one_ne_zero, iI_lit, kI_add, kI_mul, kI_eq, kI_lt, kI_le, kI_neg1, neg1_kI, neg1_lt0, neg1_0le, kO_none, kO_some, nm_eq, bnd_some, rz_0, rz_1, zb_0, zb_1, rd_kI, wrI_kI, wrL_kI, dvI_kI, rmI_kI, if_true, if_false, ite_true, ite_false, reduceIte, Nat.lt_irrefl, Nat.le_refl, not_true, not_false_iff, true_and, and_true, false_and, and_false, and_self, Bool.false_eq_true, eq_self, Decidable.not_not]
      · unfold F_X9_again; simp (disch := omega) only [ea2, a0, ew2, w0, iI_lit, kI_add, kI_mul, kI_eq, kI_lt, kI_le, kI_neg1, neg1_kI, neg1_lt0, neg1_0le, kO_none, kO_some, nm_eq, bnd_some, rz_0, rz_1, zb_0, zb_1, rd_kI, wrI_kI, wrL_kI, dvI_kI, rmI_kI, if_true, if_false, ite_true, ite_false, reduceIte, Nat.lt_irrefl, Nat.le_refl, not_true, not_false_iff, true_and, and_true, false_and, and_false, and_self, Bool.false_eq_true, eq_self, Decidable.not_not]
    · have w0' : eA e = 0 := by omega
      have hen := hasEnded_eq hR.1 hD.1 hb
      by_cases hend : 0 < eP e ∧ pN P ≤ eP e
      · rw [if_pos hend] at hen
        have he : eP e = pN P := by have := hw.2.1; omega
        obtain ⟨_, m1, c1, c2, c3⟩ := chooseOnce_eq hR.1 hD.1 hD.2.1 hD.2.2.1 hw hend.1 he
        have u3 : FrC (fun a _ => SE 23 a) μ m1 := c3.c
        have hL1 : LotC m1 23 lot := hD.2.1.frC u3 (fun a j q => by unfold SE at q; omega)
        have hwy := wf_ag hok hD.2.2.1 hw hend.1 he
        have hcu := cu_end hw he
        have g0 : FrC (fun a j => a = 113 ∧ j = 16) m1 (pI m1 113 16 (kI 1)) := FrC.refl.put ⟨rfl, rfl⟩
        have hPR1 : PR (pI m1 113 16 (kI 1)) P := (hR.2.1.fr u3 (fun a j q z => by unfold SE at q; unfold CP at z; omega)).fr g0 (fun a j q z => by unfold CP at z; omega)
        have hRR1 : RR (pI m1 113 16 (kI 1)) 0 P lot e := (hD.2.2.2.2.2.1.fr hn u3 (fun a j q => by unfold SE at q; omega)).fr hn g0 (fun a j q => by omega)
        obtain ⟨k0, k1, k2, k3, k4⟩ := againChoice_eq hPR1 hRR1 hD.2.2.1 hw hend.1 he
        have l0 : Led (pI m1 113 16 (kI 1)) e := by
          have := hD.led
          unfold Led at this ⊢
          simp only [gI_pI, show ¬ (15 : Nat) = 16 by omega, show ¬ (17 : Nat) = 16 by omega, show ¬ (18 : Nat) = 16 by omega, show ¬ (19 : Nat) = 16 by omega, and_false, if_false]
          rw [u3.1 113 15 (by unfold SE; omega), u3.1 113 19 (by unfold SE; omega), u3.1 113 17 (by unfold SE; omega), u3.1 113 18 (by unfold SE; omega)]
          exact this
        have e8 : gI m1 117 0 = kI (lot 0) := by rw [u3.1 117 0 (by unfold SE; omega)]; exact hD.2.2.2.2.2.1.2.2.2.2.2.2.2.2 0 (by omega)
        have hp : lot 0 < pN P := hD.2.2.1.2.2 0 (by omega)
        have el : gI m1 24 0 = kI (lot 0) := hL1.1 0 (by omega)
        have eR1 : gI m1 121 0 = iI (-1) := by rw [u3.1 121 0 (by unfold SE; omega), e4, hcu]; rfl
        have ena : gI m1 113 1 = kI (pN P) := by rw [u3.1 113 1 (by unfold SE; omega)]; exact en
        have eaa : gI m1 113 6 = kI (pA P) := by rw [u3.1 113 6 (by unfold SE; omega)]; exact ea2
        have ewa : gI m1 113 16 = kI (eA e) := by rw [u3.1 113 16 (by unfold SE; omega)]; exact ew2
        have eh : gI m1 25 (lot 0) = kO (eH (agE P lot e) (lot 0)) := c2.2.1.2.2 (lot 0) (by omega)
        have hz : Z0 (agE P lot e) := by
          intro z
          unfold agE at z
          cases hc : agC P lot e with
          | none => rw [hc] at z; have z : eP e = 0 := z; omega
          | some w => rw [hc] at z; have z : eP e = 0 := z; omega
        cases hc : agC P lot e with
        | none =>
          have hag : agE P lot e = setA e := by unfold agE; rw [hc]
          rw [hag] at c2 hwy eh hz
          have eh : gI m1 25 (lot 0) = kI k0 := by rw [eh]; show kO (eH e (lot 0)) = _; rw [k1]; rfl
          rw [hc, kO_none] at k4
          have hD2 : IDeed (pI m1 113 16 (kI 1)) P lot (setA e) := IDeed.step2 c2 hL1 hRR1.set l0 (g0.mono fun a j q => by omega) (by simp [gI_pI]; rfl) hD.2.2.1 hwy hz
          have f : FrC CD μ (pI m1 113 16 (kI 1)) := (u3.mono fun a j q => by unfold SE at q; unfold CD; omega).trans (g0.mono fun a j q => by unfold CD; omega)
          refine ⟨kI k0, m1, _, ?_, ?_, Inv.join (hR.fr f (fun _ _ q => q)) hD2⟩
          · unfold F_X8_again
            simp (disch := omega) only [ea1, a0, ew1, w0', hen, c1, el, eh, Nat.one_ne_zero, iI_lit, kI_add, kI_mul, kI_eq, kI_lt, kI_le, kI_neg1, neg1_kI, neg1_lt0, neg1_0le, kO_none, kO_some, nm_eq, bnd_some, rz_0, rz_1, zb_0, zb_1, rd_kI, wrI_kI, wrL_kI, dvI_kI, rmI_kI, if_true, if_false, ite_true, ite_false, reduceIte, Nat.lt_irrefl, Nat.le_refl, not_true, not_false_iff, true_and, and_true, false_and, and_false, and_self, Bool.false_eq_true, eq_self, Decidable.not_not]
          · have h66 : F_X9_again_66 (pI m1 113 16 (kI 1)) = some (kI k0, pI m1 113 16 (kI 1)) := by
              have e9 : gI (pI m1 113 16 (kI 1)) 117 0 = kI (lot 0) := by simp [gI_pI, e8]
              unfold F_X9_again_66
              simp (disch := omega) only [e9, k3, iI_lit, kI_add, kI_mul, kI_eq, kI_lt, kI_le, kI_neg1, neg1_kI, neg1_lt0, neg1_0le, kO_none, kO_some, nm_eq, bnd_some, rz_0, rz_1, zb_0, zb_1, rd_kI, wrI_kI, wrL_kI, dvI_kI, rmI_kI, if_true, if_false, ite_true, ite_false, reduceIte, Nat.lt_irrefl, Nat.le_refl, not_true, not_false_iff, true_and, and_true, false_and, and_false, and_self, Bool.false_eq_true, eq_self, Decidable.not_not]
            rw [X9_again_go eaa a0 (by omega) ewa w0 (by omega) eR1 ena (by omega) (by omega), bnd_eq k4, if_pos (neg1_lt0.mpr trivial), h66]
        | some w =>
          obtain ⟨w1, w2⟩ := agC_lt hc
          have hag : agE P lot e = xcE (lot 0) k0 w (own0 e w) (setA e) := by unfold agE; rw [hc, k1]; rfl
          rw [hag] at c2 hwy eh hz
          have eh : gI m1 25 (lot 0) = kI w := by rw [eh]; show kO (up (up (eH e) (own0 e w) (some k0)) (lot 0) (some w) (lot 0)) = _; rw [up_at]; rfl
          rw [hc, kO_some] at k4
          obtain ⟨_, m3, d1, d2, d3⟩ := changeAt_eq (w := w) hPR1 hRR1 hD.2.2.1 hw hend.1 he k1 k2 (by omega)
          have l1 : Led m3 e := by
            unfold Led at l0 ⊢
            rw [d3.1 113 15 (by unfold CX9; omega), d3.1 113 19 (by unfold CX9; omega), d3.1 113 17 (by unfold CX9; omega), d3.1 113 18 (by unfold CX9; omega)]
            exact l0
          have ht : tot (xcE (lot 0) k0 w (own0 e w) (setA e)) = tot e + 1 := by
            have := sum_up (T := eT e) (k := w) (by omega)
            show eP e + (up (eT e) w (eT e w + 1) 0 + up (eT e) w (eT e w + 1) 1 + up (eT e) w (eT e w + 1) 2 + up (eT e) w (eT e w + 1) 3 + up (eT e) w (eT e w + 1) 4 + up (eT e) w (eT e w + 1) 5 + up (eT e) w (eT e w + 1) 6) = eP e + (eT e 0 + eT e 1 + eT e 2 + eT e 3 + eT e 4 + eT e 5 + eT e 6) + 1
            omega
          obtain ⟨_, m4, f1, f2, f3⟩ := lead_eq (e' := xcE (lot 0) k0 w (own0 e w) (setA e)) (p := lot 0) (k := w) l1 ht rfl rfl rfl
          have hPR4 : PR m4 P := (hPR1.cx d3).fr f3 (fun a j q z => by unfold CP at z; omega)
          have hRR4 : RR m4 0 P lot (xcE (lot 0) k0 w (own0 e w) (setA e)) := d2.fr hn f3 (fun a j q => by omega)
          have k5 := hasIn_eq hPR4 hRR4 hwy (p := lot 0) (by omega)
          have k5 : F_X9_hasIn (kI 0) (kI (lot 0)) m4 = some (kI w, m4) := by
            rw [k5]; show some (cI (up (up (eH e) (own0 e w) (some k0)) (lot 0) (some w) (lot 0)), m4) = _; rw [up_at]; rfl
          have fa : FrC (fun a j => CX9 0 a j ∨ (a = 113 ∧ (15 ≤ j ∧ j ≤ 19))) m1 m4 := ((g0.mono fun a j q => by omega).trans (d3.mono fun a j q => Or.inl q)).trans (f3.mono fun a j q => by omega)
          have e16 : gI m4 113 16 = kI 1 := by
            rw [f3.1 113 16 (by omega), d3.1 113 16 (by unfold CX9; omega)]; simp [gI_pI]
          have e83 : gI m3 117 0 = kI (lot 0) := by rw [d3.1 117 0 (by unfold CX9; omega)]; simp [gI_pI, e8]
          have e84 : gI m4 117 0 = kI (lot 0) := by rw [f3.1 117 0 (by omega)]; exact e83
          have hD2 : IDeed m4 P lot (xcE (lot 0) k0 w (own0 e w) (setA e)) := IDeed.step2 c2 hL1 hRR4 f2 (fa.mono fun a j q => q.elim (fun z => Or.inr (Or.inr (Or.inr (Or.inl z)))) (fun z => by omega)) e16 hD.2.2.1 hwy hz
          have f : FrC CD μ m4 := (u3.mono fun a j q => by unfold SE at q; unfold CD; omega).trans (fa.mono fun a j q => by unfold CX9 at q; unfold CD; omega)
          refine ⟨kI w, m1, m4, ?_, ?_, Inv.join (hR.fr f (fun _ _ q => q)) hD2⟩
          · unfold F_X8_again
            simp (disch := omega) only [ea1, a0, ew1, w0', hen, c1, el, eh, Nat.one_ne_zero, iI_lit, kI_add, kI_mul, kI_eq, kI_lt, kI_le, kI_neg1, neg1_kI, neg1_lt0, neg1_0le, kO_none, kO_some, nm_eq, bnd_some, rz_0, rz_1, zb_0, zb_1, rd_kI, wrI_kI, wrL_kI, dvI_kI, rmI_kI, if_true, if_false, ite_true, ite_false, reduceIte, Nat.lt_irrefl, Nat.le_refl, not_true, not_false_iff, true_and, and_true, false_and, and_false, and_self, Bool.false_eq_true, eq_self, Decidable.not_not]
          · have h66 : F_X9_again_66 m4 = some (kI w, m4) := by
              unfold F_X9_again_66
              simp (disch := omega) only [e84, k5, iI_lit, kI_add, kI_mul, kI_eq, kI_lt, kI_le, kI_neg1, neg1_kI, neg1_lt0, neg1_0le, kO_none, kO_some, nm_eq, bnd_some, rz_0, rz_1, zb_0, zb_1, rd_kI, wrI_kI, wrL_kI, dvI_kI, rmI_kI, if_true, if_false, ite_true, ite_false, reduceIte, Nat.lt_irrefl, Nat.le_refl, not_true, not_false_iff, true_and, and_true, false_and, and_false, and_self, Bool.false_eq_true, eq_self, Decidable.not_not]
            rw [X9_again_go eaa a0 (by omega) ewa w0 (by omega) eR1 ena (by omega) (by omega), bnd_eq k4, if_neg (by rw [kI_lt (by omega) (by omega)]; omega), bnd_eq d1, e83, bnd_eq f1, h66]
      · rw [if_neg hend] at hen
        refine Good.bad (v := iI (-5)) hI ?_ ?_
        · unfold F_X8_again
          simp (disch := omega) only [ea1, a0, ew1, w0', hen, iI_lit, kI_add, kI_mul, kI_eq, kI_lt, kI_le, kI_neg1, neg1_kI, neg1_lt0, neg1_0le, kO_none, kO_some, nm_eq, bnd_some, rz_0, rz_1, zb_0, zb_1, rd_kI, wrI_kI, wrL_kI, dvI_kI, rmI_kI, if_true, if_false, ite_true, ite_false, reduceIte, Nat.lt_irrefl, Nat.le_refl, not_true, not_false_iff, true_and, and_true, false_and, and_false, and_self, Bool.false_eq_true, eq_self, Decidable.not_not]
        · unfold F_X9_again
          cases hc : cu P lot e with
          | none =>
            have := cu_none hw hc
            rw [hc] at e4
            simp (disch := omega) only [ea2, a0, ew2, w0', e4, en, show pN P = 0 by omega, show ¬ (0 : Nat) = 1 by omega, iI_lit, kI_add, kI_mul, kI_eq, kI_lt, kI_le, kI_neg1, neg1_kI, neg1_lt0, neg1_0le, kO_none, kO_some, nm_eq, bnd_some, rz_0, rz_1, zb_0, zb_1, rd_kI, wrI_kI, wrL_kI, dvI_kI, rmI_kI, if_true, if_false, ite_true, ite_false, reduceIte, Nat.lt_irrefl, Nat.le_refl, not_true, not_false_iff, true_and, and_true, false_and, and_false, and_self, Bool.false_eq_true, eq_self, Decidable.not_not]
          | some c =>
            have := (cu_free hok hD.2.2.1 hw (cu_lt hw hc) hc).1
            rw [hc] at e4
            simp (disch := omega) only [ea2, a0, ew2, w0', e4, Nat.zero_le, show ¬ (0 : Nat) = 1 by omega, iI_lit, kI_add, kI_mul, kI_eq, kI_lt, kI_le, kI_neg1, neg1_kI, neg1_lt0, neg1_0le, kO_none, kO_some, nm_eq, bnd_some, rz_0, rz_1, zb_0, zb_1, rd_kI, wrI_kI, wrL_kI, dvI_kI, rmI_kI, if_true, if_false, ite_true, ite_false, reduceIte, Nat.lt_irrefl, Nat.le_refl, not_true, not_false_iff, true_and, and_true, false_and, and_false, and_self, Bool.false_eq_true, eq_self, Decidable.not_not]
