/-! IN DEED, second -/
theorem wf_xc {P : Pa} {lot : Nat → Nat} {e : Ev} {k0 w : Nat} (hP : PaOk P) (hl : LotOk (pN P) P lot) (hw : WfE (pN P) P lot e) (h2 : eP e = pN P) (hk0 : eH e (lot 0) = some k0) (hk : k0 < pN P) (hwn : w < pN P) (hM : eT e w < pM P) : WfE (pN P) P lot (xcE (lot 0) k0 w (own0 e w) (setA e)) := by
  have hp : lot 0 < pN P := hl.2.2 0 (by omega)
  obtain ⟨q1, q2⟩ := own_of hw (show w < eP e by omega)
  obtain ⟨hb, h1, h2', h3, h4, h5, h6, h8⟩ := hw
  have hn := hP.1
  have hM3 := hP.2.2.2.2.2.1
  have ok0 : eO e k0 = some (lot 0) := (h4 _ _).mp hk0
  have hhq : eH e (own0 e w) = some w := (h4 _ _).mpr q1
  generalize own0 e w = q at q1 q2 hhq ⊢
  generalize hp0 : lot 0 = p at hp ok0 hk0 ⊢
  have cm : ∀ j, came e j ↔ came (xcE p k0 w q (setA e)) j := fun j => Iff.rfl
  have inv : ∀ x y, up (up (eH e) q (some k0)) p (some w) x = some y ↔ up (up (eO e) k0 (some q)) w (some p) y = some x := by
    intro x y
    by_cases xp : x = p
    · rw [xp, up_at]
      by_cases yw : y = w
      · rw [yw, up_at]; simp
      · rw [up_ne yw]
        constructor
        · intro z; cases z; exact absurd rfl yw
        · intro z
          by_cases yk : y = k0
          · rw [yk, up_at] at z
            cases z
            rw [hhq] at hk0
            cases hk0
            exact absurd yk yw
          · rw [up_ne yk] at z
            have := (h4 p y).mpr z
            rw [hk0] at this
            cases this
            exact absurd rfl yk
    · rw [up_ne xp]
      by_cases xq : x = q
      · rw [xq, up_at]
        by_cases yw : y = w
        · rw [yw, up_at]
          constructor
          · intro z
            cases z
            rw [ok0] at q1
            cases q1
            exact absurd xq xp
          · intro z; cases z; exact absurd xq xp
        · rw [up_ne yw]
          by_cases yk : y = k0
          · rw [yk, up_at]; simp
          · rw [up_ne yk]
            constructor
            · intro z; cases z; exact absurd rfl yk
            · intro z
              have := (h4 q y).mpr z
              rw [hhq] at this
              cases this
              exact absurd rfl yw
      · rw [up_ne xq]
        by_cases yw : y = w
        · rw [yw, up_at]
          constructor
          · intro z
            have := (h4 x w).mp z
            rw [q1] at this
            cases this
            exact absurd rfl xq
          · intro z; cases z; exact absurd rfl xp
        · rw [up_ne yw]
          by_cases yk : y = k0
          · rw [yk, up_at]
            constructor
            · intro z
              have := (h4 x k0).mp z
              rw [ok0] at this
              cases this
              exact absurd rfl xp
            · intro z; cases z; exact absurd rfl xq
          · rw [up_ne yk]; exact h4 x y
  refine ⟨⟨hb.1, fun x => ?_, fun x y hy => ?_, fun x y hy => ?_, hb.2.2.2.2.1, hb.2.2.2.2.2.1, Nat.le_refl _⟩, h1, fun x hx => ?_, fun x hx => ?_, inv, fun x y hy => ?_, fun r hr => ?_, fun j hj hne => ?_⟩
  · show up (eT e) w (eT e w + 1) x ≤ 3
    by_cases z : x = w
    · rw [z, up_at]; omega
    · rw [up_ne z]; exact hb.2.1 x
  · change up (up (eO e) k0 (some q)) w (some p) x = some y at hy
    by_cases z : x = w
    · rw [z, up_at] at hy; cases hy; omega
    · rw [up_ne z] at hy
      by_cases z2 : x = k0
      · rw [z2, up_at] at hy; cases hy; omega
      · rw [up_ne z2] at hy; exact hb.2.2.1 x y hy
  · change up (up (eH e) q (some k0)) p (some w) x = some y at hy
    by_cases z : x = p
    · rw [z, up_at] at hy; cases hy; omega
    · rw [up_ne z] at hy
      by_cases z2 : x = q
      · rw [z2, up_at] at hy; cases hy; omega
      · rw [up_ne z2] at hy; exact hb.2.2.2.1 x y hy
  · show ∃ y, y < pN P ∧ up (up (eO e) k0 (some q)) w (some p) x = some y
    by_cases z : x = w
    · exact ⟨p, hp, by rw [z, up_at]⟩
    · rw [up_ne z]
      by_cases z2 : x = k0
      · exact ⟨q, q2, by rw [z2, up_at]⟩
      · rw [up_ne z2]; exact h2' x hx
  · change eP e ≤ x at hx
    show up (up (eO e) k0 (some q)) w (some p) x = none ∧ up (eT e) w (eT e w + 1) x = 0
    rw [up_ne (by omega), up_ne (by omega), up_ne (by omega)]
    exact h3 x hx
  · change up (up (eO e) k0 (some q)) w (some p) x = some y at hy
    by_cases z : x = w
    · rw [z, up_at] at hy; cases hy
      exact ⟨0, Or.inl (by show 0 < eP e; omega), hp0⟩
    · rw [up_ne z] at hy
      by_cases z2 : x = k0
      · rw [z2, up_at] at hy; cases hy
        exact h5 w _ q1
      · rw [up_ne z2] at hy; exact h5 x y hy
  · have hr : eR e = some r := hr
    have := (h6 r hr).1
    omega
  · show up (up (eH e) q (some k0)) p (some w) (lot j) ≠ none
    by_cases z : lot j = p
    · rw [z, up_at]; intro v; cases v
    · rw [up_ne z]
      by_cases z2 : lot j = q
      · rw [z2, up_at]; intro v; cases v
      · rw [up_ne z2]; exact h8 j hj hne
theorem wf_set {P : Pa} {m : Nat} {lot : Nat → Nat} {e : Ev} (h : WfE m P lot e) : WfE m P lot (setA e) :=
  ⟨⟨h.1.1, h.1.2.1, h.1.2.2.1, h.1.2.2.2.1, h.1.2.2.2.2.1, h.1.2.2.2.2.2.1, Nat.le_refl _⟩, h.2⟩
theorem agC_lt {P : Pa} {lot : Nat → Nat} {e : Ev} {w : Nat} (h : agC P lot e = some w) : w < eP e ∧ eT e w < pM P := by
  unfold agC at h
  rcases pick_in _ _ _ _ _ h with z | z
  · cases z
  · exact ⟨by omega, cA_iff.mp z.1⟩
theorem wf_ag {P : Pa} {lot : Nat → Nat} {e : Ev} (hP : PaOk P) (hl : LotOk (pN P) P lot) (hw : WfE (pN P) P lot e) (h1 : 0 < eP e) (h2 : eP e = pN P) : WfE (pN P) P lot (agE P lot e) := by
  have hR : eR e = none := by
    cases q : eR e with
    | none => rfl
    | some r => have := (hw.2.2.2.2.2.2.1 r q).1; omega
  obtain ⟨k0, hk0⟩ : ∃ k0, eH e (lot 0) = some k0 := by
    cases q : eH e (lot 0) with
    | none => exact absurd q (hw.2.2.2.2.2.2.2 0 (Or.inl h1) (by rw [hR]; intro z; cases z))
    | some k => exact ⟨k, rfl⟩
  have hk : k0 < pN P := by
    have := (hw.2.2.2.2.1 _ _).mp hk0
    by_cases z : k0 < eP e
    · omega
    · rw [(hw.2.2.2.1 k0 (by omega)).1] at this; cases this
  unfold agE
  cases hc : agC P lot e with
  | none => exact wf_set hw
  | some w =>
    obtain ⟨w1, w2⟩ := agC_lt hc
    show WfE (pN P) P lot (xcE (lot 0) ((eH e (lot 0)).getD 0) w (own0 e w) (setA e))
    rw [hk0]
    exact wf_xc hP hl hw h2 hk0 hk (by omega) w2
theorem wf_cl {P : Pa} {lot : Nat → Nat} {e : Ev} (hP : PaOk P) (hl : LotOk (pN P) P lot) (hw : WfE (pN P) P lot e) : WfE (pN P) P lot (clE P lot e) := by
  unfold clE
  split
  · next q => exact wf_ag hP hl hw q.2.1 (by have := hw.2.1; omega)
  · exact hw
theorem bnd_eq {γ β : Type} {F : Option (γ × Mm)} {r : γ} {m : Mm} (h : F = some (r, m)) (G : γ → Mm → Option β) : bnd F G = G r m := by rw [h, bnd_some]
