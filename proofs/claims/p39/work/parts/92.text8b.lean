/-! A TEXT, READ BY THE CLASS: OPERANDS, LINES, ALL -/
theorem bnd_idU {F : Option (Unit × Mm)} : (bnd F fun _ m => some ((), m)) = F := by
  cases F <;> rfl
section T8B
variable {b : Nat → Nat} {l q : Nat} {m0 : Mm}
theorem opr8_st {fE fO : Int32 → Mm → Option (Unit × Mm)} {x : Int32} {m : Mm} {p : Nat} {L : Int32} {D : List (Nat × Nat)} (H : H8 b l q m0) (hp : p ≤ l) (h : P8 q m0 m p L D) : B_X6_operand fE fO x m = if isD (cch b l p) = true then F_X6_number m else if (nmO (cch b l p)).isSome = true then (nm (pI m 16 2 ((gI m 16 2) + (iI 1))) fun m18 => gdS (9, 3) (gR m18 16 4) fun q19 => bnd (F_X3_nameOf (aI (cch b l p)) m18) fun v20 m21 => bnd (F_X3_write q19 (iI 36) v20 m21) fun _ m23 => some ((), m23)) else (if x < (iI 6) then (if aI (cch b l p) = (iI 33) then F_X6_operand_78 fE fO x (aI (cch b l p)) m else (if aI (cch b l p) = (iI 45) then F_X6_operand_78 fE fO x (aI (cch b l p)) m else (if aI (cch b l p) = (iI 40) then (nm (pI m 16 2 ((gI m 16 2) + (iI 1))) fun m9 => bnd (fE (x + (iI 1)) m9) fun _ m11 => bnd (F_X6_comes (iI 41) m11) fun v12 m13 => (if v12 = iI 0 then (bnd (F_X6_fail m13) fun _ m15 => some ((), m15)) else some ((), m13))) else F_X6_fail m))) else F_X6_fail m) := by
  have hle := cch_le H p
  unfold B_X6_operand
  rw [bnd_eq (ahead8 H hp h), bnd_eq (isDig8 hle)]
  by_cases z : isD (cch b l p) = true
  · rw [if_pos z, if_pos z, if_neg k1_ne0, bnd_idU]
  · rw [if_neg z, if_neg z, if_pos k0_eq0, bnd_eq (name8 hle)]
    cases hn : nmO (cch b l p) with
    | none =>
      rw [if_pos (show kO none = iI (-1) from rfl), if_neg (show ¬ (none : Option Nat).isSome = true by simp), bnd_idU]
    | some i =>
      have := nmO_lt hn
      rw [kO_some, if_neg (show ¬ kI i = iI (-1) by rw [kI_iI, iI_eq (by omega) (by omega)]; omega), if_pos (by simp)]
theorem opr8_num {fE fO : Int32 → Mm → Option (Unit × Mm)} {x : Int32} {p : Nat} {r : Res} (H : H8 b l q m0) (hp : p ≤ l) (hd : isD (cch b l p) = true) (hr : r = numR (cch b l) p) : Ex8 b l q m0 (fun m => B_X6_operand fE fO x m) p r := by
  intro m L D h hD
  show Wp (B_X6_operand fE fO x m) _
  rw [opr8_st H hp h, if_pos hd, hr]
  exact num8 H hd m L D h hD
theorem opr8_nam {fE fO : Int32 → Mm → Option (Unit × Mm)} {x : Int32} {p i : Nat} {r : Res} (H : H8 b l q m0) (hp : p ≤ l) (hd : ¬ isD (cch b l p) = true) (hn : nmO (cch b l p) = some i) (hr : r = (p + 1, some [(2, i)])) : Ex8 b l q m0 (fun m => B_X6_operand fE fO x m) p r := by
  intro m L D h hD
  have hl := H.1
  have zl := cch_lt (b := b) (l := l) (p := p) (by have := (nmO_lt hn).2; omega)
  obtain ⟨m', a1, a2⟩ := wr8 (x := iI 36) (s := 36) (v := i) H (by decide) (adv8 H h) (by omega)
  show Wp (B_X6_operand fE fO x m) _
  obtain ⟨t1, t2, t3, t4⟩ := h8_tape H (adv8 H h).1
  rw [opr8_st H hp h, if_neg hd, hn, if_pos (by simp), nm_eq, t3, gdS_yes t4, bnd_eq (name8 (cch_le H p)), hn, kO_some, bnd_idU, hr]
  exact ⟨(), m', a1, a2⟩
theorem opr8_0 {fE fO : Int32 → Mm → Option (Unit × Mm)} {p : Nat} (H : H8 b l q m0) (hp : p ≤ l) : Ex8 b l q m0 (fun m => B_X6_operand fE fO (kI 6) m) p (oprR (cch b l) 0 p) := by
  have hl := H.1
  by_cases z : isD (cch b l p) = true
  · exact opr8_num H hp z (by unfold oprR; rw [if_pos z])
  · cases hn : nmO (cch b l p) with
    | some i => exact opr8_nam H hp z hn (by unfold oprR; rw [if_neg z, hn])
    | none =>
      intro m L D h hD
      have er : oprR (cch b l) 0 p = (p, none) := by unfold oprR; rw [if_neg z, hn]
      obtain ⟨m', a1, a2⟩ := fail8 H hp h (by omega)
      show Wp (B_X6_operand fE fO (kI 6) m) _
      rw [opr8_st H hp h, if_neg z, hn, if_neg (by simp), if_neg (by rw [iI_lit, kI_lt (by omega) (by omega)]; omega), er]
      exact ⟨(), m', a1, a2⟩
theorem un8 {fE fO : Int32 → Mm → Option (Unit × Mm)} {x a : Int32} {o s p : Nat} {r : Res} {m : Mm} {L : Int32} {D : List (Nat × Nat)} (H : H8 b l q m0) (hp : p < l) (h : P8 q m0 m p L D) (hD : D.length ≤ p) (g : GR l (p + 1) r) (hO : Ex8 b l q m0 (fun m => fO (x + iI 1) m) (p + 1) r) (ho : sgn o = s) (ha : (if a = iI 45 then iI 126 else iI 33) = iI (s : Int)) (hs : nC (iI (s : Int)) = kI s) : Wp (F_X6_operand_78 fE fO x a m) fun _ m' => match (unR o r).2 with
    | some t => P8 q m0 m' (unR o r).1 L (D ++ cls t)
    | none => Q8 b l q m0 m' (unR o r).1 := by
  have hl := H.1
  obtain ⟨_, m3, a1, a2⟩ := hO _ L D (adv8 H h) (by omega)
  have st : F_X6_operand_78 fE fO x a m = F_X6_write (iI (s : Int)) m3 := by
    unfold F_X6_operand_78 F_X6_operand_109
    rw [nm_eq, bnd_eq a1, bnd_idU, bnd_idU, ← ha]
    by_cases y : a = iI 45
    · rw [if_pos y, if_pos y]
    · rw [if_neg y, if_neg y]
  rw [st]
  obtain ⟨p', c⟩ := r
  cases c with
  | none =>
    obtain ⟨m5, b1, b2⟩ := write8q (x := iI (s : Int)) H a2
    exact ⟨(), m5, b1, b2⟩
  | some t =>
    have g : p + 1 < p' ∧ p' ≤ l ∧ p + 1 + t.length ≤ p' ∧ 1 ≤ t.length := g
    have a2 : P8 q m0 m3 p' L (D ++ cls t) := a2
    obtain ⟨m5, b1, b2⟩ := write8 H hs a2 (by rw [List.length_append, cls_len]; omega)
    refine ⟨(), m5, b1, ?_⟩
    show P8 q m0 m5 p' L (D ++ cls (t ++ [(o, 0)]))
    rw [cls_app, ← List.append_assoc]
    show P8 q m0 m5 p' L (D ++ cls t ++ [(sgn o, 0)])
    rw [ho]
    exact b2
theorem opr8_s {fE fO : Int32 → Mm → Option (Unit × Mm)} {k op p : Nat} (H : H8 b l q m0) (hk : op < 6) (hE : ∀ p, p ≤ l → Ex8 b l q m0 (fun m => fE (kI (op + 1)) m) p (eitR (cch b l) (oprR (cch b l) k) p)) (hO : ∀ p, p ≤ l → Ex8 b l q m0 (fun m => fO (kI (op + 1)) m) p (oprR (cch b l) k p)) (hp : p ≤ l) : Ex8 b l q m0 (fun m => B_X6_operand fE fO (kI op) m) p (oprR (cch b l) (k + 1) p) := by
  have hl := H.1
  by_cases z : isD (cch b l p) = true
  · exact opr8_num H hp z (by unfold oprR; rw [if_pos z])
  · cases hn : nmO (cch b l p) with
    | some i => exact opr8_nam H hp z hn (by unfold oprR; rw [if_neg z, hn])
    | none =>
      intro m L D h hD
      have er : oprR (cch b l) (k + 1) p = if cch b l p = 33 then unR 3 (oprR (cch b l) k (p + 1)) else if cch b l p = 45 then unR 4 (oprR (cch b l) k (p + 1)) else if cch b l p = 40 then parR (cch b l) (eitR (cch b l) (oprR (cch b l) k) (p + 1)) else (p, none) := by
        rw [oprR, if_neg z, hn]
      show Wp (B_X6_operand fE fO (kI op) m) _
      have hle := cch_le H p
      rw [opr8_st H hp h, if_neg z, hn, if_neg (by simp), if_pos (by rw [iI_lit, kI_lt (by omega) (by omega)]; omega), er]
      have e1 : kI op + iI 1 = kI (op + 1) := kI_a1 op
      by_cases y1 : cch b l p = 33
      · have zl := cch_lt (b := b) (l := l) (p := p) (by omega)
        rw [if_pos y1, if_pos (show aI (cch b l p) = iI 33 from (aI_eq (k := 33) hle (by omega)).mpr y1)]
        exact un8 H zl h hD (opr_gr hl k (p + 1) (by omega)) (by rw [e1]; exact hO (p + 1) (by omega)) (o := 3) (s := 33) rfl (by rw [y1]; decide) (by decide)
      · rw [if_neg y1, if_neg (show ¬ aI (cch b l p) = iI 33 from fun w => y1 ((aI_eq (k := 33) hle (by omega)).mp w))]
        by_cases y2 : cch b l p = 45
        · have zl := cch_lt (b := b) (l := l) (p := p) (by omega)
          rw [if_pos y2, if_pos (show aI (cch b l p) = iI 45 from (aI_eq (k := 45) hle (by omega)).mpr y2)]
          exact un8 H zl h hD (opr_gr hl k (p + 1) (by omega)) (by rw [e1]; exact hO (p + 1) (by omega)) (o := 4) (s := 126) rfl (by rw [y2]; decide) (by decide)
        · rw [if_neg y2, if_neg (show ¬ aI (cch b l p) = iI 45 from fun w => y2 ((aI_eq (k := 45) hle (by omega)).mp w))]
          by_cases y3 : cch b l p = 40
          · have zl := cch_lt (b := b) (l := l) (p := p) (by omega)
            rw [if_pos y3, if_pos (show aI (cch b l p) = iI 40 from (aI_eq (k := 40) hle (by omega)).mpr y3), nm_eq, e1]
            have g := eit_gr (b := b) hl (opr_gr (b := b) hl k) (p + 1) (by omega)
            obtain ⟨_, m11, a1, a2⟩ := hE (p + 1) (by omega) _ L D (adv8 H h) (by omega)
            rw [bnd_eq a1]
            generalize eitR (cch b l) (oprR (cch b l) k) (p + 1) = r at g a2
            obtain ⟨p', c⟩ := r
            cases c with
            | none =>
              have a2 : Q8 b l q m0 m11 p' := a2
              have cq := comes8_q (c := 41) H a2 (by omega)
              have cq : F_X6_comes (iI 41) m11 = some (kI 0, m11) := cq
              obtain ⟨m15, b1, b2, -⟩ := fail8q H a2
              rw [bnd_eq cq, if_pos k0_eq0, bnd_idU]
              exact ⟨(), m15, b1, b2⟩
            | some t =>
              have g : p + 1 < p' ∧ p' ≤ l ∧ p + 1 + t.length ≤ p' ∧ 1 ≤ t.length := g
              have a2 : P8 q m0 m11 p' L (D ++ cls t) := a2
              have ep : parR (cch b l) (p', some t) = if cch b l p' = 41 then (p' + 1, some t) else (p', none) := rfl
              rw [ep]
              by_cases x : cch b l p' = 41
              · have cy := comes8_yes H g.2.1 a2 x (by omega)
                have cy : F_X6_comes (iI 41) m11 = some (kI 1, pI m11 16 2 (gI m11 16 2 + iI 1)) := cy
                rw [if_pos x, bnd_eq cy, if_neg k1_ne0]
                exact ⟨(), _, rfl, adv8 H a2⟩
              · have cn := comes8_no H g.2.1 a2 x (by omega)
                have cn : F_X6_comes (iI 41) m11 = some (kI 0, m11) := cn
                obtain ⟨m15, b1, b2⟩ := fail8 H g.2.1 a2 (by rw [List.length_append, cls_len]; omega)
                rw [if_neg x, bnd_eq cn, if_pos k0_eq0, bnd_idU]
                exact ⟨(), m15, b1, b2⟩
          · rw [if_neg y3, if_neg (show ¬ aI (cch b l p) = iI 40 from fun w => y3 ((aI_eq (k := 40) hle (by omega)).mp w))]
            obtain ⟨m', a1, a2⟩ := fail8 H hp h (by omega)
            exact ⟨(), m', a1, a2⟩
theorem eit8 {k d : Nat} {a : Int32} (H : H8 b l q m0) (hO : ∀ p, p ≤ l → Ex8 b l q m0 (fun m => (R_55 d).2.2.2.1 a m) p (oprR (cch b l) k p)) (p : Nat) (hp : p ≤ l) : Ex8 b l q m0 (fun m => (R_55 (d + 5)).2.2.1 a m) p (eitR (cch b l) (oprR (cch b l) k) p) := by
  have hl := H.1
  have g0 : ∀ p, p ≤ l → GR l p (oprR (cch b l) k p) := opr_gr hl k
  exact oorc8 (g := (R_55 (d + 4)).1) H (and_gr hl g0) (fun p hp => andc8 (g := (R_55 (d + 3)).2.1) H (cmp_gr hl g0) (fun p hp => cmpc8 (g := (R_55 (d + 2)).2.2.2.2.2) H (sum_gr hl g0) (fun p hp => sumc8 (g := (R_55 (d + 1)).2.2.2.2.1) H (prd_gr hl g0) (fun p hp => prdc8 (g := (R_55 d).2.2.2.1) H g0 hO p hp) p hp) p hp) p hp) p hp
theorem opr8 (H : H8 b l q m0) : ∀ k d p, k ≤ 6 → 7 * k + 1 ≤ d → p ≤ l → Ex8 b l q m0 (fun m => (R_55 d).2.2.2.1 (kI (6 - k)) m) p (oprR (cch b l) k p)
  | 0, d, p, hk, hd, hp => by
    obtain ⟨d, rfl⟩ : ∃ e, d = e + 1 := ⟨d - 1, by omega⟩
    exact opr8_0 (fE := (R_55 d).2.2.1) (fO := (R_55 d).2.2.2.1) H hp
  | k + 1, d, p, hk, hd, hp => by
    obtain ⟨d, rfl⟩ : ∃ e, d = e + 6 := ⟨d - 6, by omega⟩
    have e6 : 6 - (k + 1) + 1 = 6 - k := by omega
    refine opr8_s (fE := (R_55 (d + 5)).2.2.1) (fO := (R_55 (d + 5)).2.2.2.1) (op := 6 - (k + 1)) H (by omega) (fun p hp => ?_) (fun p hp => ?_) hp
    · rw [e6]
      exact eit8 (k := k) (d := d) H (fun p hp => opr8 H k d p (by omega) (by omega) hp) p hp
    · rw [e6]
      exact opr8 H k (d + 5) p (by omega) (by omega) hp
theorem either8 (H : H8 b l q m0) (p : Nat) (hp : p ≤ l) : Ex8 b l q m0 (fun m => F_X6_either (iI 0) m) p (eitR (cch b l) (oprR (cch b l) 6) p) :=
  eit8 (k := 6) (d := 895) H (fun p hp => opr8 H 6 895 p (by omega) (by omega) hp) p hp
end T8B
