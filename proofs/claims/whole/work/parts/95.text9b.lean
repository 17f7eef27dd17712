/-! A TEXT, READ BY THE REFERENCE: OPERANDS, LINES, ALL -/
theorem isD_nm {c : Nat} (h : isD c = true) : nmO c = none ∧ c ≠ 33 ∧ c ≠ 45 ∧ c ≠ 40 := by
  have d := isD_iff.mp h
  refine ⟨?_, by omega, by omega, by omega⟩
  unfold nmO
  rw [if_neg (by omega), if_neg (by omega), if_neg (by omega), if_neg (by omega), if_neg (by omega), if_neg (by omega)]
section T9B
variable {b : Nat → Nat} {l : Nat} {m0 : Mm}
theorem opens9_yes {m : Mm} {p op : Nat} {D : List Ins} (h : P9 m0 m p op D) (ho : op < 6) : ∃ m', F_X9_opens m = some (kI 1, m') ∧ P9 m0 m' (p + 1) (op + 1) D := by
  have h2 := adv9 (opn9 (op' := op + 1) h)
  refine ⟨_, ?_, h2⟩
  unfold F_X9_opens
  rw [h.2.2.2.1, if_neg (by rw [iI_lit, kI_eq (by omega) (by omega)]; omega), nm_eq, nm_eq, kI_a1]
  rfl
theorem opens9_no {m : Mm} {p : Nat} {D : List Ins} (hp : p ≤ l) (h : P9 m0 m p 6 D) : ∃ m', F_X9_opens m = some (kI 0, m') ∧ Q9 l m0 m' p D.length p := by
  obtain ⟨m', a1, a2⟩ := faulty9 hp h
  refine ⟨m', ?_, a2⟩
  unfold F_X9_opens
  rw [h.2.2.2.1, if_pos (show kI 6 = iI 6 from rfl), bnd_eq a1]
  rfl
theorem opr9_nam {fE fO : Mm → Option (Unit × Mm)} {op p i : Nat} {r : Res} (H : H9 b l m0) (hp : p ≤ l) (hn : nmO (cch b l p) = some i) (hr : r = (p + 1, some [(2, i)])) : Ex9 b l m0 op (B_X9_operand fE fO) p r := by
  intro m D h hD
  have hl := H.1
  have hle := cch_le9 H p
  have hi := nmO_lt hn
  have zl := cch_lt (b := b) (l := l) (p := p) (by omega)
  obtain ⟨m', a1, a2⟩ := add9 (x := iI 2) (o := 2) (v := i) (by decide) h (by omega)
  unfold B_X9_operand
  rw [bnd_eq (lk9 H hp h), bnd_eq (name9 hle), hn, kO_some, if_neg (by rw [iI_lit, kI_lt (by omega) (by omega)]; omega), bnd_eq (name9 hle), hn, kO_some, bnd_eq a1, nm_eq, hr]
  exact ⟨(), _, rfl, adv9 a2⟩
theorem opr9_fig {fE fO : Mm → Option (Unit × Mm)} {op p : Nat} {r : Res} (H : H9 b l m0) (hp : p ≤ l) (hn : nmO (cch b l p) = none) (h1 : cch b l p ≠ 33) (h2 : cch b l p ≠ 45) (h3 : cch b l p ≠ 40) (hr : r = figR (cch b l) p) : Ex9 b l m0 op (B_X9_operand fE fO) p r := by
  intro m D h hD
  have hle := cch_le9 H p
  unfold B_X9_operand
  rw [bnd_eq (lk9 H hp h), bnd_eq (name9 hle), hn, if_pos (show kO none < iI 0 from neg1_lt0.mpr trivial), if_neg (show ¬ rI9 (cch b l p) = iI 33 from fun w => h1 ((rI9_eq (k := 33) hle (by omega)).mp w)), if_neg (show ¬ rI9 (cch b l p) = iI 45 from fun w => h2 ((rI9_eq (k := 45) hle (by omega)).mp w)), if_neg (show ¬ rI9 (cch b l p) = iI 40 from fun w => h3 ((rI9_eq (k := 40) hle (by omega)).mp w)), bnd_idU, hr]
  exact fig9 H hp m D h hD
theorem opr9_st {fE fO : Mm → Option (Unit × Mm)} {op p : Nat} {m : Mm} {D : List Ins} (H : H9 b l m0) (hp : p ≤ l) (h : P9 m0 m p op D) (hn : nmO (cch b l p) = none) : B_X9_operand fE fO m = if rI9 (cch b l p) = (iI 33) then F_X9_operand_46 fE fO (rI9 (cch b l p)) m else (if rI9 (cch b l p) = (iI 45) then F_X9_operand_46 fE fO (rI9 (cch b l p)) m else (if rI9 (cch b l p) = (iI 40) then (bnd (F_X9_opens m) fun v7 m8 => (if v7 = iI 0 then some ((), m8) else bnd (fE m8) fun _ m10 => (if (gI m10 113 29) < iI 0 then (bnd (F_X9_look m10) fun v11 m12 => (if v11 = (iI 41) then (nm (pI m12 113 28 ((gI m12 113 28) + (iI 1))) fun m13 => nm (pI m13 113 30 ((gI m13 113 30) - (iI 1))) fun m14 => some ((), m14)) else (bnd (F_X9_faulty m12) fun _ m16 => some ((), m16)))) else some ((), m10)))) else (bnd (F_X9_figure m) fun _ m6 => some ((), m6)))) := by
  have hle := cch_le9 H p
  unfold B_X9_operand
  rw [bnd_eq (lk9 H hp h), bnd_eq (name9 hle), hn, if_pos (show kO none < iI 0 from neg1_lt0.mpr trivial)]
theorem opr9_0 {fE fO : Mm → Option (Unit × Mm)} {p : Nat} (H : H9 b l m0) (hp : p ≤ l) : Ex9 b l m0 6 (B_X9_operand fE fO) p (oprR (cch b l) 0 p) := by
  have hl := H.1
  have hle := cch_le9 H p
  cases hn : nmO (cch b l p) with
  | some i =>
    refine opr9_nam H hp hn ?_
    have hd : ¬ isD (cch b l p) = true := fun w => by rw [(isD_nm w).1] at hn; cases hn
    unfold oprR
    rw [if_neg hd, hn]
  | none =>
    have er : oprR (cch b l) 0 p = figR (cch b l) p := by
      unfold oprR figR
      by_cases w : isD (cch b l p) = true
      · rw [if_pos w, if_pos w]
      · rw [if_neg w, if_neg w, hn]
    by_cases y : cch b l p = 33 ∨ cch b l p = 45 ∨ cch b l p = 40
    · intro m D h hD
      have hd : ¬ isD (cch b l p) = true := fun w => by have := isD_nm w; omega
      have ep : oprR (cch b l) 0 p = (p, none) := by
        rw [er]
        unfold figR
        rw [if_neg hd]
      obtain ⟨m', a1, a2⟩ := opens9_no hp h
      rw [opr9_st H hp h hn, ep]
      have e46 : ∀ a, F_X9_operand_46 fE fO a m = some ((), m') := fun a => by
        unfold F_X9_operand_46
        rw [bnd_eq a1, if_pos k0_eq0]
      have fin : Wp (some ((), m') : Option (Unit × Mm)) fun _ m' => match ((p, none) : Res).2 with
        | some t => P9 m0 m' ((p, none) : Res).1 6 (D ++ t)
        | none => ∃ n h, Q9 l m0 m' ((p, none) : Res).1 n h ∧ n + p ≤ D.length + h + 1 := ⟨(), m', rfl, _, _, a2, by omega⟩
      by_cases y1 : cch b l p = 33
      · rw [if_pos (show rI9 (cch b l p) = iI 33 from (rI9_eq (k := 33) hle (by omega)).mpr y1), e46]
        exact fin
      · rw [if_neg (show ¬ rI9 (cch b l p) = iI 33 from fun w => y1 ((rI9_eq (k := 33) hle (by omega)).mp w))]
        by_cases y2 : cch b l p = 45
        · rw [if_pos (show rI9 (cch b l p) = iI 45 from (rI9_eq (k := 45) hle (by omega)).mpr y2), e46]
          exact fin
        · rw [if_neg (show ¬ rI9 (cch b l p) = iI 45 from fun w => y2 ((rI9_eq (k := 45) hle (by omega)).mp w)), if_pos (show rI9 (cch b l p) = iI 40 from (rI9_eq (k := 40) hle (by omega)).mpr (by omega)), bnd_eq a1, if_pos k0_eq0]
          exact fin
    · exact opr9_fig H hp hn (by omega) (by omega) (by omega) er
theorem un9 {fE fO : Mm → Option (Unit × Mm)} {a : Int32} {o op p : Nat} {r : Res} {m : Mm} {D : List Ins} (H : H9 b l m0) (hp : p < l) (h : P9 m0 m p op D) (ho : op < 6) (hD : D.length ≤ p) (g : GR l (p + 1) r) (hO : Ex9 b l m0 (op + 1) fO (p + 1) r) (ha : (if a = iI 33 then iI 3 else iI 4) = iI (o : Int)) (hs : nB ((iI (o : Int)).toInt8.toInt32) = kI o) : Wp (F_X9_operand_46 fE fO a m) fun _ m' => match (unR o r).2 with
    | some t => P9 m0 m' (unR o r).1 op (D ++ t)
    | none => ∃ n h, Q9 l m0 m' (unR o r).1 n h ∧ n + p ≤ D.length + h + 1 := by
  have hl := H.1
  obtain ⟨m2, b1, b2⟩ := opens9_yes h ho
  obtain ⟨_, m4, a1, a2⟩ := hO m2 D b2 (by omega)
  have st : F_X9_operand_46 fE fO a m = F_X9_addStep (iI (o : Int)) (iI 0) (pI m4 113 30 ((gI m4 113 30) - (iI 1))) := by
    unfold F_X9_operand_46 F_X9_operand_80
    rw [bnd_eq b1, if_neg k1_ne0, bnd_eq a1, nm_eq, bnd_idU, bnd_idU, ← ha]
    by_cases y : a = iI 33
    · rw [if_pos y, if_pos y]
    · rw [if_neg y, if_neg y]
  rw [st]
  obtain ⟨p', c⟩ := r
  cases c with
  | none =>
    have a2 : ∃ n h, Q9 l m0 m4 p' n h ∧ n + (p + 1) ≤ D.length + h + 1 := a2
    obtain ⟨n, hh, a3, a4⟩ := a2
    have a5 := a3.2.2.2.2.1
    obtain ⟨m5, c1, c2⟩ := add9q (x := iI (o : Int)) (v := iI 0) (opn9q (v := (gI m4 113 30) - (iI 1)) a3) (by omega)
    rw [c1]
    exact ⟨(), m5, rfl, _, _, c2, by omega⟩
  | some t =>
    have g : p + 1 < p' ∧ p' ≤ l ∧ p + 1 + t.length ≤ p' ∧ 1 ≤ t.length := g
    have a2 : P9 m0 m4 p' (op + 1) (D ++ t) := a2
    have e1 : (gI m4 113 30) - (iI 1) = kI op := by rw [a2.2.2.2.1, iI_lit, kI_sub (by omega)]; rfl
    obtain ⟨m5, c1, c2⟩ := add9 (x := iI (o : Int)) (v := 0) hs (opn9 (op' := op) a2) (by rw [List.length_append]; omega)
    have c1 : F_X9_addStep (iI (o : Int)) (iI 0) (pI m4 113 30 (kI op)) = some ((), m5) := c1
    rw [e1, c1]
    refine ⟨(), m5, rfl, ?_⟩
    show P9 m0 m5 p' op (D ++ (t ++ [(o, 0)]))
    rw [← List.append_assoc]
    exact c2
theorem opr9_s {fE fO : Mm → Option (Unit × Mm)} {k op p : Nat} (H : H9 b l m0) (hk : op < 6) (hE : ∀ p, p ≤ l → Ex9 b l m0 (op + 1) fE p (eitR (cch b l) (oprR (cch b l) k) p)) (hO : ∀ p, p ≤ l → Ex9 b l m0 (op + 1) fO p (oprR (cch b l) k p)) (hp : p ≤ l) : Ex9 b l m0 op (B_X9_operand fE fO) p (oprR (cch b l) (k + 1) p) := by
  have hl := H.1
  have hle := cch_le9 H p
  cases hn : nmO (cch b l p) with
  | some i =>
    refine opr9_nam H hp hn ?_
    have hd : ¬ isD (cch b l p) = true := fun w => by rw [(isD_nm w).1] at hn; cases hn
    unfold oprR
    rw [if_neg hd, hn]
  | none =>
    by_cases hd : isD (cch b l p) = true
    · have d := isD_nm hd
      refine opr9_fig H hp hn d.2.1 d.2.2.1 d.2.2.2 ?_
      unfold oprR figR
      rw [if_pos hd, if_pos hd]
    · have er : oprR (cch b l) (k + 1) p = if cch b l p = 33 then unR 3 (oprR (cch b l) k (p + 1)) else if cch b l p = 45 then unR 4 (oprR (cch b l) k (p + 1)) else if cch b l p = 40 then parR (cch b l) (eitR (cch b l) (oprR (cch b l) k) (p + 1)) else (p, none) := by
        rw [oprR, if_neg hd, hn]
      by_cases y1 : cch b l p = 33
      · intro m D h hD
        have zl := cch_lt (b := b) (l := l) (p := p) (by omega)
        rw [opr9_st H hp h hn, er, if_pos (show rI9 (cch b l p) = iI 33 from (rI9_eq (k := 33) hle (by omega)).mpr y1), if_pos y1]
        exact un9 H zl h hk hD (opr_gr hl k (p + 1) (by omega)) (hO (p + 1) (by omega)) (o := 3) (by rw [y1]; decide) (by decide)
      · by_cases y2 : cch b l p = 45
        · intro m D h hD
          have zl := cch_lt (b := b) (l := l) (p := p) (by omega)
          rw [opr9_st H hp h hn, er, if_neg (show ¬ rI9 (cch b l p) = iI 33 from fun w => y1 ((rI9_eq (k := 33) hle (by omega)).mp w)), if_pos (show rI9 (cch b l p) = iI 45 from (rI9_eq (k := 45) hle (by omega)).mpr y2), if_neg y1, if_pos y2]
          exact un9 H zl h hk hD (opr_gr hl k (p + 1) (by omega)) (hO (p + 1) (by omega)) (o := 4) (by rw [y2]; decide) (by decide)
        · by_cases y3 : cch b l p = 40
          · intro m D h hD
            have zl := cch_lt (b := b) (l := l) (p := p) (by omega)
            rw [opr9_st H hp h hn, er, if_neg (show ¬ rI9 (cch b l p) = iI 33 from fun w => y1 ((rI9_eq (k := 33) hle (by omega)).mp w)), if_neg (show ¬ rI9 (cch b l p) = iI 45 from fun w => y2 ((rI9_eq (k := 45) hle (by omega)).mp w)), if_pos (show rI9 (cch b l p) = iI 40 from (rI9_eq (k := 40) hle (by omega)).mpr y3), if_neg y1, if_neg y2, if_pos y3]
            obtain ⟨m8, b1, b2⟩ := opens9_yes h hk
            have g := eit_gr (b := b) hl (opr_gr (b := b) hl k) (p + 1) (by omega)
            obtain ⟨_, m10, a1, a2⟩ := hE (p + 1) (by omega) m8 D b2 (by omega)
            rw [bnd_eq b1, if_neg k1_ne0, bnd_eq a1]
            generalize eitR (cch b l) (oprR (cch b l) k) (p + 1) = r at g a2
            obtain ⟨p', c⟩ := r
            cases c with
            | none =>
              have a2 : ∃ n h, Q9 l m0 m10 p' n h ∧ n + (p + 1) ≤ D.length + h + 1 := a2
              obtain ⟨n, hh, a3, a4⟩ := a2
              have a5 := a3.2.2.1
              rw [a3.2.1, if_neg (by rw [iI_lit, kI_lt (by omega) (by omega)]; omega)]
              exact ⟨(), m10, rfl, _, _, a3, by omega⟩
            | some t =>
              have g : p + 1 < p' ∧ p' ≤ l ∧ p + 1 + t.length ≤ p' ∧ 1 ≤ t.length := g
              have a2 : P9 m0 m10 p' (op + 1) (D ++ t) := a2
              have hle2 := cch_le9 H p'
              have ep : parR (cch b l) (p', some t) = if cch b l p' = 41 then (p' + 1, some t) else (p', none) := rfl
              rw [ep, a2.2.2.1, if_pos (by rw [iI_lt2 (by omega) (by omega)]; omega), bnd_eq (lk9 H g.2.1 a2)]
              by_cases x : cch b l p' = 41
              · have a3 := adv9 a2
                have e1 : (gI (pI m10 113 28 ((gI m10 113 28) + (iI 1))) 113 30) - (iI 1) = kI op := by rw [a3.2.2.2.1, iI_lit, kI_sub (by omega)]; rfl
                rw [if_pos x, if_pos (show rI9 (cch b l p') = iI 41 from (rI9_eq (k := 41) hle2 (by omega)).mpr x), nm_eq, nm_eq, e1]
                exact ⟨(), _, rfl, opn9 (op' := op) a3⟩
              · obtain ⟨m16, c1, c2⟩ := faulty9 g.2.1 a2
                rw [if_neg x, if_neg (show ¬ rI9 (cch b l p') = iI 41 from fun w => x ((rI9_eq (k := 41) hle2 (by omega)).mp w)), bnd_eq c1]
                refine ⟨(), m16, rfl, _, _, c2, ?_⟩
                rw [List.length_append]
                omega
          · refine opr9_fig H hp hn y1 y2 y3 ?_
            rw [er, if_neg y1, if_neg y2, if_neg y3]
            unfold figR
            rw [if_neg hd]
theorem eit9 {k d op : Nat} (H : H9 b l m0) (hO : ∀ p, p ≤ l → Ex9 b l m0 op (R_156 d).2.2.2.1 p (oprR (cch b l) k p)) (p : Nat) (hp : p ≤ l) : Ex9 b l m0 op (R_156 (d + 5)).2.2.1 p (eitR (cch b l) (oprR (cch b l) k) p) := by
  have hl := H.1
  have g0 : ∀ p, p ≤ l → GR l p (oprR (cch b l) k p) := opr_gr hl k
  exact oorc9 (g := (R_156 (d + 4)).1) H (and_gr hl g0) (fun p hp => andc9 (g := (R_156 (d + 3)).2.1) H (cmp_gr hl g0) (fun p hp => cmpc9 (g := (R_156 (d + 2)).2.2.2.2.2) H (sum_gr hl g0) (fun p hp => sumc9 (g := (R_156 (d + 1)).2.2.2.2.1) H (prd_gr hl g0) (fun p hp => prdc9 (g := (R_156 d).2.2.2.1) H g0 hO p hp) p hp) p hp) p hp) p hp
theorem opr9 (H : H9 b l m0) : ∀ k d p, k ≤ 6 → 7 * k + 1 ≤ d → p ≤ l → Ex9 b l m0 (6 - k) (R_156 d).2.2.2.1 p (oprR (cch b l) k p)
  | 0, d, p, hk, hd, hp => by
    obtain ⟨d, rfl⟩ : ∃ e, d = e + 1 := ⟨d - 1, by omega⟩
    exact opr9_0 (fE := (R_156 d).2.2.1) (fO := (R_156 d).2.2.2.1) H hp
  | k + 1, d, p, hk, hd, hp => by
    obtain ⟨d, rfl⟩ : ∃ e, d = e + 6 := ⟨d - 6, by omega⟩
    have e6 : 6 - (k + 1) + 1 = 6 - k := by omega
    refine opr9_s (fE := (R_156 (d + 5)).2.2.1) (fO := (R_156 (d + 5)).2.2.2.1) (op := 6 - (k + 1)) H (by omega) (fun p hp => ?_) (fun p hp => ?_) hp
    · rw [e6]
      exact eit9 (k := k) (d := d) H (fun p hp => opr9 H k d p (by omega) (by omega) hp) p hp
    · rw [e6]
      exact opr9 H k (d + 5) p (by omega) (by omega) hp
theorem either9 (H : H9 b l m0) (p : Nat) (hp : p ≤ l) : Ex9 b l m0 0 F_X9_either p (eitR (cch b l) (oprR (cch b l) 6) p) :=
  eit9 (k := 6) (d := 895) H (fun p hp => opr9 H 6 895 p (by omega) (by omega) hp) p hp
end T9B
