/-! LINES AND ALL, READ BY THE CLASS -/
/-- a line as the draft has it, from place n on -/
def lnC (n : Nat) (ln : Lin) : List (Nat × Nat) := if ln.1 = [] then cls ln.2 ++ [(59, 0)] else cls ln.1 ++ [(63, n + ln.1.length + 1 + ln.2.length)] ++ cls ln.2 ++ [(59, 0)]
def lay (T : List Lin) : List (Nat × Nat) := T.foldl (fun D ln => D ++ lnC D.length ln) []
theorem lay_app {T : List Lin} {ln : Lin} : lay (T ++ [ln]) = lay T ++ lnC (lay T).length ln := by
  unfold lay
  rw [List.foldl_append]
  rfl
/-- how far a line reaches -/
def GL (l p : Nat) (r : Nat × Option Lin) : Prop := match r.2 with
  | some ln => p < r.1 ∧ r.1 ≤ l ∧ (ln.1 = [] → p + ln.2.length ≤ r.1) ∧ (ln.1 ≠ [] → p + ln.1.length + 1 + ln.2.length ≤ r.1) ∧ 1 ≤ ln.2.length
  | none => p ≤ r.1 ∧ r.1 ≤ l
theorem lin_gr {b : Nat → Nat} {l p : Nat} (hl : l ≤ 120) (hp : p ≤ l) : GL l p (linR (cch b l) p) := by
  have g := eit_gr (b := b) hl (opr_gr (b := b) hl 6) p hp
  unfold linR
  generalize eitR (cch b l) (oprR (cch b l) 6) p = r at g
  obtain ⟨p', o⟩ := r
  cases o with
  | none => exact g
  | some t =>
    have g : p < p' ∧ p' ≤ l ∧ p + t.length ≤ p' ∧ 1 ≤ t.length := g
    show GL l p (if cch b l p' = 63 then match eitR (cch b l) (oprR (cch b l) 6) (p' + 1) with
      | (p2, none) => (p2, none)
      | (p2, some t2) => (p2, some (t, t2))
    else (p', some ([], t)))
    by_cases z : cch b l p' = 63
    · have zl := cch_lt (b := b) (l := l) (p := p') (by omega)
      have g2 := eit_gr (b := b) hl (opr_gr (b := b) hl 6) (p' + 1) (by omega)
      rw [if_pos z]
      generalize eitR (cch b l) (oprR (cch b l) 6) (p' + 1) = r2 at g2
      obtain ⟨p2, o2⟩ := r2
      cases o2 with
      | none =>
        have g2 : p' + 1 ≤ p2 ∧ p2 ≤ l := g2
        exact ⟨by show p ≤ p2; omega, g2.2⟩
      | some t2 =>
        have g2 : p' + 1 < p2 ∧ p2 ≤ l ∧ p' + 1 + t2.length ≤ p2 ∧ 1 ≤ t2.length := g2
        refine ⟨by show p < p2; omega, g2.2.1, fun h => ?_, fun _ => ?_, g2.2.2.2⟩
        · have h : t = [] := h
          rw [h] at g
          exact absurd g.2.2.2 (by decide)
        · show p + t.length + 1 + t2.length ≤ p2
          omega
    · rw [if_neg z]
      exact ⟨g.1, g.2.1, fun _ => g.2.2.1, fun h => absurd rfl h, g.2.2.2⟩
theorem lnC_len {n : Nat} {ln : Lin} : (lnC n ln).length = (if ln.1 = [] then ln.2.length + 1 else ln.1.length + 1 + ln.2.length + 1) := by
  unfold lnC
  by_cases z : ln.1 = []
  · rw [if_pos z, if_pos z, List.length_append, cls_len]
    rfl
  · rw [if_neg z, if_neg z, List.length_append, List.length_append, List.length_append, cls_len, cls_len]
    rfl
section T8C
variable {b : Nat → Nat} {l q : Nat} {m0 : Mm}
/-- the end of a line, without or with a test -/
theorem end8 {m : Mm} {p : Nat} {D : List (Nat × Nat)} (H : H8 b l q m0) (h : P8 q m0 m p (iI (-1)) D) (hD : D.length < 121) : ∃ m', F_X6_line_26 m = some ((), m') ∧ P8 q m0 m' p (iI (-1)) (D ++ [(59, 0)]) := by
  obtain ⟨t1, t2, t3, t4⟩ := h8_tape H h.1
  have hq := H.2.2.1
  have h5 := h.2.2.2.2.1
  have h1 : P8 q m0 (pI m q 3 (iI (-1))) p (iI (-1)) D := by
    obtain ⟨h1, h2, h3, h4, h5, h6⟩ := h
    refine ⟨h1.put (Or.inr (Or.inl ⟨rfl, Or.inr rfl⟩)), ?_, ?_, ?_, ?_, fun i hi => ?_⟩
    · rw [gI_pI, if_neg (by omega)]; exact h2
    · rw [gI_pI, if_neg (by omega)]; exact h3
    · rw [gI_pI, if_neg (by omega)]; exact h4
    · rw [gI_pI, if_pos ⟨rfl, rfl⟩]
    · rw [gI_pI, if_neg (by omega), gI_pI, if_neg (by omega)]; exact h6 i hi
  obtain ⟨m', a1, a2⟩ := wr8 (x := iI 59) (s := 59) (v := 0) H (by decide) h1 hD
  refine ⟨m', ?_, a2⟩
  have a1 : F_X3_write q (iI 59) (iI 0) (pI m q 3 (iI (-1))) = some ((), m') := a1
  unfold F_X6_line_26 F_X3_writeEndOfLine F_X3_writeEndOfLine_29
  rw [t3, gdS_yes t4, if_pos t4, h5, if_pos (by rw [iI_lt2 (by omega) (by omega)]; omega), nm_eq, bnd_eq a1, bnd_idU]
theorem end8q {m : Mm} {f : Nat} (H : H8 b l q m0) (h : Q8 b l q m0 m f) : ∃ m', F_X6_line_26 m = some ((), m') ∧ Q8 b l q m0 m' f := by
  obtain ⟨t1, t2, t3, t4⟩ := h8_tape H h.1
  have hq := H.2.2.1
  have go : ∀ m, Q8 b l q m0 m f → ∃ m', F_X3_writeEndOfLine_29 q m = some ((), m') ∧ Q8 b l q m0 m' f := by
    intro m h
    have h1 : Q8 b l q m0 (pI m q 3 (iI (-1))) f := by
      obtain ⟨h1, hf, h3, n, n1, n2⟩ := h
      refine ⟨h1.put (Or.inr (Or.inl ⟨rfl, Or.inr rfl⟩)), hf, ?_, n, n1, ?_⟩
      · rw [gI_pI, if_neg (by omega), gI_pI, if_neg (by omega)]; exact h3
      · rw [gI_pI, if_neg (by omega)]; exact n2
    obtain ⟨m', a1, a2⟩ := wr8q (x := iI 59) (v := iI 0) H h1
    refine ⟨m', ?_, a2⟩
    unfold F_X3_writeEndOfLine_29
    rw [nm_eq, bnd_eq a1]
  have st : F_X6_line_26 m = F_X3_writeEndOfLine q m := by
    unfold F_X6_line_26
    rw [t3, gdS_yes t4, bnd_idU]
  rw [st]
  unfold F_X3_writeEndOfLine
  rw [if_pos t4]
  generalize hx : gI m q 3 = x
  rcases i32_cases x with y | ⟨k, k1, rfl⟩
  · rw [if_pos (by rw [iI_lit, neg_lt y (by omega)]; trivial)]
    exact go m h
  · rw [if_neg (by rw [iI_lit, kI_lt (by omega) (by omega)]; omega)]
    by_cases z : 121 ≤ k
    · rw [if_pos (by rw [iI_lit, kI_le (by omega) (by omega)]; exact z)]
      exact go m h
    · rw [if_neg (by rw [iI_lit, kI_le (by omega) (by omega)]; exact z), wrI_kI (by omega) (by omega)]
      refine go _ ?_
      obtain ⟨h1, hf, h3, n, n1, n2⟩ := h
      refine ⟨h1.put (Or.inr (Or.inr (Or.inr rfl))), hf, ?_, n, n1, ?_⟩
      · rw [gI_pI, if_neg (by omega), gI_pI, if_neg (by omega)]; exact h3
      · rw [gI_pI, if_neg (by omega)]; exact n2
theorem line8 {m : Mm} {p : Nat} {D : List (Nat × Nat)} (H : H8 b l q m0) (hp : p ≤ l) (h : P8 q m0 m p (iI (-1)) D) (hD : D.length ≤ p) : Wp (F_X6_line m) fun _ m' => match (linR (cch b l) p).2 with
    | some ln => P8 q m0 m' (linR (cch b l) p).1 (iI (-1)) (D ++ lnC D.length ln)
    | none => Q8 b l q m0 m' (linR (cch b l) p).1 := by
  have hl := H.1
  have hq := H.2.2.1
  have g := eit_gr (b := b) hl (opr_gr (b := b) hl 6) p hp
  obtain ⟨_, m2, a1, a2⟩ := either8 H p hp m (iI (-1)) D h hD
  have a1 : F_X6_either (iI 0) m = some (_, m2) := a1
  unfold F_X6_line linR
  rw [bnd_eq a1]
  generalize eitR (cch b l) (oprR (cch b l) 6) p = r at g a2
  obtain ⟨p', o⟩ := r
  cases o with
  | none =>
    have a2 : Q8 b l q m0 m2 p' := a2
    have cq := comes8_q (c := 63) H a2 (by omega)
    have cq : F_X6_comes (iI 63) m2 = some (kI 0, m2) := cq
    obtain ⟨m5, b1, b2⟩ := end8q H a2
    rw [bnd_eq cq, if_pos k0_eq0, b1]
    exact ⟨(), m5, rfl, b2⟩
  | some t =>
    have g : p < p' ∧ p' ≤ l ∧ p + t.length ≤ p' ∧ 1 ≤ t.length := g
    have a2 : P8 q m0 m2 p' (iI (-1)) (D ++ cls t) := a2
    have hdl : (D ++ cls t).length = D.length + t.length := by rw [List.length_append, cls_len]
    show Wp _ fun _ m' => match (if cch b l p' = 63 then match eitR (cch b l) (oprR (cch b l) 6) (p' + 1) with
      | (p2, none) => (p2, none)
      | (p2, some t2) => (p2, some (t, t2))
    else (p', some ([], t))).2 with
      | some ln => P8 q m0 m' (if cch b l p' = 63 then match eitR (cch b l) (oprR (cch b l) 6) (p' + 1) with
      | (p2, none) => (p2, none)
      | (p2, some t2) => (p2, some (t, t2))
    else (p', some ([], t))).1 (iI (-1)) (D ++ lnC D.length ln)
      | none => Q8 b l q m0 m' (if cch b l p' = 63 then match eitR (cch b l) (oprR (cch b l) 6) (p' + 1) with
      | (p2, none) => (p2, none)
      | (p2, some t2) => (p2, some (t, t2))
    else (p', some ([], t))).1
    by_cases z : cch b l p' = 63
    · have zl := cch_lt (b := b) (l := l) (p := p') (by omega)
      have cy := comes8_yes H g.2.1 a2 z (by omega)
      have cy : F_X6_comes (iI 63) m2 = some (kI 1, pI m2 16 2 (gI m2 16 2 + iI 1)) := cy
      have a3 := adv8 H a2
      generalize pI m2 16 2 (gI m2 16 2 + iI 1) = m4 at cy a3
      obtain ⟨t1, t2, t3, t4⟩ := h8_tape H a3.1
      have a4 : P8 q m0 (pI m4 q 3 (kI (D ++ cls t).length)) (p' + 1) (kI (D ++ cls t).length) (D ++ cls t) := by
        obtain ⟨h1, h2, h3, h4, h5, h6⟩ := a3
        refine ⟨h1.put (Or.inr (Or.inl ⟨rfl, Or.inr rfl⟩)), ?_, ?_, ?_, ?_, fun i hi => ?_⟩
        · rw [gI_pI, if_neg (by omega)]; exact h2
        · rw [gI_pI, if_neg (by omega)]; exact h3
        · rw [gI_pI, if_neg (by omega)]; exact h4
        · rw [gI_pI, if_pos ⟨rfl, rfl⟩]
        · rw [gI_pI, if_neg (by omega), gI_pI, if_neg (by omega)]; exact h6 i hi
      obtain ⟨m7, b1, b2⟩ := wr8 (x := iI 63) (s := 63) (v := (D ++ cls t).length) H (by decide) a4 (by omega)
      have wi : F_X3_writeIf q m4 = some ((), m7) := by
        unfold F_X3_writeIf
        rw [if_pos t4, a3.2.2.2.1, nm_eq, gI_pI, if_neg (by omega), a3.2.2.2.1, bnd_eq b1]
      have g2 := eit_gr (b := b) hl (opr_gr (b := b) hl 6) (p' + 1) (by omega)
      have hdl2 : (D ++ cls t ++ [(63, (D ++ cls t).length)]).length = D.length + t.length + 1 := by rw [List.length_append, hdl]; rfl
      obtain ⟨_, m9, c1, c2⟩ := either8 H (p' + 1) (by omega) m7 _ _ b2 (by omega)
      have c1 : F_X6_either (iI 0) m7 = some (_, m9) := c1
      rw [if_pos z, bnd_eq cy, if_neg k1_ne0, t3, gdS_yes t4, bnd_eq wi, bnd_eq c1]
      generalize eitR (cch b l) (oprR (cch b l) 6) (p' + 1) = r2 at g2 c2
      obtain ⟨p2, o2⟩ := r2
      cases o2 with
      | none =>
        have c2 : Q8 b l q m0 m9 p2 := c2
        obtain ⟨m5, d1, d2⟩ := end8q H c2
        rw [d1]
        exact ⟨(), m5, rfl, d2⟩
      | some t2 =>
        have g2 : p' + 1 < p2 ∧ p2 ≤ l ∧ p' + 1 + t2.length ≤ p2 ∧ 1 ≤ t2.length := g2
        have c2 : P8 q m0 m9 p2 (kI (D ++ cls t).length) (D ++ cls t ++ [(63, (D ++ cls t).length)] ++ cls t2) := c2
        have hdl3 : (D ++ cls t ++ [(63, (D ++ cls t).length)] ++ cls t2).length = D.length + t.length + 1 + t2.length := by rw [List.length_append, hdl2, cls_len]
        obtain ⟨s1, s2, s3, s4⟩ := h8_tape H c2.1
        have c3 : P8 q m0 (pI (pI m9 (q + 2) (D ++ cls t).length (kI (D.length + t.length + 1 + t2.length))) q 3 (iI (-1))) p2 (iI (-1)) (D ++ cls t ++ [(63, D.length + t.length + 1 + t2.length)] ++ cls t2) := by
          obtain ⟨h1, h2, h3, h4, h5, h6⟩ := c2
          have hA : ∀ v : Nat, (D ++ cls t ++ [(63, v)]).length = (D ++ cls t).length + 1 := fun v => by
            rw [List.length_append]
            rfl
          have hB : ∀ v : Nat, (D ++ cls t ++ [(63, v)] ++ cls t2).length = (D ++ cls t).length + 1 + (cls t2).length := fun v => by rw [List.length_append, hA]
          have el : (D ++ cls t ++ [(63, D.length + t.length + 1 + t2.length)] ++ cls t2).length = (D ++ cls t ++ [(63, (D ++ cls t).length)] ++ cls t2).length := by rw [hB, hB]
          refine ⟨(h1.put (Or.inr (Or.inr (Or.inr rfl)))).put (Or.inr (Or.inl ⟨rfl, Or.inr rfl⟩)), ?_, ?_, ?_, ?_, fun i hi => ?_⟩
          · rw [gI_pI, if_neg (by omega), gI_pI, if_neg (by omega)]; exact h2
          · rw [gI_pI, if_neg (by omega), gI_pI, if_neg (by omega)]; exact h3
          · rw [gI_pI, if_neg (by omega), gI_pI, if_neg (by omega), el]; exact h4
          · rw [gI_pI, if_pos ⟨rfl, rfl⟩]
          · rw [el] at hi
            have q6 := h6 i hi
            have key : ∀ v : Nat, (D ++ cls t ++ [(63, v)] ++ cls t2).getD i (0, 0) = if i = (D ++ cls t).length then (63, v) else (D ++ cls t ++ [(63, (D ++ cls t).length)] ++ cls t2).getD i (0, 0) := by
              intro v
              by_cases y : i < (D ++ cls t).length + 1
              · have lt1 : i < (D ++ cls t ++ [(63, v)]).length := by rw [List.length_append]; exact y
                have lt2 : i < (D ++ cls t ++ [(63, (D ++ cls t).length)]).length := by rw [List.length_append]; exact y
                rw [List.getD_eq_getElem?_getD, List.getElem?_append_left lt1, ← List.getD_eq_getElem?_getD, getD_app2 y]
                by_cases x : i = (D ++ cls t).length
                · rw [if_pos x, if_pos x]
                · rw [if_neg x, if_neg x, List.getD_eq_getElem?_getD, List.getD_eq_getElem?_getD (l := D ++ cls t ++ [(63, (D ++ cls t).length)] ++ cls t2), List.getElem?_append_left lt2, ← List.getD_eq_getElem?_getD, ← List.getD_eq_getElem?_getD, getD_app2 y, if_neg x]
              · rw [if_neg (by omega), List.getD_eq_getElem?_getD, List.getD_eq_getElem?_getD, List.getElem?_append_right (by rw [hA]; omega), List.getElem?_append_right (by rw [hA]; omega), hA, hA]
            rw [key]
            refine ⟨?_, ?_⟩
            · rw [gI_pI, if_neg (by omega), gI_pI, if_neg (by omega), q6.1]
              by_cases x : i = (D ++ cls t).length
              · rw [if_pos x, key (D ++ cls t).length, if_pos x]
              · rw [if_neg x]
            · rw [gI_pI, if_neg (by omega), gI_pI]
              by_cases x : i = (D ++ cls t).length
              · rw [if_pos ⟨rfl, x⟩, if_pos x]
              · rw [if_neg (fun w => x w.2), if_neg x]
                exact q6.2
        have hdl4 : (D ++ cls t ++ [(63, D.length + t.length + 1 + t2.length)] ++ cls t2).length = D.length + t.length + 1 + t2.length := by rw [List.length_append, List.length_append, hdl, cls_len]; rfl
        obtain ⟨m5, d1, d2⟩ := wr8 (x := iI 59) (s := 59) (v := 0) H (by decide) c3 (by omega)
        have d1 : F_X3_write q (iI 59) (iI 0) _ = some ((), m5) := d1
        refine ⟨(), m5, ?_, ?_⟩
        · unfold F_X6_line_26 F_X3_writeEndOfLine F_X3_writeEndOfLine_29
          rw [s3, gdS_yes s4, if_pos s4, c2.2.2.2.2.1, if_neg (by rw [iI_lit, kI_lt (by omega) (by omega)]; omega), if_neg (by rw [iI_lit, kI_le (by omega) (by omega)]; omega), wrI_kI (by omega) (by omega), c2.2.2.2.1, hdl3, nm_eq, bnd_eq d1, bnd_idU]
        · show P8 q m0 m5 p2 (iI (-1)) (D ++ lnC D.length (t, t2))
          have et : lnC D.length (t, t2) = cls t ++ [(63, D.length + t.length + 1 + t2.length)] ++ cls t2 ++ [(59, 0)] := if_neg (fun w => by
            have w : t = [] := w
            rw [w] at g
            exact absurd g.2.2.2 (by decide))
          rw [et, ← List.append_assoc, ← List.append_assoc, ← List.append_assoc]
          exact d2
    · have cn := comes8_no H g.2.1 a2 z (by omega)
      have cn : F_X6_comes (iI 63) m2 = some (kI 0, m2) := cn
      obtain ⟨m5, d1, d2⟩ := end8 H a2 (by omega)
      rw [if_neg z, bnd_eq cn, if_pos k0_eq0, d1]
      refine ⟨(), m5, rfl, ?_⟩
      show P8 q m0 m5 p' (iI (-1)) (D ++ lnC D.length ([], t))
      have et : lnC D.length ([], t) = cls t ++ [(59, 0)] := if_pos rfl
      rw [et, ← List.append_assoc]
      exact d2
/-- what is told at the end -/
def End8 (b : Nat → Nat) (l q : Nat) (m0 m : Mm) (v : Int32) (r : Nat × Option (List Lin)) : Prop := ∃ m', m = pI m' 16 1 (iI 0) ∧ match r.2 with
  | some T => v = iI (-1) ∧ ∃ p, P8 q m0 m' p (iI (-1)) (lay T)
  | none => v = kI r.1 ∧ r.1 ≤ l ∧ FrC (CLw q) m0 m'
theorem read8_loop (H : H8 b l q m0) : ∀ M p T n f (m : Mm), l - p < M → l - p + 1 < f → p ≤ l → n ≤ p → P8 q m0 m p (iI (-1)) (lay T) → (lay T).length ≤ p → Wp (bnd (F_X6_line m) fun _ m7 => F_X6_read_23 f (kI n) m7) fun v m' => End8 b l q m0 m' v (txtR (cch b l) l M p T) := by
  have hl := H.1
  intro M
  induction M with
  | zero => exact fun p T n f m h => absurd h (by omega)
  | succ M ih =>
    intro p T n f m hM hf hp hn h hD
    obtain ⟨f, rfl⟩ : ∃ x, f = x + 1 := ⟨f - 1, by omega⟩
    have g := lin_gr (b := b) hl hp
    obtain ⟨_, m7, a1, a2⟩ := line8 H hp h hD
    rw [bnd_eq a1]
    unfold txtR
    generalize linR (cch b l) p = r at g a2
    obtain ⟨p', o⟩ := r
    cases o with
    | none =>
      have a2 : Q8 b l q m0 m7 p' := a2
      have cq := comes8_q (c := 59) H a2 (by omega)
      have cq : F_X6_comes (iI 59) m7 = some (kI 0, m7) := cq
      obtain ⟨s1, -, -, -⟩ := h8_tape H a2.1
      obtain ⟨m9, b1, b2, b3⟩ := fail8q H a2
      have hn2 : n ≤ 120 := by omega
      have e48 : F_X6_read_48 m7 = if (gI m7 16 1) ≤ (gI m7 16 2) then F_X6_read_63 m7 else F_X6_read_63 m9 := by
        unfold F_X6_read_48
        rw [bnd_eq b1]
      have e23 : F_X6_read_23 (f + 1) (kI n) m7 = F_X6_read_48 m7 := by
        rw [F_X6_read_23, bnd_eq cq, if_pos k0_eq0]
        simp only [ite_self]
      have e63 : ∀ m, gI m 16 3 = kI p' → F_X6_read_63 m = some (kI p', pI m 16 1 (iI 0)) := fun m w => by
        unfold F_X6_read_63
        rw [nm_eq, gI_pI, if_neg (by omega), w]
      rw [e23, e48]
      rcases a2.2.2.1 with w | ⟨w1, w2, w3⟩
      · by_cases y : (gI m7 16 1) ≤ (gI m7 16 2)
        · rw [if_pos y, e63 m7 w]
          exact ⟨_, _, rfl, m7, rfl, rfl, a2.2.1, a2.1⟩
        · rw [if_neg y, e63 m9 b3]
          exact ⟨_, _, rfl, m9, rfl, rfl, a2.2.1, b2.1⟩
      · have w4 := isD_lt w3
        rw [s1, w2, if_neg (by rw [kI_le (by omega) (by omega)]; omega), e63 m9 b3]
        exact ⟨_, _, rfl, m9, rfl, rfl, a2.2.1, b2.1⟩
    | some ln =>
      have g : p < p' ∧ p' ≤ l ∧ (ln.1 = [] → p + ln.2.length ≤ p') ∧ (ln.1 ≠ [] → p + ln.1.length + 1 + ln.2.length ≤ p') ∧ 1 ≤ ln.2.length := g
      have a2 : P8 q m0 m7 p' (iI (-1)) (lay T ++ lnC (lay T).length ln) := a2
      rw [← lay_app] at a2
      have hlen : (lay (T ++ [ln])).length ≤ p' + 1 := by
        rw [lay_app, List.length_append, lnC_len]
        by_cases w : ln.1 = []
        · rw [if_pos w]
          have := g.2.2.1 w
          omega
        · rw [if_neg w]
          have := g.2.2.2.1 w
          omega
      obtain ⟨s1, -, -, -⟩ := h8_tape H a2.1
      show Wp _ fun v m' => End8 b l q m0 m' v (if cch b l p' = 59 then txtR (cch b l) l M (p' + 1) (T ++ [ln]) else if p' < l then (p', none) else (p', some (T ++ [ln])))
      by_cases z : cch b l p' = 59
      · have zl := cch_lt (b := b) (l := l) (p := p') (by omega)
        have cy := comes8_yes H g.2.1 a2 z (by omega)
        have cy : F_X6_comes (iI 59) m7 = some (kI 1, pI m7 16 2 (gI m7 16 2 + iI 1)) := cy
        have i1 := ih (p' + 1) (T ++ [ln]) (n + 1) f (pI m7 16 2 (gI m7 16 2 + iI 1)) (by omega) (by omega) (by omega) (by omega) (adv8 H a2) hlen
        rw [if_pos z, F_X6_read_23, if_neg (by rw [iI_lit, kI_le (by omega) (by omega)]; omega), bnd_eq cy, if_neg k1_ne0]
        have e : ∀ m4, (nm (kI n + iI 1) fun v5 => F_X6_read_23 f v5 m4) = F_X6_read_23 f (kI (n + 1)) m4 := fun m4 => by rw [nm_eq, kI_a1]
        simp only [e]
        exact i1
      · have cn := comes8_no H g.2.1 a2 z (by omega)
        have cn : F_X6_comes (iI 59) m7 = some (kI 0, m7) := cn
        rw [if_neg z, F_X6_read_23, if_neg (by rw [iI_lit, kI_le (by omega) (by omega)]; omega), bnd_eq cn, if_pos k0_eq0]
        unfold F_X6_read_48
        rw [s1, a2.2.1]
        by_cases y : p' < l
        · obtain ⟨m9, b1, b2⟩ := fail8 H g.2.1 a2 (by omega)
          obtain ⟨m10, -, -, b3⟩ := fail8q H b2
          have b4 : gI m9 16 3 = kI p' := by
            have e : F_X6_fail m7 = some ((), pI m7 16 3 (kI p')) := by
              unfold F_X6_fail
              rw [a2.2.2.1, if_pos rfl, nm_eq, a2.2.1]
            rw [e] at b1
            cases b1
            rw [gI_pI, if_pos ⟨rfl, rfl⟩]
          rw [if_pos y, if_neg (by rw [kI_le (by omega) (by omega)]; omega), bnd_eq b1]
          unfold F_X6_read_63
          rw [nm_eq, gI_pI, if_neg (by omega), b4]
          exact ⟨_, _, rfl, m9, rfl, rfl, by show p' ≤ l; omega, b2.1⟩
        · rw [if_neg y, if_pos (by rw [kI_le (by omega) (by omega)]; omega)]
          unfold F_X6_read_63
          rw [nm_eq, gI_pI, if_neg (by omega), a2.2.2.1]
          exact ⟨_, _, rfl, m7, rfl, rfl, p', a2⟩
theorem read8 (H : H8 b l q m0) : Wp (F_X6_read m0) fun v m' => End8 b l q m0 m' v (txtR (cch b l) l 130 0 []) := by
  have hl := H.1
  have hq := H.2.2.1
  have f2 : FrC (CLw q) m0 (pI (pI m0 16 2 (iI 0)) 16 3 (iI (-1))) := (FrC.put (C := CLw q) FrC.refl (Or.inl ⟨rfl, Or.inl rfl⟩)).put (Or.inl ⟨rfl, Or.inr rfl⟩)
  obtain ⟨t1, t2, t3, t4⟩ := h8_tape H f2
  have h : P8 q m0 (pI (pI (pI (pI m0 16 2 (iI 0)) 16 3 (iI (-1))) q 2 (iI 0)) q 3 (iI (-1))) 0 (iI (-1)) (lay []) := by
    refine ⟨(f2.put (Or.inr (Or.inl ⟨rfl, Or.inl rfl⟩))).put (Or.inr (Or.inl ⟨rfl, Or.inr rfl⟩)), ?_, ?_, ?_, ?_, fun i hi => absurd hi (Nat.not_lt_zero i)⟩
    · rw [gI_pI, if_neg (by omega), gI_pI, if_neg (by omega), gI_pI, if_neg (by omega), gI_pI, if_pos ⟨rfl, rfl⟩]; rfl
    · rw [gI_pI, if_neg (by omega), gI_pI, if_neg (by omega), gI_pI, if_pos ⟨rfl, rfl⟩]
    · rw [gI_pI, if_neg (by omega), gI_pI, if_pos ⟨rfl, rfl⟩]; rfl
    · rw [gI_pI, if_pos ⟨rfl, rfl⟩]
  have i1 := read8_loop H 130 0 [] 0 FU _ (by omega) (by unfold FU; omega) (by omega) (by omega) h (Nat.le_refl _)
  unfold F_X6_read
  rw [nm_eq, nm_eq, t3, gdS_yes t4]
  unfold F_X3_clear
  rw [if_pos t4, nm_eq, nm_eq, bnd_some]
  exact i1
end T8C
