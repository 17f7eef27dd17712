/-! LINES AND ALL, READ BY THE REFERENCE -/
def flat (T : List Lin) : List Ins := T.foldl (fun D ln => D ++ ln.1 ++ ln.2) []
theorem flat_app {T : List Lin} {ln : Lin} : flat (T ++ [ln]) = flat T ++ ln.1 ++ ln.2 := by
  unfold flat
  rw [List.foldl_append]
  rfl
def lnAt (T : List Lin) (i : Nat) : Lin := T.getD i ([], [])
theorem lnAt_app {T : List Lin} {ln : Lin} {i : Nat} (h : i < T.length + 1) : lnAt (T ++ [ln]) i = if i = T.length then ln else lnAt T i := by
  unfold lnAt
  rw [List.getD_eq_getElem?_getD, List.getD_eq_getElem?_getD]
  by_cases z : i = T.length
  · rw [if_pos z, z, List.getElem?_concat_length]
    rfl
  · rw [if_neg z, List.getElem?_append_left (by omega)]
theorem take_app {T : List Lin} {ln : Lin} {i : Nat} (h : i ≤ T.length) : (T ++ [ln]).take i = T.take i := List.take_append_of_le_length h
/-- where lines end, in the new place (x is 1) or in the place of the law (0) -/
def LnI (x : Nat) (T : List Lin) (m : Mm) : Prop := gI m 132 x = kI T.length ∧ ∀ i, i < T.length → gI m 133 (61 * x + i) = kI ((flat (T.take i)).length + (lnAt T i).1.length) ∧ gI m 134 (61 * x + i) = kI ((flat (T.take i)).length + (lnAt T i).1.length + (lnAt T i).2.length)
def Stp9 (x : Nat) (D : List Ins) (m : Mm) : Prop := ∀ i, i < D.length → gI m 130 (130 * x + i) = kI (D.getD i (0, 0)).1 ∧ gI m 131 (130 * x + i) = kI (D.getD i (0, 0)).2
def CW9 (a j : Nat) : Prop := CE9 a j ∨ (a = 132 ∧ j = 1) ∨ ((a = 133 ∨ a = 134) ∧ 61 ≤ j)
def W9 (m0 m : Mm) (p : Nat) (T : List Lin) : Prop := FrC CW9 m0 m ∧ gI m 113 28 = kI p ∧ gI m 113 29 = iI (-1) ∧ gI m 113 30 = kI 0 ∧ gI m 113 31 = kI (flat T).length ∧ Stp9 1 (flat T) m ∧ LnI 1 T m
def WQ9 (l : Nat) (m0 m : Mm) (f : Nat) : Prop := FrC CW9 m0 m ∧ gI m 113 29 = kI f ∧ f ≤ l
theorem nS_k {n : Nat} (h : n < 1000) : nS ((kI n).toInt16.toInt32) = kI n := (by decide +kernel : ∀ n, n < 1000 → nS ((kI n).toInt16.toInt32) = kI n) n h
section T9C
variable {b : Nat → Nat} {l : Nat} {m0 : Mm}
theorem H9.to {m : Mm} (H : H9 b l m0) (h : FrC CW9 m0 m) : H9 b l m := by
  obtain ⟨h1, h2, h3, h4⟩ := H
  refine ⟨h1, h2, ?_, fun i hi => ?_⟩
  · rw [h.1 113 27 (by unfold CW9 CE9; omega)]; exact h3
  · rw [h.1 129 i (by unfold CW9 CE9; omega)]; exact h4 i hi
theorem CE9.w {a j : Nat} (h : CE9 a j) : CW9 a j := Or.inl h
theorem stp_P9 {m1 m : Mm} {p op : Nat} {D : List Ins} (h : P9 m1 m p op D) : Stp9 1 D m := fun i hi => h.2.2.2.2.2 i hi
theorem ln_fr {C : Nat → Nat → Prop} {x : Nat} {T : List Lin} {m m1 : Mm} (h : LnI x T m) (hf : FrC C m m1) (hs : ∀ a j, C a j → ¬ ((a = 132 ∧ j = x) ∨ ((a = 133 ∨ a = 134) ∧ 61 * x ≤ j ∧ j < 61 * x + T.length))) : LnI x T m1 := by
  refine ⟨by rw [hf.1 132 x (fun z => hs _ _ z (by omega))]; exact h.1, fun i hi => ?_⟩
  rw [hf.1 133 _ (fun z => hs _ _ z (by omega)), hf.1 134 _ (fun z => hs _ _ z (by omega))]
  exact h.2 i hi
/-- the last steps of a line -/
theorem ln66 {m : Mm} {K n : Nat} (hK : gI m 132 1 = kI K) (hK2 : K ≤ 60) (hn : gI m 113 31 = kI n) (hn2 : n < 1000) : F_X9_line_66 (kI (61 + K)) m = some ((), pI (pI m 134 (61 + K) (kI n)) 132 1 (kI (K + 1))) := by
  unfold F_X9_line_66
  rw [hn, nS_k hn2, wrI_kI (by omega) (by omega), iI_lit, rd_kI (by omega) (by omega), wrI_kI (by omega) (by omega), gI_pI, if_neg (by omega), hK, kI_add]
theorem line9 {m : Mm} {p : Nat} {T : List Lin} (H : H9 b l m0) (hp : p ≤ l) (h : W9 m0 m p T) (hD : (flat T).length ≤ p) (hT : 2 * T.length ≤ p) : Wp (F_X9_line m) fun _ m' => match (linR (cch b l) p).2 with
    | some ln => W9 m0 m' (linR (cch b l) p).1 (T ++ [ln])
    | none => WQ9 l m0 m' (linR (cch b l) p).1 := by
  have hl := H.1
  obtain ⟨h1, h2, h3, h4, h5, h6, h7⟩ := h
  have hK := h7.1
  have e61 : (iI 61) + kI T.length = kI (61 + T.length) := by rw [iI_lit, kI_add]
  have fa : FrC CW9 m (pI m 133 (61 + T.length) (kI (flat T).length)) := FrC.refl.put (Or.inr (Or.inr ⟨Or.inl rfl, by omega⟩))
  have st : F_X9_line m = bnd (F_X9_either (pI m 133 (61 + T.length) (kI (flat T).length))) fun _ m5 => (if iI 0 ≤ (gI m5 113 29) then F_X9_line_66 (kI (61 + T.length)) m5 else bnd (F_X9_look m5) fun v6 m7 => (if v6 = (iI 63) then (nm (pI m7 113 28 ((gI m7 113 28) + (iI 1))) fun m8 => wrI 122 m8 133 (kI (61 + T.length)) (nS ((gI m8 113 31).toInt16.toInt32)) fun m9 => bnd (F_X9_either m9) fun _ m11 => F_X9_line_66 (kI (61 + T.length)) m11) else F_X9_line_66 (kI (61 + T.length)) m7)) := by
    unfold F_X9_line
    have r1 : ∀ (G : Nat → Option (Unit × Mm)), rd 2 (iI 1) G = G 1 := fun G => rd_kI (n := 2) (k := 1) (by omega) (by omega) G
    rw [r1, hK, nm_eq, e61, h5, nS_k (by omega), wrI_kI (by omega) (by omega)]
  rw [st]
  have hP1 : P9 (pI m 133 (61 + T.length) (kI (flat T).length)) (pI m 133 (61 + T.length) (kI (flat T).length)) p 0 (flat T) := by
    refine ⟨FrC.refl, ?_, ?_, ?_, ?_, fun i hi => ?_⟩
    · rw [gI_pI, if_neg (by omega)]; exact h2
    · rw [gI_pI, if_neg (by omega)]; exact h3
    · rw [gI_pI, if_neg (by omega)]; exact h4
    · rw [gI_pI, if_neg (by omega)]; exact h5
    · rw [gI_pI, if_neg (by omega), gI_pI, if_neg (by omega)]; exact h6 i hi
  have e133 : gI (pI m 133 (61 + T.length) (kI (flat T).length)) 133 (61 + T.length) = kI (flat T).length := by rw [gI_pI, if_pos ⟨rfl, rfl⟩]
  have h7a : LnI 1 T (pI m 133 (61 + T.length) (kI (flat T).length)) := by
    refine ⟨by rw [gI_pI, if_neg (by omega)]; exact hK, fun i hi => ?_⟩
    rw [gI_pI, if_neg (by omega), gI_pI, if_neg (by omega)]
    exact h7.2 i hi
  have hm1 := h1.trans fa
  generalize pI m 133 (61 + T.length) (kI (flat T).length) = m1 at hP1 hm1 e133 h7a
  have H1 := H.to hm1
  have g := eit_gr (b := b) hl (opr_gr (b := b) hl 6) p hp
  obtain ⟨_, m5, a1, a2⟩ := either9 H1 p hp m1 (flat T) hP1 hD
  unfold linR
  rw [bnd_eq a1]
  have fin : ∀ (m : Mm) (n f : Nat), FrC CW9 m0 m → gI m 113 29 = kI f → f ≤ l → gI m 113 31 = kI n → n < 1000 → gI m 132 1 = kI T.length → Wp (F_X9_line_66 (kI (61 + T.length)) m) fun _ m' => WQ9 l m0 m' f := by
    intro m n f q1 q2 q3 q4 q5 q6
    rw [ln66 q6 (by omega) q4 q5]
    refine ⟨(), _, rfl, (q1.put (Or.inr (Or.inr ⟨Or.inr rfl, by omega⟩))).put (Or.inr (Or.inl ⟨rfl, rfl⟩)), ?_, q3⟩
    rw [gI_pI, if_neg (by omega), gI_pI, if_neg (by omega)]
    exact q2
  generalize eitR (cch b l) (oprR (cch b l) 6) p = r at g a2
  obtain ⟨p', o⟩ := r
  cases o with
  | none =>
    have a2 : ∃ n h, Q9 l m1 m5 p' n h ∧ n + p ≤ (flat T).length + h + 1 := a2
    obtain ⟨n, hh, a3, a4⟩ := a2
    have a5 := a3.2.2.2.2.1
    have a6 := a3.2.2.1
    rw [a3.2.1, if_pos (k_0le (by omega))]
    exact fin m5 n p' (hm1.trans (a3.1.mono fun a j q => q.w)) a3.2.1 a6 a3.2.2.2.2.2 (by omega) (by rw [a3.1.1 132 1 (by unfold CE9; omega)]; exact h7a.1)
  | some t =>
    have g : p < p' ∧ p' ≤ l ∧ p + t.length ≤ p' ∧ 1 ≤ t.length := g
    have a2 : P9 m1 m5 p' 0 (flat T ++ t) := a2
    have hle := cch_le9 H p'
    have hm5 := hm1.trans (a2.1.mono fun a j q => q.w)
    have hdl : (flat T ++ t).length = (flat T).length + t.length := List.length_append
    rw [a2.2.2.1, if_neg m1_0le, bnd_eq (lk9 H1 g.2.1 a2)]
    show Wp _ fun _ m' => match (if cch b l p' = 63 then match eitR (cch b l) (oprR (cch b l) 6) (p' + 1) with
      | (p2, none) => (p2, none)
      | (p2, some t2) => (p2, some (t, t2))
    else (p', some ([], t))).2 with
      | some ln => W9 m0 m' (if cch b l p' = 63 then match eitR (cch b l) (oprR (cch b l) 6) (p' + 1) with
      | (p2, none) => (p2, none)
      | (p2, some t2) => (p2, some (t, t2))
    else (p', some ([], t))).1 (T ++ [ln])
      | none => WQ9 l m0 m' (if cch b l p' = 63 then match eitR (cch b l) (oprR (cch b l) 6) (p' + 1) with
      | (p2, none) => (p2, none)
      | (p2, some t2) => (p2, some (t, t2))
    else (p', some ([], t))).1
    -- a line is done
    have done : ∀ (m : Mm) (p2 te : Nat) (t1 t2 : List Ins), FrC CW9 m0 m → gI m 113 28 = kI p2 → gI m 113 29 = iI (-1) → gI m 113 30 = kI 0 → gI m 113 31 = kI (flat T ++ t1 ++ t2).length → Stp9 1 (flat T ++ t1 ++ t2) m → LnI 1 T m → gI m 133 (61 + T.length) = kI ((flat T).length + t1.length) → (flat T ++ t1 ++ t2).length < 1000 → Wp (F_X9_line_66 (kI (61 + T.length)) m) fun _ m' => W9 m0 m' p2 (T ++ [(t1, t2)]) := by
      intro m p2 te t1 t2 q1 q2 q3 q4 q5 q6 q7 q8 q9
      rw [ln66 q7.1 (by omega) q5 q9]
      refine ⟨(), _, rfl, (q1.put (Or.inr (Or.inr ⟨Or.inr rfl, by omega⟩))).put (Or.inr (Or.inl ⟨rfl, rfl⟩)), ?_, ?_, ?_, ?_, fun i hi => ?_, ?_, fun i hi => ?_⟩
      · rw [gI_pI, if_neg (by omega), gI_pI, if_neg (by omega)]; exact q2
      · rw [gI_pI, if_neg (by omega), gI_pI, if_neg (by omega)]; exact q3
      · rw [gI_pI, if_neg (by omega), gI_pI, if_neg (by omega)]; exact q4
      · rw [gI_pI, if_neg (by omega), gI_pI, if_neg (by omega), flat_app]; exact q5
      · rw [flat_app] at hi ⊢
        rw [gI_pI, if_neg (by omega), gI_pI, if_neg (by omega), gI_pI, if_neg (by omega), gI_pI, if_neg (by omega)]
        exact q6 i hi
      · rw [gI_pI, if_pos ⟨rfl, rfl⟩, List.length_append]; rfl
      · rw [List.length_append] at hi
        have hi : i < T.length + 1 := hi
        rw [lnAt_app hi, take_app (by omega)]
        by_cases z : i = T.length
        · rw [if_pos z, z, List.take_length]
          refine ⟨?_, ?_⟩
          · rw [gI_pI, if_neg (by omega), gI_pI, if_neg (by omega)]; exact q8
          · rw [gI_pI, if_neg (by omega), gI_pI, if_pos ⟨rfl, by omega⟩, List.length_append, List.length_append]
        · rw [if_neg z, gI_pI, if_neg (by omega), gI_pI, if_neg (by omega), gI_pI, if_neg (by omega), gI_pI, if_neg (by omega)]
          exact q7.2 i (by omega)
    by_cases z : cch b l p' = 63
    · have zl := cch_lt (b := b) (l := l) (p := p') (by omega)
      have a3 := adv9 a2
      rw [if_pos z, if_pos (show rI9 (cch b l p') = iI 63 from (rI9_eq (k := 63) hle (by omega)).mpr z), nm_eq]
      generalize pI m5 113 28 ((gI m5 113 28) + (iI 1)) = m8 at a3
      have hm8 := hm1.trans (a3.1.mono fun a j q => q.w)
      have f9 : FrC CW9 m8 (pI m8 133 (61 + T.length) (kI (flat T ++ t).length)) := FrC.refl.put (Or.inr (Or.inr ⟨Or.inl rfl, by omega⟩))
      have hm9 := hm8.trans f9
      have hP9 : P9 (pI m8 133 (61 + T.length) (kI (flat T ++ t).length)) (pI m8 133 (61 + T.length) (kI (flat T ++ t).length)) (p' + 1) 0 (flat T ++ t) := by
        obtain ⟨k1, k2, k3, k4, k5, k6⟩ := a3
        refine ⟨FrC.refl, ?_, ?_, ?_, ?_, fun i hi => ?_⟩
        · rw [gI_pI, if_neg (by omega)]; exact k2
        · rw [gI_pI, if_neg (by omega)]; exact k3
        · rw [gI_pI, if_neg (by omega)]; exact k4
        · rw [gI_pI, if_neg (by omega)]; exact k5
        · rw [gI_pI, if_neg (by omega), gI_pI, if_neg (by omega)]; exact k6 i hi
      have e133b : gI (pI m8 133 (61 + T.length) (kI (flat T ++ t).length)) 133 (61 + T.length) = kI (flat T ++ t).length := by rw [gI_pI, if_pos ⟨rfl, rfl⟩]
      have h7b : LnI 1 T (pI m8 133 (61 + T.length) (kI (flat T ++ t).length)) := by
        have h7c : LnI 1 T m8 := ln_fr h7a a3.1 (fun a j q => by unfold CE9 at q; omega)
        refine ⟨by rw [gI_pI, if_neg (by omega)]; exact h7c.1, fun i hi => ?_⟩
        rw [gI_pI, if_neg (by omega), gI_pI, if_neg (by omega)]
        exact h7c.2 i hi
      rw [a3.2.2.2.2.1, nS_k (by omega), wrI_kI (by omega) (by omega)]
      generalize pI m8 133 (61 + T.length) (kI (flat T ++ t).length) = m9 at hm9 hP9 e133b h7b
      have H9' := H.to hm9
      have g2 := eit_gr (b := b) hl (opr_gr (b := b) hl 6) (p' + 1) (by omega)
      obtain ⟨_, m11, c1, c2⟩ := either9 H9' (p' + 1) (by omega) m9 (flat T ++ t) hP9 (by omega)
      rw [bnd_eq c1]
      generalize eitR (cch b l) (oprR (cch b l) 6) (p' + 1) = r2 at g2 c2
      obtain ⟨p2, o2⟩ := r2
      cases o2 with
      | none =>
        have c2 : ∃ n h, Q9 l m9 m11 p2 n h ∧ n + (p' + 1) ≤ (flat T ++ t).length + h + 1 := c2
        obtain ⟨n, hh, c3, c4⟩ := c2
        have c5 := c3.2.2.2.2.1
        exact fin m11 n p2 (hm9.trans (c3.1.mono fun a j q => q.w)) c3.2.1 c3.2.2.1 c3.2.2.2.2.2 (by omega) (by rw [c3.1.1 132 1 (by unfold CE9; omega)]; exact h7b.1)
      | some t2 =>
        have g2 : p' + 1 < p2 ∧ p2 ≤ l ∧ p' + 1 + t2.length ≤ p2 ∧ 1 ≤ t2.length := g2
        have c2 : P9 m9 m11 p2 0 (flat T ++ t ++ t2) := c2
        exact done m11 p2 0 t t2 (hm9.trans (c2.1.mono fun a j q => q.w)) c2.2.1 c2.2.2.1 c2.2.2.2.1 c2.2.2.2.2.1 (stp_P9 c2) (ln_fr h7b c2.1 (fun a j q => by unfold CE9 at q; omega)) (by rw [c2.1.1 133 _ (by unfold CE9; omega), e133b, hdl]) (by rw [List.length_append]; omega)
    · rw [if_neg z, if_neg (show ¬ rI9 (cch b l p') = iI 63 from fun w => z ((rI9_eq (k := 63) hle (by omega)).mp w))]
      exact done m5 p' 0 [] t hm5 a2.2.1 a2.2.2.1 a2.2.2.2.1 (by rw [List.append_nil]; exact a2.2.2.2.2.1) (by rw [List.append_nil]; exact stp_P9 a2) (ln_fr h7a a2.1 (fun a j q => by unfold CE9 at q; omega)) (by rw [a2.1.1 133 _ (by unfold CE9; omega), e133]; rfl) (by rw [List.append_nil]; omega)
theorem read9_loop (H : H9 b l m0) (x : Int32) : ∀ M p T f (m : Mm), l - p < M → l - p + 1 < f → p ≤ l → W9 m0 m p T → (flat T).length ≤ p → 2 * T.length ≤ p → ∃ m', FrC CW9 m0 m' ∧ (match (txtR (cch b l) l M p T).2 with
    | some T' => (bnd (F_X9_line m) fun _ m7 => F_X9_readText_31 f x m7) = F_X9_readText_105 FU x (iI 0) (pI m' 113 27 (iI 0)) ∧ (∃ p', W9 m0 m' p' T' ∧ p' ≤ l ∧ (flat T').length ≤ p' ∧ 2 * T'.length ≤ p' + 1)
    | none => (bnd (F_X9_line m) fun _ m7 => F_X9_readText_31 f x m7) = some (kI (txtR (cch b l) l M p T).1, pI m' 113 27 (iI 0)) ∧ (txtR (cch b l) l M p T).1 ≤ l) := by
  have hl := H.1
  intro M
  induction M with
  | zero => exact fun p T f m h => absurd h (by omega)
  | succ M ih =>
    intro p T f m hM hf hp h hD hT
    obtain ⟨f, rfl⟩ : ∃ g, f = g + 1 := ⟨f - 1, by omega⟩
    have g := lin_gr (b := b) hl hp
    obtain ⟨_, m7, a1, a2⟩ := line9 H hp h hD hT
    have e86q : ∀ (m : Mm) (k : Nat), gI m 113 29 = kI k → k ≤ l → F_X9_readText_86 x m = some (kI k, pI m 113 27 (iI 0)) := fun m k q1 q2 => by
      have e29 : gI (pI m 113 27 (iI 0)) 113 29 = gI m 113 29 := by rw [gI_pI, if_neg (by omega)]
      unfold F_X9_readText_86
      rw [nm_eq, e29, q1, if_neg (by rw [iI_lit, kI_lt (by omega) (by omega)]; omega)]
    unfold txtR
    rw [bnd_eq a1]
    generalize linR (cch b l) p = r at g a2
    obtain ⟨p', o⟩ := r
    cases o with
    | none =>
      have a2 : WQ9 l m0 m7 p' := a2
      refine ⟨m7, a2.1, ?_, a2.2.2⟩
      have a3 := a2.2.2
      rw [F_X9_readText_31, a2.2.1, if_pos (k_0le (by omega))]
      unfold F_X9_readText_64
      rw [a2.2.1, if_pos (k_0le (by omega)), e86q m7 p' a2.2.1 a3]
    | some ln =>
      have g : p < p' ∧ p' ≤ l ∧ (ln.1 = [] → p + ln.2.length ≤ p') ∧ (ln.1 ≠ [] → p + ln.1.length + 1 + ln.2.length ≤ p') ∧ 1 ≤ ln.2.length := g
      have a2 : W9 m0 m7 p' (T ++ [ln]) := a2
      have hle := cch_le9 H p'
      have hlen : (flat (T ++ [ln])).length ≤ p' := by
        rw [flat_app, List.length_append, List.length_append]
        by_cases w : ln.1 = []
        · have := g.2.2.1 w
          rw [w]
          show (flat T).length + 0 + ln.2.length ≤ p'
          omega
        · have := g.2.2.2.1 w
          omega
      have hlines : 2 * (T ++ [ln]).length ≤ p' + 1 := by
        rw [List.length_append]
        show 2 * (T.length + 1) ≤ p' + 1
        omega
      have hlk : F_X9_look m7 = some (rI9 (cch b l p'), m7) := by
        have t1 : gI m7 113 27 = kI l := by rw [a2.1.1 113 27 (by unfold CW9 CE9; omega)]; exact H.2.2.1
        exact lkq9 (H.to a2.1) g.2.1 FrC.refl a2.2.1
      have t1 : gI m7 113 27 = kI l := by rw [a2.1.1 113 27 (by unfold CW9 CE9; omega)]; exact H.2.2.1
      show ∃ m', FrC CW9 m0 m' ∧ (match (if cch b l p' = 59 then txtR (cch b l) l M (p' + 1) (T ++ [ln]) else if p' < l then (p', none) else (p', some (T ++ [ln]))).2 with
        | some T' => F_X9_readText_31 (f + 1) x m7 = F_X9_readText_105 FU x (iI 0) (pI m' 113 27 (iI 0)) ∧ (∃ p', W9 m0 m' p' T' ∧ p' ≤ l ∧ (flat T').length ≤ p' ∧ 2 * T'.length ≤ p' + 1)
        | none => F_X9_readText_31 (f + 1) x m7 = some (kI (if cch b l p' = 59 then txtR (cch b l) l M (p' + 1) (T ++ [ln]) else if p' < l then (p', none) else (p', some (T ++ [ln]))).1, pI m' 113 27 (iI 0)) ∧ (if cch b l p' = 59 then txtR (cch b l) l M (p' + 1) (T ++ [ln]) else if p' < l then (p', none) else (p', some (T ++ [ln]))).1 ≤ l)
      rw [F_X9_readText_31, a2.2.2.1, if_neg m1_0le, bnd_eq hlk]
      by_cases z : cch b l p' = 59
      · have zl := cch_lt (b := b) (l := l) (p := p') (by omega)
        have hW : W9 m0 (pI m7 113 28 ((gI m7 113 28) + (iI 1))) (p' + 1) (T ++ [ln]) := by
          obtain ⟨k1, k2, k3, k4, k5, k6, k7⟩ := a2
          refine ⟨k1.put (Or.inl (Or.inl ⟨rfl, by omega, by omega⟩)), ?_, ?_, ?_, ?_, fun i hi => ?_, ?_, fun i hi => ?_⟩
          · rw [gI_pI, if_pos ⟨rfl, rfl⟩, k2, kI_a1]
          · rw [gI_pI, if_neg (by omega)]; exact k3
          · rw [gI_pI, if_neg (by omega)]; exact k4
          · rw [gI_pI, if_neg (by omega)]; exact k5
          · rw [gI_pI, if_neg (by omega), gI_pI, if_neg (by omega)]; exact k6 i hi
          · rw [gI_pI, if_neg (by omega)]; exact k7.1
          · rw [gI_pI, if_neg (by omega), gI_pI, if_neg (by omega)]; exact k7.2 i hi
        have i1 := ih (p' + 1) (T ++ [ln]) f _ (by omega) (by omega) (by omega) hW (by omega) hlines
        rw [if_pos z, if_pos (show rI9 (cch b l p') = iI 59 from (rI9_eq (k := 59) hle (by omega)).mpr z), nm_eq]
        exact i1
      · rw [if_neg z, if_neg (show ¬ rI9 (cch b l p') = iI 59 from fun w => z ((rI9_eq (k := 59) hle (by omega)).mp w))]
        unfold F_X9_readText_64
        rw [a2.2.2.1, if_neg m1_0le, t1, a2.2.1]
        by_cases y : p' < l
        · have ef : F_X9_faulty m7 = some ((), pI m7 113 29 (kI p')) := by
            unfold F_X9_faulty
            rw [a2.2.2.1, if_neg m1_0le, nm_eq, a2.2.1]
          rw [if_pos y, if_neg (by rw [kI_le (by omega) (by omega)]; omega), bnd_eq ef]
          refine ⟨pI m7 113 29 (kI p'), a2.1.put (Or.inl (Or.inl ⟨rfl, by omega, by omega⟩)), ?_, by show p' ≤ l; omega⟩
          exact e86q _ p' (by rw [gI_pI, if_pos ⟨rfl, rfl⟩]) (by omega)
        · rw [if_neg y, if_pos (by rw [kI_le (by omega) (by omega)]; omega)]
          refine ⟨m7, a2.1, ?_, p', a2, g.2.1, hlen, hlines⟩
          have e29 : gI (pI m7 113 27 (iI 0)) 113 29 = gI m7 113 29 := by rw [gI_pI, if_neg (by omega)]
          unfold F_X9_readText_86
          rw [nm_eq, e29, a2.2.2.1, if_pos (by rw [iI_lt2 (by omega) (by omega)]; omega)]
end T9C
