/-! A LAW IS MADE: BOTH -/
theorem vst_lt {i : Ins} {d e : Nat} (h : vst i d e) : i.1 < 128 := by
  unfold vst Op2 at h; omega
theorem Vd.lt : ∀ {t : List Ins} {d e : Nat}, Vd t d e → ∀ i, i ∈ t → i.1 < 128
  | [], _, _, _, i, hi => absurd hi (List.not_mem_nil)
  | j :: t, d, e, h, i, hi => by
    obtain ⟨d', h1, h2⟩ := h
    rcases List.mem_cons.mp hi with q | q
    · rw [q]; exact vst_lt h1
    · exact Vd.lt h2 i q
theorem flat_memF : ∀ (B : List Lin) (A : List Ins) (i : Ins), i ∈ B.foldl (fun D ln => D ++ ln.1 ++ ln.2) A → i ∈ A ∨ ∃ ln, ln ∈ B ∧ (i ∈ ln.1 ∨ i ∈ ln.2)
  | [], A, i, h => Or.inl h
  | ln :: B, A, i, h => by
    rcases flat_memF B (A ++ ln.1 ++ ln.2) i h with q | ⟨l', q1, q2⟩
    · rcases List.mem_append.mp q with q | q
      · rcases List.mem_append.mp q with q | q
        · exact Or.inl q
        · exact Or.inr ⟨ln, List.mem_cons_self .., Or.inl q⟩
      · exact Or.inr ⟨ln, List.mem_cons_self .., Or.inr q⟩
    · exact Or.inr ⟨l', List.mem_cons_of_mem _ q1, q2⟩
theorem flat_lt {T : List Lin} (h : ∀ ln, ln ∈ T → LV ln) {i : Nat} (hi : i < (flat T).length) : ((flat T).getD i (0, 0)).1 < 128 := by
  have e : (flat T).getD i (0, 0) = (flat T)[i] := by
    rw [List.getD_eq_getElem?_getD, List.getElem?_eq_getElem hi]; rfl
  have m : (flat T)[i] ∈ flat T := List.getElem_mem hi
  rw [e]
  rcases flat_memF T [] _ m with q | ⟨ln, q1, q2⟩
  · exact absurd q (List.not_mem_nil)
  · have := h ln q1
    rcases q2 with q2 | q2
    · rcases this.1 with w | w
      · rw [w] at q2
        exact absurd q2 (List.not_mem_nil)
      · exact w.lt _ q2
    · exact this.2.lt _ q2
theorem nB_128 {k : Nat} (h : k < 128) : nB (kI k) = kI k := (by decide +kernel : ∀ k, k < 128 → nB (kI k) = kI k) k h
theorem nS_1000 {n : Nat} (h : n < 1000) : nS (kI n) = kI n := (by decide +kernel : ∀ n, n < 1000 → nS (kI n) = kI n) n h
/-- the place of the law -/
def LA (a j : Nat) : Prop := ((a = 130 ∨ a = 131) ∧ j < 130) ∨ (a = 132 ∧ j = 0) ∨ ((a = 133 ∨ a = 134) ∧ j < 61)
/-- a line's ends, copied -/
theorem copyLines {T : List Lin} {m : Mm} (h1 : T.length ≤ 60) (hb : (flat T).length ≤ 120) : ∀ c i f (m : Mm), i + c = T.length → c < f → gI m 132 0 = kI T.length → LnI 1 T m → (∀ k, k < i → gI m 133 k = gI m 133 (61 + k) ∧ gI m 134 k = gI m 134 (61 + k)) → ∃ m', F_X9_readText_177 f (iI 0) (kI i) m = some (iI (-1), m') ∧ FrC (fun a j => (a = 133 ∨ a = 134) ∧ j < 61) m m' ∧ ∀ k, k < T.length → gI m' 133 k = gI m' 133 (61 + k) ∧ gI m' 134 k = gI m' 134 (61 + k) := by
  intro c
  induction c with
  | zero =>
    intro i f m hi hf h0 hL hk
    obtain ⟨f, rfl⟩ : ∃ g, f = g + 1 := ⟨f - 1, by omega⟩
    have r0 : ∀ (G : Nat → Option (Int32 × Mm)), rd 2 (iI 0) G = G 0 := fun G => rd_kI (n := 2) (k := 0) (by omega) (by omega) G
    refine ⟨m, ?_, FrC.refl, fun k hk2 => hk k (by omega)⟩
    rw [F_X9_readText_177, r0, h0, if_pos (by rw [kI_le (by omega) (by omega)]; omega)]
  | succ c ih =>
    intro i f m hi hf h0 hL hk
    obtain ⟨f, rfl⟩ : ∃ g, f = g + 1 := ⟨f - 1, by omega⟩
    have r0 : ∀ (G : Nat → Option (Int32 × Mm)), rd 2 (iI 0) G = G 0 := fun G => rd_kI (n := 2) (k := 0) (by omega) (by omega) G
    have e1 : (iI 61) + kI i = kI (61 + i) := by rw [iI_lit, kI_add]
    have e2 : (iI 61) * (iI 0) + kI i = kI i := m61
    obtain ⟨g1, g2⟩ := hL.2 i (by omega)
    rw [show 61 * 1 + i = 61 + i from by omega] at g1 g2
    have hln : (flat (T.take i)).length + (lnAt T i).1.length + (lnAt T i).2.length ≤ 120 := by
      have ha : T = T.take i ++ lnAt T i :: T.drop (i + 1) := by
        have hd : lnAt T i = T[i] := by
          unfold lnAt
          rw [List.getD_eq_getElem?_getD, List.getElem?_eq_getElem (by omega)]; rfl
        rw [hd, List.getElem_cons_drop, List.take_append_drop]
      obtain ⟨X, hX⟩ := flat_mid (A := T.take i) (B := T.drop (i + 1)) (ln := lnAt T i)
      rw [← ha] at hX
      rw [hX, List.length_append, List.length_append, List.length_append] at hb
      omega
    have f1 : FrC (fun a j => (a = 133 ∨ a = 134) ∧ j < 61) m (pI (pI m 133 i (kI ((flat (T.take i)).length + (lnAt T i).1.length))) 134 i (kI ((flat (T.take i)).length + (lnAt T i).1.length + (lnAt T i).2.length))) := FrC.put (C := fun a j => (a = 133 ∨ a = 134) ∧ j < 61) (FrC.put (C := fun a j => (a = 133 ∨ a = 134) ∧ j < 61) FrC.refl ⟨Or.inl rfl, by omega⟩) ⟨Or.inr rfl, by omega⟩
    have h134 : gI (pI m 133 i (kI ((flat (T.take i)).length + (lnAt T i).1.length))) 134 (61 + i) = kI ((flat (T.take i)).length + (lnAt T i).1.length + (lnAt T i).2.length) := by rw [gI_pI, if_neg (by omega)]; exact g2
    have nw : ∀ k, k < i + 1 → gI (pI (pI m 133 i (kI ((flat (T.take i)).length + (lnAt T i).1.length))) 134 i (kI ((flat (T.take i)).length + (lnAt T i).1.length + (lnAt T i).2.length))) 133 k = gI (pI (pI m 133 i (kI ((flat (T.take i)).length + (lnAt T i).1.length))) 134 i (kI ((flat (T.take i)).length + (lnAt T i).1.length + (lnAt T i).2.length))) 133 (61 + k) ∧ gI (pI (pI m 133 i (kI ((flat (T.take i)).length + (lnAt T i).1.length))) 134 i (kI ((flat (T.take i)).length + (lnAt T i).1.length + (lnAt T i).2.length))) 134 k = gI (pI (pI m 133 i (kI ((flat (T.take i)).length + (lnAt T i).1.length))) 134 i (kI ((flat (T.take i)).length + (lnAt T i).1.length + (lnAt T i).2.length))) 134 (61 + k) := fun k hk2 => by
      by_cases z : k = i
      · subst z
        refine ⟨?_, ?_⟩
        · rw [gI_pI, if_neg (by omega), gI_pI, if_pos ⟨rfl, rfl⟩, gI_pI, if_neg (by omega), gI_pI, if_neg (by omega)]; exact g1.symm
        · rw [gI_pI, if_pos ⟨rfl, rfl⟩, gI_pI, if_neg (by omega), gI_pI, if_neg (by omega)]; exact g2.symm
      · obtain ⟨q1, q2⟩ := hk k (by omega)
        refine ⟨?_, ?_⟩
        · rw [gI_pI, if_neg (by omega), gI_pI, if_neg (by omega), gI_pI, if_neg (by omega), gI_pI, if_neg (by omega)]; exact q1
        · rw [gI_pI, if_neg (by omega), gI_pI, if_neg (by omega), gI_pI, if_neg (by omega), gI_pI, if_neg (by omega)]; exact q2
    have st : F_X9_readText_177 (f + 1) (iI 0) (kI i) m = F_X9_readText_177 f (iI 0) (kI (i + 1)) (pI (pI m 133 i (kI ((flat (T.take i)).length + (lnAt T i).1.length))) 134 i (kI ((flat (T.take i)).length + (lnAt T i).1.length + (lnAt T i).2.length))) := by
      rw [F_X9_readText_177, r0, h0, if_neg (by rw [kI_le (by omega) (by omega)]; omega), e1, e2, rd_kI (by omega) (by omega), g1, nS_1000 (by omega), wrI_kI (by omega) (by omega), rd_kI (by omega) (by omega), h134, nS_1000 (by omega), wrI_kI (by omega) (by omega), kI_a1, nm_eq]
    rw [st]
    generalize pI (pI m 133 i (kI ((flat (T.take i)).length + (lnAt T i).1.length))) 134 i (kI ((flat (T.take i)).length + (lnAt T i).1.length + (lnAt T i).2.length)) = m1 at f1 nw
    obtain ⟨m2, a1, a2, a3⟩ := ih (i + 1) f m1 (by omega) (by omega) (by rw [f1.1 132 0 (by omega)]; exact h0) (ln_fr hL f1 (fun a j q => by omega)) nw
    exact ⟨m2, a1, f1.trans a2, a3⟩
theorem copySteps {T : List Lin} (h1 : T.length ≤ 60) (hb : (flat T).length ≤ 120) (hT : ∀ ln, ln ∈ T → LV ln) : ∀ c i f (m : Mm), i + c = (flat T).length → c < f → gI m 113 31 = kI (flat T).length → Stp9 1 (flat T) m → LnI 1 T m → (∀ k, k < i → gI m 130 k = kI ((flat T).getD k (0, 0)).1 ∧ gI m 131 k = kI ((flat T).getD k (0, 0)).2) → ∃ m', F_X9_readText_105 f (iI 0) (kI i) m = some (iI (-1), m') ∧ FrC LA m m' ∧ Stp9 0 (flat T) m' ∧ LnI 0 T m' := by
  intro c
  induction c with
  | zero =>
    intro i f m hi hf h0 hS hL hk
    obtain ⟨f, rfl⟩ : ∃ g, f = g + 1 := ⟨f - 1, by omega⟩
    have r1 : ∀ (G : Nat → Option (Int32 × Mm)), rd 2 (iI 1) G = G 1 := fun G => rd_kI (n := 2) (k := 1) (by omega) (by omega) G
    have w0 : ∀ (v : Int32) (G : Mm → Option (Int32 × Mm)), wrI 2 m 132 (iI 0) v G = G (pI m 132 0 v) := fun v G => wrI_kI (n := 2) (k := 0) (by omega) (by omega) m 132 v G
    have f1 : FrC LA m (pI m 132 0 (kI T.length)) := FrC.refl.put (Or.inr (Or.inl ⟨rfl, rfl⟩))
    have f2 : FrC (fun a j => a = 132 ∧ j = 0) m (pI m 132 0 (kI T.length)) := FrC.put (C := fun a j => a = 132 ∧ j = 0) FrC.refl ⟨rfl, rfl⟩
    have hL1 : LnI 1 T (pI m 132 0 (kI T.length)) := ln_fr hL f2 (fun a j q => by omega)
    have hk0 : gI (pI m 132 0 (kI T.length)) 132 0 = kI T.length := by rw [gI_pI, if_pos ⟨rfl, rfl⟩]
    have st : F_X9_readText_105 (f + 1) (iI 0) (kI i) m = F_X9_readText_177 FU (iI 0) (kI 0) (pI m 132 0 (kI T.length)) := by
      rw [F_X9_readText_105, h0, if_pos (by rw [kI_le (by omega) (by omega)]; omega), r1, hL.1, w0]
      rfl
    have hk2 : ∀ k, k < i → gI (pI m 132 0 (kI T.length)) 130 k = kI ((flat T).getD k (0, 0)).1 ∧ gI (pI m 132 0 (kI T.length)) 131 k = kI ((flat T).getD k (0, 0)).2 := fun k q => by
      rw [gI_pI, if_neg (by omega), gI_pI, if_neg (by omega)]
      exact hk k q
    generalize pI m 132 0 (kI T.length) = m1 at st f1 hL1 hk0 hk2
    obtain ⟨m2, a1, a2, a3⟩ := copyLines (m := m1) h1 hb T.length 0 FU m1 (by omega) (by unfold FU; omega) hk0 hL1 (fun k q => absurd q (Nat.not_lt_zero k))
    have hL2 : LnI 1 T m2 := ln_fr hL1 a2 (fun a j q => by omega)
    refine ⟨m2, st.trans a1, f1.trans (a2.mono fun a j q => Or.inr (Or.inr q)), fun k q => ?_, ?_, fun k q => ?_⟩
    · rw [show 130 * 0 + k = k from by omega, a2.1 130 k (by omega), a2.1 131 k (by omega)]
      exact hk2 k (by omega)
    · rw [a2.1 132 0 (by omega)]; exact hk0
    · obtain ⟨g1, g2⟩ := hL2.2 k q
      obtain ⟨g3, g4⟩ := a3 k q
      rw [show 61 * 1 + k = 61 + k from by omega] at g1 g2
      rw [show 61 * 0 + k = k from by omega, g3, g4]
      exact ⟨g1, g2⟩
  | succ c ih =>
    intro i f m hi hf h0 hS hL hk
    obtain ⟨f, rfl⟩ : ∃ g, f = g + 1 := ⟨f - 1, by omega⟩
    have e1 : (iI 130) + kI i = kI (130 + i) := by rw [iI_lit, kI_add]
    have e2 : (iI 130) * (iI 0) + kI i = kI i := m130
    have hlt := flat_lt hT (i := i) (by omega)
    obtain ⟨g1, g2⟩ := hS i (by omega)
    rw [show 130 * 1 + i = 130 + i from by omega] at g1 g2
    have f1 : FrC (fun a j => (a = 130 ∨ a = 131) ∧ j < 130) m (pI (pI m 130 i (kI ((flat T).getD i (0, 0)).1)) 131 i (kI ((flat T).getD i (0, 0)).2)) := FrC.put (C := fun a j => (a = 130 ∨ a = 131) ∧ j < 130) (FrC.put (C := fun a j => (a = 130 ∨ a = 131) ∧ j < 130) FrC.refl ⟨Or.inl rfl, by omega⟩) ⟨Or.inr rfl, by omega⟩
    have h131 : gI (pI m 130 i (kI ((flat T).getD i (0, 0)).1)) 131 (130 + i) = kI ((flat T).getD i (0, 0)).2 := by rw [gI_pI, if_neg (by omega)]; exact g2
    have nw : ∀ k, k < i + 1 → gI (pI (pI m 130 i (kI ((flat T).getD i (0, 0)).1)) 131 i (kI ((flat T).getD i (0, 0)).2)) 130 k = kI ((flat T).getD k (0, 0)).1 ∧ gI (pI (pI m 130 i (kI ((flat T).getD i (0, 0)).1)) 131 i (kI ((flat T).getD i (0, 0)).2)) 131 k = kI ((flat T).getD k (0, 0)).2 := fun k hk2 => by
      by_cases z : k = i
      · subst z
        refine ⟨?_, ?_⟩
        · rw [gI_pI, if_neg (by omega), gI_pI, if_pos ⟨rfl, rfl⟩]
        · rw [gI_pI, if_pos ⟨rfl, rfl⟩]
      · rw [gI_pI, if_neg (by omega), gI_pI, if_neg (by omega), gI_pI, if_neg (by omega), gI_pI, if_neg (by omega)]
        exact hk k (by omega)
    have st : F_X9_readText_105 (f + 1) (iI 0) (kI i) m = F_X9_readText_105 f (iI 0) (kI (i + 1)) (pI (pI m 130 i (kI ((flat T).getD i (0, 0)).1)) 131 i (kI ((flat T).getD i (0, 0)).2)) := by
      rw [F_X9_readText_105, h0, if_neg (by rw [kI_le (by omega) (by omega)]; omega), e1, e2, rd_kI (by omega) (by omega), g1, nB_128 hlt, wrI_kI (by omega) (by omega), rd_kI (by omega) (by omega), h131, wrI_kI (by omega) (by omega), kI_a1, nm_eq]
    rw [st]
    generalize pI (pI m 130 i (kI ((flat T).getD i (0, 0)).1)) 131 i (kI ((flat T).getD i (0, 0)).2) = m1 at f1 nw
    obtain ⟨m2, a1, a2, a3⟩ := ih (i + 1) f m1 (by omega) (by omega) (by rw [f1.1 113 31 (by omega)]; exact h0) (fun k q => by
      rw [f1.1 130 _ (by omega), f1.1 131 _ (by omega)]
      exact hS k q) (ln_fr hL f1 (fun a j q => by omega)) nw
    exact ⟨m2, a1, (f1.mono fun a j q => Or.inl q).trans a2, a3⟩
def CF9 (a j : Nat) : Prop := CW9 a j ∨ (a = 113 ∧ j = 27)
def CT9 (a j : Nat) : Prop := CF9 a j ∨ LA a j
def EndT9 (l : Nat) (m0 m : Mm) (v : Int32) (r : Nat × Option (List Lin)) : Prop := gI m 113 27 = kI 0 ∧ match r.2 with
  | some T => v = iI (-1) ∧ FrC CT9 m0 m ∧ Stp9 0 (flat T) m ∧ LnI 0 T m ∧ (flat T).length ≤ 120 ∧ T.length ≤ 60
  | none => v = kI r.1 ∧ r.1 ≤ l ∧ FrC CF9 m0 m
theorem read9 {b : Nat → Nat} {l : Nat} {m0 : Mm} (H : H9 b l m0) : Wp (F_X9_readText (iI 0) m0) fun v m' => EndT9 l m0 m' v (txtR (cch b l) l 130 0 []) := by
  have hl := H.1
  have w1 : ∀ (m : Mm) (v : Int32) (G : Mm → Option (Int32 × Mm)), wrI 2 m 132 (iI 1) v G = G (pI m 132 1 v) := fun m v G => wrI_kI (n := 2) (k := 1) (by omega) (by omega) m 132 v G
  have st : F_X9_readText (iI 0) m0 = bnd (F_X9_line (pI (pI (pI (pI (pI m0 113 28 (iI 0)) 113 29 (iI (-1))) 113 30 (iI 0)) 113 31 (iI 0)) 132 1 (iI 0))) fun _ m7 => F_X9_readText_31 FU (iI 0) m7 := by
    unfold F_X9_readText
    rw [nm_eq, nm_eq, nm_eq, nm_eq, w1]
  have hW : W9 m0 (pI (pI (pI (pI (pI m0 113 28 (iI 0)) 113 29 (iI (-1))) 113 30 (iI 0)) 113 31 (iI 0)) 132 1 (iI 0)) 0 [] := by
    refine ⟨((((FrC.refl.put (Or.inl (Or.inl ⟨rfl, by omega, by omega⟩))).put (Or.inl (Or.inl ⟨rfl, by omega, by omega⟩))).put (Or.inl (Or.inl ⟨rfl, by omega, by omega⟩))).put (Or.inl (Or.inl ⟨rfl, by omega, by omega⟩))).put (Or.inr (Or.inl ⟨rfl, rfl⟩)), ?_, ?_, ?_, ?_, fun i hi => absurd hi (Nat.not_lt_zero i), ?_, fun i hi => absurd hi (Nat.not_lt_zero i)⟩
    all_goals simp [gI_pI]
    all_goals rfl
  rw [st]
  generalize pI (pI (pI (pI (pI m0 113 28 (iI 0)) 113 29 (iI (-1))) 113 30 (iI 0)) 113 31 (iI 0)) 132 1 (iI 0) = m1 at hW
  have g := txt_vg (C := cch b l) (l := l) 130 0 [] (fun ln q => absurd q (List.not_mem_nil))
  obtain ⟨m2, a1, a2⟩ := read9_loop H (iI 0) 130 0 [] FU m1 (by omega) (by unfold FU; omega) (by omega) hW (Nat.le_refl _) (Nat.le_refl _)
  unfold EndT9
  generalize txtR (cch b l) l 130 0 [] = r at g a2
  obtain ⟨p, o⟩ := r
  have h27 : ∀ m, gI (pI m 113 27 (iI 0)) 113 27 = kI 0 := fun m => by rw [gI_pI, if_pos ⟨rfl, rfl⟩]; rfl
  cases o with
  | none =>
    have a2 : (bnd (F_X9_line m1) fun _ m7 => F_X9_readText_31 FU (iI 0) m7) = some (kI p, pI m2 113 27 (iI 0)) ∧ p ≤ l := a2
    exact ⟨_, _, a2.1, h27 m2, rfl, a2.2, (a1.mono fun a j q => Or.inl q).put (Or.inr ⟨rfl, rfl⟩)⟩
  | some T =>
    have g : ∀ ln, ln ∈ T → LV ln := g
    have a2 : (bnd (F_X9_line m1) fun _ m7 => F_X9_readText_31 FU (iI 0) m7) = F_X9_readText_105 FU (iI 0) (iI 0) (pI m2 113 27 (iI 0)) ∧ (∃ p', W9 m0 m2 p' T ∧ p' ≤ l ∧ (flat T).length ≤ p' ∧ 2 * T.length ≤ p' + 1) := a2
    obtain ⟨b1, p', ⟨c1, c2, c3, c4, c5, c6, c7⟩, b2, b3, b4⟩ := a2
    have f1 : FrC (fun a j => a = 113 ∧ j = 27) m2 (pI m2 113 27 (iI 0)) := FrC.put (C := fun a j => a = 113 ∧ j = 27) FrC.refl ⟨rfl, rfl⟩
    have h3 := h27 m2
    rw [b1]
    generalize pI m2 113 27 (iI 0) = m3 at f1 h3
    obtain ⟨m4, d1, d2, d3, d4⟩ := copySteps (by omega) (by omega) g (flat T).length 0 FU m3 (by omega) (by unfold FU; omega) (by rw [f1.1 113 31 (by omega)]; exact c5) (fun k q => by
      rw [f1.1 130 _ (by omega), f1.1 131 _ (by omega)]
      exact c6 k q) (ln_fr c7 f1 (fun a j q => by omega)) (fun k q => absurd q (Nat.not_lt_zero k))
    refine ⟨_, m4, d1, ?_, rfl, ((a1.mono fun a j q => Or.inl (Or.inl q)).trans (f1.mono fun a j q => Or.inl (Or.inr q))).trans (d2.mono fun a j q => Or.inr q), d3, d4, by omega, by omega⟩
    rw [d2.1 113 27 (by unfold LA; omega)]
    exact h3
