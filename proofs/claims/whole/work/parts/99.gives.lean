/-! A LAW, ASKED OF THE REFERENCE -/
def K9 (a _j : Nat) : Prop := a = 136
def Sk9 (s : Sk) (m : Mm) : Prop := ∀ i, i < s.1 → gI m 136 i = s.2 i
def Cd9 (T : List Lin) (E : Nat → Int32) (m : Mm) : Prop := (flat T).length ≤ 120 ∧ T.length ≤ 60 ∧ Stp9 0 (flat T) m ∧ LnI 0 T m ∧ ∀ k, k < 6 → gI m 135 k = E k
theorem Cd9.fr {T : List Lin} {E : Nat → Int32} {m m1 : Mm} (h : Cd9 T E m) (hf : FrC K9 m m1) : Cd9 T E m1 := by
  obtain ⟨h1, h2, h3, h4, h5⟩ := h
  refine ⟨h1, h2, fun i hi => ?_, ⟨?_, fun i hi => ?_⟩, fun k hk => ?_⟩
  · rw [hf.1 130 _ (by unfold K9; omega), hf.1 131 _ (by unfold K9; omega)]; exact h3 i hi
  · rw [hf.1 132 0 (by unfold K9; omega)]; exact h4.1
  · rw [hf.1 133 _ (by unfold K9; omega), hf.1 134 _ (by unfold K9; omega)]; exact h4.2 i hi
  · rw [hf.1 135 k (by unfold K9; omega)]; exact h5 k hk
theorem Sk9.up {d : Nat} {g : Nat → Int32} {m : Mm} {v : Int32} {j e : Nat} (h : Sk9 (d, g) m) (he : e ≤ d ∨ (j = d ∧ e = d + 1)) : Sk9 (e, upS g j v) (pI m 136 j v) := by
  intro i hi
  have hi : i < e := hi
  show gI (pI m 136 j v) 136 i = if i = j then v else g i
  by_cases z : i = j
  · rw [gI_pI, if_pos ⟨rfl, z⟩, if_pos z]
  · rw [gI_pI, if_neg (fun q => z q.2), if_neg z]
    exact h i (by show i < d; omega)
theorem K9.put {m : Mm} {j : Nat} {v : Int32} : FrC K9 m (pI m 136 j v) := FrC.refl.put rfl
theorem m130 {k : Nat} : (iI 130) * kI 0 + kI k = kI k := by
  rw [iI_lit, kI_mul, kI_add, show 130 * 0 + k = k from by omega]
theorem m61 {k : Nat} : (iI 61) * kI 0 + kI k = kI k := by
  rw [iI_lit, kI_mul, kI_add, show 61 * 0 + k = k from by omega]
section GIV
variable {T : List Lin} {E : Nat → Int32}
theorem step9 {i : Ins} {d d' n e f : Nat} {g : Nat → Int32} {m : Mm} (hC : Cd9 T E m) (hS : Sk9 (d, g) m) (hv : vst i d d') (hd : d ≤ n) (hn : n < e) (he : e ≤ (flat T).length) (hi : (flat T).getD n (0, 0) = i) : ∃ m', F_X9_worked_12 (f + 1) (kI 0) (kI e) (kI d) (kI n) m = F_X9_worked_12 f (kI 0) (kI e) (kI d') (kI (n + 1)) m' ∧ FrC K9 m m' ∧ Sk9 (pst E i (d, g)) m' := by
  obtain ⟨h1, h2, h3, h4, h5⟩ := hC
  obtain ⟨h6, h7⟩ := h3 n (by omega)
  rw [show 130 * 0 + n = n from by omega, hi] at h6 h7
  have e82 : ∀ d m', F_X9_worked_182 (F_X9_worked_12 f) (kI 0) (kI e) (kI d) (kI n) m' = F_X9_worked_12 f (kI 0) (kI e) (kI d) (kI (n + 1)) m' := fun d m' => by
    unfold F_X9_worked_182
    rw [nm_eq, kI_a1]
  rw [F_X9_worked_12, m130, if_neg (by rw [kI_le (by omega) (by omega)]; omega), rd_kI (by omega) (by omega), h6, nm_eq]
  obtain ⟨o, v⟩ := i
  have hv : (o = 1 ∧ d' = d + 1) ∨ (o = 2 ∧ v < 6 ∧ d' = d + 1) ∨ (o = 3 ∧ 1 ≤ d ∧ d' = d) ∨ (o = 4 ∧ 1 ≤ d ∧ d' = d) ∨ (Op2 o ∧ 2 ≤ d ∧ d' = d - 1) := hv
  have h7 : gI m 131 n = kI v := h7
  rcases hv with ⟨hv1, hv2⟩ | ⟨hv1, hv3, hv2⟩ | ⟨hv1, hv3, hv2⟩ | ⟨hv1, hv3, hv2⟩ | ⟨hv1, hv3, hv2⟩
  · subst hv1 hv2
    rw [if_pos (show kI 1 = iI 1 from rfl)]
    unfold F_X9_worked_45 F_X9_worked_79
    rw [if_pos (show kI 1 = iI 1 from rfl), rd_kI (by omega) (by omega), wrI_kI (by omega) (by omega), kI_a1, nm_eq, e82, h7]
    exact ⟨_, rfl, K9.put, hS.up (Or.inr ⟨rfl, rfl⟩)⟩
  · subst hv1 hv2
    rw [if_neg (show ¬ kI 2 = iI 1 from by decide), if_pos (show kI 2 = iI 2 from rfl)]
    unfold F_X9_worked_45 F_X9_worked_79
    rw [if_neg (show ¬ kI 2 = iI 1 from by decide), rd_kI (by omega) (by omega), h7, rd_kI (by omega) (by omega), wrI_kI (by omega) (by omega), kI_a1, nm_eq, e82, h5 v hv3]
    exact ⟨_, rfl, K9.put, hS.up (Or.inr ⟨rfl, rfl⟩)⟩
  · subst hv1 hv2
    have e1 : kI d' - iI 1 = kI (d' - 1) := kI_sub (b := 1) (by omega)
    have e2 : gI m 136 (d' - 1) = g (d' - 1) := hS (d' - 1) (by show d' - 1 < d'; omega)
    rw [if_neg (show ¬ kI 3 = iI 1 from by decide), if_neg (show ¬ kI 3 = iI 2 from by decide), if_pos (show kI 3 = iI 3 from rfl), e1, rd_kI (by omega) (by omega), e2]
    show ∃ m', _ = _ ∧ _ ∧ Sk9 (d', upS g (d' - 1) (if g (d' - 1) = iI 0 then iI 1 else iI 0)) m'
    unfold F_X9_worked_117
    by_cases z : g (d' - 1) = iI 0
    · rw [if_pos z, wrI_kI (by omega) (by omega), e82, if_pos z]
      exact ⟨_, rfl, K9.put, hS.up (Or.inl (Nat.le_refl _))⟩
    · rw [if_neg z, wrI_kI (by omega) (by omega), e82, if_neg z]
      exact ⟨_, rfl, K9.put, hS.up (Or.inl (Nat.le_refl _))⟩
  · subst hv1 hv2
    have e1 : kI d' - iI 1 = kI (d' - 1) := kI_sub (b := 1) (by omega)
    have e2 : gI m 136 (d' - 1) = g (d' - 1) := hS (d' - 1) (by show d' - 1 < d'; omega)
    rw [if_neg (show ¬ kI 4 = iI 1 from by decide), if_neg (show ¬ kI 4 = iI 2 from by decide), if_neg (show ¬ kI 4 = iI 3 from by decide), if_pos (show kI 4 = iI 4 from rfl), e1, rd_kI (by omega) (by omega), e2, wrI_kI (by omega) (by omega), e82]
    exact ⟨_, rfl, K9.put, hS.up (Or.inl (Nat.le_refl _))⟩
  · have ho2 : o < 1000 ∧ ¬ o = 1 ∧ ¬ o = 2 ∧ ¬ o = 3 ∧ ¬ o = 4 := by
      unfold Op2 at hv1
      omega
    obtain ⟨o0, o1, o2, o3, o4⟩ := ho2
    have e0 : kI d + iI (-1) = kI (d - 1) := by
      have : kI (d - 1 + 1) + iI (-1) = kI (d - 1) := kI_s1 (d - 1)
      rw [show d - 1 + 1 = d from by omega] at this
      exact this
    have e1 : kI (d - 1) - iI 1 = kI (d - 2) := (kI_sub (b := 1) (by omega)).trans rfl
    have e2 : gI m 136 (d - 1) = g (d - 1) := hS (d - 1) (by show d - 1 < d; omega)
    have e3 : gI m 136 (d - 2) = g (d - 2) := hS (d - 2) (by show d - 2 < d; omega)
    have ep : pst E (o, v) (d, g) = (d - 1, upS g (d - 2) (op2 o (g (d - 2)) (g (d - 1)))) := by
      unfold pst
      show (if o = 1 then _ else if o = 2 then _ else if o = 3 then _ else if o = 4 then _ else _) = _
      rw [if_neg o1, if_neg o2, if_neg o3, if_neg o4]
    have ne : ∀ k : Nat, k < 5 → ¬ o = k → ¬ kI (o, v).1 = iI (k : Int) := fun k hk z w => z ((kI_eq (by omega) (by omega)).mp w)
    have tw : ∀ a b m, F_X9_twoOf (kI (o, v).1) a b m = some (op2 o a b, m) := fun a b m => twoOf_eq hv1
    rw [ep, hv2, if_neg (show ¬ kI (o, v).1 = iI 1 from ne 1 (by omega) o1), if_neg (show ¬ kI (o, v).1 = iI 2 from ne 2 (by omega) o2), if_neg (show ¬ kI (o, v).1 = iI 3 from ne 3 (by omega) o3), if_neg (show ¬ kI (o, v).1 = iI 4 from ne 4 (by omega) o4), e0, nm_eq, e1, rd_kI (by omega) (by omega), rd_kI (by omega) (by omega), e2, e3, bnd_eq (tw _ _ _), wrI_kI (by omega) (by omega), e82]
    exact ⟨_, rfl, K9.put, hS.up (Or.inl (by omega))⟩
theorem steps9 : ∀ (t : List Ins) (d e n f : Nat) (g : Nat → Int32) (m : Mm), Cd9 T E m → Sk9 (d, g) m → Vd t d e → d ≤ n → n + t.length ≤ (flat T).length → (∀ i, i < t.length → (flat T).getD (n + i) (0, 0) = t.getD i (0, 0)) → ∃ m', F_X9_worked_12 (f + t.length) (kI 0) (kI (n + t.length)) (kI d) (kI n) m = F_X9_worked_12 f (kI 0) (kI (n + t.length)) (kI e) (kI (n + t.length)) m' ∧ FrC K9 m m' ∧ Sk9 (exe E t (d, g)) m'
  | [], d, e, n, f, g, m, hC, hS, hv, hd, hn, hi => by
    have hv : d = e := hv
    subst hv
    exact ⟨m, rfl, FrC.refl, hS⟩
  | i :: t, d, e, n, f, g, m, hC, hS, hv, hd, hn, hi => by
    obtain ⟨d', h1, h2⟩ := hv
    have hn : n + (t.length + 1) ≤ (flat T).length := hn
    have hi0 := hi 0 (Nat.zero_lt_succ _)
    obtain ⟨m1, a1, a2, a3⟩ := step9 (f := f + t.length) (e := n + (t.length + 1)) hC hS h1 hd (by omega) hn hi0
    have q := pst_1 (E := E) (g := g) h1
    have hle := vst_le h1
    show ∃ m', F_X9_worked_12 (f + t.length + 1) (kI 0) (kI (n + (t.length + 1))) (kI d) (kI n) m = F_X9_worked_12 f (kI 0) (kI (n + (t.length + 1))) (kI e) (kI (n + (t.length + 1))) m' ∧ FrC K9 m m' ∧ Sk9 (exe E t (pst E i (d, g))) m'
    rw [a1]
    have q2 : (pst E i (d, g)) = ((pst E i (d, g)).1, (pst E i (d, g)).2) := rfl
    have a3' : Sk9 (d', (pst E i (d, g)).2) m1 := by rw [← q]; exact a3
    obtain ⟨m2, b1, b2, b3⟩ := steps9 t d' e (n + 1) f _ m1 (hC.fr a2) a3' h2 (by omega) (by omega) (fun i hi2 => by
      have := hi (i + 1) (Nat.succ_lt_succ hi2)
      rw [show n + 1 + i = n + (i + 1) from by omega, this]
      rfl)
    refine ⟨m2, ?_, a2.trans b2, ?_⟩
    · rw [show n + (t.length + 1) = n + 1 + t.length from by omega]
      exact b1
    · rw [q2, q]; exact b3
theorem worked_eq {t : List Ins} {n : Nat} {m : Mm} (hC : Cd9 T E m) (hv : Vd t 0 1) (hn : n + t.length ≤ (flat T).length) (hi : ∀ i, i < t.length → (flat T).getD (n + i) (0, 0) = t.getD i (0, 0)) : ∃ m', F_X9_worked (kI 0) (kI n) (kI (n + t.length)) m = some (val E t, m') ∧ FrC K9 m m' := by
  have h1 := hC.1
  obtain ⟨m', a1, a2, a3⟩ := steps9 t 0 1 n (FU - t.length) (fun _ => iI 0) m hC (fun i hi => absurd hi (Nat.not_lt_zero i)) hv (Nat.zero_le _) hn hi
  refine ⟨m', ?_, a2⟩
  unfold F_X9_worked
  rw [m130, nm_eq]
  rw [show FU - t.length + t.length = FU from by unfold FU; omega] at a1
  refine a1.trans ?_
  obtain ⟨f, hf⟩ : ∃ f, FU - t.length = f + 1 := ⟨FU - t.length - 1, by unfold FU; omega⟩
  have r0 : ∀ (G : Nat → Option (Int32 × Mm)), rd 130 (iI 0) G = G 0 := fun G => rd_kI (n := 130) (k := 0) (by omega) (by omega) G
  rw [hf, F_X9_worked_12, m130, if_pos (by rw [kI_le (by omega) (by omega)]; omega), r0]
  have := a3 0 (by rw [exe_1 hv]; omega)
  rw [this]
  rfl
theorem lnAt_mid {A B : List Lin} {ln : Lin} : lnAt (A ++ ln :: B) A.length = ln := by
  unfold lnAt
  rw [List.getD_eq_getElem?_getD, List.getElem?_append_right (Nat.le_refl _), Nat.sub_self]
  rfl
theorem flat_ext : ∀ (B : List Lin) (A : List Ins), ∃ X, B.foldl (fun D ln => D ++ ln.1 ++ ln.2) A = A ++ X
  | [], A => ⟨[], (List.append_nil A).symm⟩
  | ln :: B, A => by
    obtain ⟨X, h⟩ := flat_ext B (A ++ ln.1 ++ ln.2)
    exact ⟨ln.1 ++ (ln.2 ++ X), by rw [← List.append_assoc, ← List.append_assoc]; exact h⟩
theorem flat_mid {A B : List Lin} {ln : Lin} : ∃ X, flat (A ++ ln :: B) = flat A ++ (ln.1 ++ (ln.2 ++ X)) := by
  unfold flat
  rw [List.foldl_append]
  obtain ⟨X, h⟩ := flat_ext B (A.foldl (fun D ln => D ++ ln.1 ++ ln.2) [] ++ ln.1 ++ ln.2)
  exact ⟨X, by rw [← List.append_assoc, ← List.append_assoc]; exact h⟩
theorem lines9 : ∀ (B A : List Lin) (f : Nat) (m : Mm), Cd9 T E m → (∀ ln, ln ∈ B → LV ln) → T = A ++ B → T.length < f + A.length → ∃ m', F_X9_gives_7 f (kI 0) (kI (flat A).length) (kI A.length) m = some (lawF E B, m') ∧ FrC K9 m m'
  | [], A, f, m, hC, hT, hD, hf => by
    have h2 := hC.2.1
    rw [List.append_nil] at hD
    obtain ⟨f, rfl⟩ : ∃ g, f = g + 1 := ⟨f - 1, by rw [hD] at hf; omega⟩
    refine ⟨m, ?_, FrC.refl⟩
    have h4 := hC.2.2.2.1.1
    rw [F_X9_gives_7, rd_kI (by omega) (by omega), h4, m61, hD, if_pos (by rw [← hD]; rw [kI_le (by omega) (by omega)]; omega)]
    rfl
  | ln :: B, A, f, m, hC, hT, hD, hf => by
    have hL := hT ln (List.mem_cons_self ..)
    have e2 : A ++ ln :: B = (A ++ [ln]) ++ B := by rw [List.append_assoc]; rfl
    obtain ⟨X, hX⟩ := flat_mid (A := A) (B := B) (ln := ln)
    have hlen : T.length = A.length + (B.length + 1) := by rw [hD, List.length_append]; rfl
    have hfl : (flat T).length = (flat A).length + (ln.1.length + (ln.2.length + X.length)) := by rw [hD, hX, List.length_append, List.length_append, List.length_append]
    have h1 := hC.1
    have h2 := hC.2.1
    obtain ⟨k1, k2⟩ := hC.2.2.2.1.2 A.length (by omega)
    have ht : T.take A.length = A := by rw [hD]; exact List.take_left
    have hl : lnAt T A.length = ln := by rw [hD]; exact lnAt_mid
    have h61 : 61 * 0 + A.length = A.length := by omega
    rw [h61, ht, hl] at k1 k2
    have h4 := hC.2.2.2.1.1
    obtain ⟨f, rfl⟩ : ∃ g, f = g + 1 := ⟨f - 1, by omega⟩
    have g1 : ∀ i, i < ln.1.length → (flat T).getD ((flat A).length + i) (0, 0) = ln.1.getD i (0, 0) := fun i hi => by rw [hD, hX, gD_r, gD_l hi]
    have g2 : ∀ i, i < ln.2.length → (flat T).getD ((flat A).length + ln.1.length + i) (0, 0) = ln.2.getD i (0, 0) := fun i hi => by rw [hD, hX, show (flat A).length + ln.1.length + i = (flat A).length + (ln.1.length + i) from by omega, gD_r, gD_r, gD_l hi]
    have e47 : ∀ m, Cd9 T E m → gI m 133 A.length = kI ((flat A).length + ln.1.length) → gI m 134 A.length = kI ((flat A).length + ln.1.length + ln.2.length) → ∃ m', F_X9_gives_47 (kI 0) (kI A.length) m = some (val E ln.2, m') ∧ FrC K9 m m' := fun m hC q1 q2 => by
      obtain ⟨m', a1, a2⟩ := worked_eq hC hL.2 (by omega) g2
      refine ⟨m', ?_, a2⟩
      unfold F_X9_gives_47
      rw [rd_kI (by omega) (by omega), rd_kI (by omega) (by omega), q1, q2, bnd_eq a1]
    unfold lawF
    rw [F_X9_gives_7, rd_kI (by omega) (by omega), h4, m61, if_neg (by rw [kI_le (by omega) (by omega)]; omega), rd_kI (by omega) (by omega), k1]
    by_cases w : ln.1 = []
    · rw [if_pos w, if_pos (by rw [w]; rfl)]
      exact e47 m hC k1 k2
    · have hw : ln.1.length ≠ 0 := fun q => w (List.length_eq_zero_iff.mp q)
      have hv1 : Vd ln.1 0 1 := by
        rcases hL.1 with q | q
        · exact absurd q w
        · exact q
      obtain ⟨m1, a1, a2⟩ := worked_eq hC hv1 (by omega) g1
      have hC1 := hC.fr a2
      have k1' : gI m1 133 A.length = kI ((flat A).length + ln.1.length) := by rw [a2.1 133 _ (by unfold K9; omega)]; exact k1
      have k2' : gI m1 134 A.length = kI ((flat A).length + ln.1.length + ln.2.length) := by rw [a2.1 134 _ (by unfold K9; omega)]; exact k2
      rw [if_neg w, if_neg (by rw [kI_eq (by omega) (by omega)]; omega), rd_kI (by omega) (by omega), k1, bnd_eq a1]
      by_cases z : val E ln.1 = iI 0
      · rw [if_pos z, if_pos z, rd_kI (by omega) (by omega), nm_eq, kI_a1, nm_eq, k2']
        have hfa : (flat (A ++ [ln])).length = (flat A).length + ln.1.length + ln.2.length := by rw [flat_app, List.length_append, List.length_append]
        have hla : (A ++ [ln]).length = A.length + 1 := by rw [List.length_append]; rfl
        obtain ⟨m2, b1, b2⟩ := lines9 B (A ++ [ln]) f m1 hC1 (fun l' q => hT l' (List.mem_cons_of_mem _ q)) (by rw [hD, e2]) (by rw [hla]; omega)
        rw [hfa, hla] at b1
        exact ⟨m2, b1, a2.trans b2⟩
      · rw [if_neg z, if_neg z]
        obtain ⟨m2, b1, b2⟩ := e47 m1 hC1 k1' k2'
        exact ⟨m2, b1, a2.trans b2⟩
end GIV
theorem gives_eq {T : List Lin} {m : Mm} (h1 : (flat T).length ≤ 120) (h2 : T.length ≤ 60) (h3 : Stp9 0 (flat T) m) (h4 : LnI 0 T m) (hT : ∀ ln, ln ∈ T → LV ln) : ∃ m', F_X9_gives (kI 0) m = some (lawF (nms (gI m 135 0) (gI m 135 1) (gI m 135 2) (gI m 135 3) (gI m 135 4) (gI m 135 5)) T, m') ∧ Fr (fun a => a = 136) m m' := by
  have hC : Cd9 T (nms (gI m 135 0) (gI m 135 1) (gI m 135 2) (gI m 135 3) (gI m 135 4) (gI m 135 5)) m := ⟨h1, h2, h3, h4, fun k hk => by
    have q : k = 0 ∨ k = 1 ∨ k = 2 ∨ k = 3 ∨ k = 4 ∨ k = 5 := by omega
    rcases q with rfl | rfl | rfl | rfl | rfl | rfl <;> rfl⟩
  obtain ⟨m', a1, a2⟩ := lines9 T [] FU m hC hT rfl (by unfold FU; show _ < 1000000 + 0; omega)
  refine ⟨m', ?_, fun a q j => a2.1 a j q, a2.2.1, a2.2.2⟩
  unfold F_X9_gives
  rw [show (iI 61) * kI 0 = kI 0 from by decide, nm_eq]
  exact a1
