/-! A LAW, ASKED OF THE CLASS -/
theorem mx_1 {d : Nat} (h : 1 ≤ d) (hd : d < 1000) : mxI (kI d) (iI 1) = kI d := by
  unfold mxI
  by_cases z : kI d < iI 1
  · rw [iI_lit, kI_lt (by omega) (by omega)] at z
    omega
  · rw [if_neg z]
theorem mx_s1 {d : Nat} (h : 2 ≤ d) (hd : d < 1000) : mxI (kI d - iI 1) (iI 1) = kI (d - 1) := by
  rw [show kI d - iI 1 = kI (d - 1) from kI_sub (b := 1) (by omega)]
  exact mx_1 (by omega) (by omega)
/-- the cells of the class's values -/
def K8 (lp : Nat) (a _j : Nat) : Prop := a = lp + 3
def Sk8 (lp : Nat) (s : Sk) (m : Mm) : Prop := ∀ i, i < s.1 → gI m (lp + 3) i = s.2 i
/-- the code and the names before the class -/
def Cd8 (lp len : Nat) (D : List (Nat × Nat)) (E : Nat → Int32) (m : Mm) : Prop := gI m lp 2 = kI len ∧ len ≤ 121 ∧ D.length = len ∧ (∀ i, i < len → gI m (lp + 1) i = kI (D.getD i (0, 0)).1 ∧ gI m (lp + 2) i = kI (D.getD i (0, 0)).2) ∧ ∀ k, k < 6 → gI m (lp + 4) k = E k
theorem Cd8.fr {lp len : Nat} {D : List (Nat × Nat)} {E : Nat → Int32} {m m1 : Mm} (h : Cd8 lp len D E m) (hf : FrC (K8 lp) m m1) : Cd8 lp len D E m1 := by
  obtain ⟨h1, h2, h3, h4, h5⟩ := h
  refine ⟨?_, h2, h3, fun i hi => ?_, fun k hk => ?_⟩
  · rw [hf.1 lp 2 (by unfold K8; omega)]; exact h1
  · rw [hf.1 (lp + 1) i (by unfold K8; omega), hf.1 (lp + 2) i (by unfold K8; omega)]; exact h4 i hi
  · rw [hf.1 (lp + 4) k (by unfold K8; omega)]; exact h5 k hk
theorem Sk8.up {lp d : Nat} {g : Nat → Int32} {m : Mm} {v : Int32} {j e : Nat} (h : Sk8 lp (d, g) m) (he : e ≤ d ∨ (j = d ∧ e = d + 1)) : Sk8 lp (e, upS g j v) (pI m (lp + 3) j v) := by
  intro i hi
  have hi : i < e := hi
  show gI (pI m (lp + 3) j v) (lp + 3) i = if i = j then v else g i
  by_cases z : i = j
  · rw [gI_pI, if_pos ⟨rfl, z⟩, if_pos z]
  · rw [gI_pI, if_neg (fun q => z q.2), if_neg z]
    exact h i (by show i < d; omega)
section NUM
variable {lp len : Nat} {D : List (Nat × Nat)} {E : Nat → Int32}
theorem K8.put {m : Mm} {j : Nat} {v : Int32} : FrC (K8 lp) m (pI m (lp + 3) j v) := FrC.refl.put rfl
theorem step8 {i : Ins} {d d' n f : Nat} {g : Nat → Int32} {m : Mm} (hC : Cd8 lp len D E m) (hS : Sk8 lp (d, g) m) (hv : vst i d d') (hd : d ≤ n) (hn : n < len) (hi : D.getD n (0, 0) = (sgn i.1, i.2)) : ∃ m', F_X3_number_51 lp (f + 1) (kI d) (kI n) m = F_X3_number_51 lp f (kI d') (kI (n + 1)) m' ∧ FrC (K8 lp) m m' ∧ Sk8 lp (pst E i (d, g)) m' := by
  obtain ⟨h1, h2, h3, h4, h5⟩ := hC
  obtain ⟨h6, h7⟩ := h4 n hn
  rw [hi] at h6 h7
  have h6 : gI m (lp + 1) n = kI (sgn i.1) := h6
  have h7 : gI m (lp + 2) n = kI i.2 := h7
  have e71 : ∀ d m', F_X3_number_371 (F_X3_number_51 lp f) lp (kI d) (kI n) m' = F_X3_number_51 lp f (kI d) (kI (n + 1)) m' := fun d m' => by
    unfold F_X3_number_371
    rw [nm_eq, kI_a1]
  rw [F_X3_number_51, h1, if_neg (by rw [kI_le (by omega) (by omega)]; omega), if_neg (by rw [iI_lit, kI_le (by omega) (by omega)]; omega), if_neg (by rw [iI_lit, kI_le (by omega) (by omega)]; omega), rd_kI (by omega) (by omega), h7, nm_eq, rd_kI (by omega) (by omega), h6]
  obtain ⟨o, v⟩ := i
  unfold vst at hv
  have hv : (o = 1 ∧ d' = d + 1) ∨ (o = 2 ∧ v < 6 ∧ d' = d + 1) ∨ (o = 3 ∧ 1 ≤ d ∧ d' = d) ∨ (o = 4 ∧ 1 ≤ d ∧ d' = d) ∨ (Op2 o ∧ 2 ≤ d ∧ d' = d - 1) := hv
  rcases hv with ⟨hv1, hv2⟩ | ⟨hv1, hv3, hv2⟩ | ⟨hv1, hv3, hv2⟩ | ⟨hv1, hv3, hv2⟩ | ⟨hv1, hv3, hv2⟩
  · subst hv1 hv2
    show ∃ m', lsw (kI 35) _ _ = _ ∧ _
    rw [lsw_miss (by omega) (by decide), lsw_hit (by omega) (by decide), wrI_kI (by omega) (by omega), kI_a1, nm_eq, e71]
    exact ⟨_, rfl, K8.put, hS.up (Or.inr ⟨rfl, rfl⟩)⟩
  · subst hv1 hv2
    show ∃ m', lsw (kI 36) _ _ = _ ∧ _
    rw [lsw_miss (by omega) (by decide), lsw_miss (by omega) (by decide), lsw_hit (by omega) (by decide), if_neg (by rw [iI_lit, kI_lt (by omega) (by omega)]; omega), if_neg (by rw [iI_lit, kI_le (by omega) (by omega)]; omega), rd_kI (by omega) (by omega)]
    unfold F_X3_number_252
    rw [wrI_kI (by omega) (by omega), kI_a1, nm_eq, e71, h5 v hv3]
    exact ⟨_, rfl, K8.put, hS.up (Or.inr ⟨rfl, rfl⟩)⟩
  · subst hv1 hv2
    have e1 : kI d' - iI 1 = kI (d' - 1) := kI_sub (b := 1) (by omega)
    have e2 : gI m (lp + 3) (d' - 1) = g (d' - 1) := hS (d' - 1) (by show d' - 1 < d'; omega)
    show ∃ m', lsw (kI 33) _ _ = _ ∧ _
    rw [lsw_hit (by omega) (by decide), mx_1 hv3 (by omega), nm_eq, e1, rd_kI (by omega) (by omega), e2]
    show ∃ m', _ = _ ∧ _ ∧ Sk8 lp (d', upS g (d' - 1) (if g (d' - 1) = iI 0 then iI 1 else iI 0)) m'
    unfold F_X3_number_292
    by_cases z : g (d' - 1) = iI 0
    · rw [if_pos z, wrI_kI (by omega) (by omega), e71, if_pos z]
      exact ⟨_, rfl, K8.put, hS.up (Or.inl (Nat.le_refl _))⟩
    · rw [if_neg z, wrI_kI (by omega) (by omega), e71, if_neg z]
      exact ⟨_, rfl, K8.put, hS.up (Or.inl (Nat.le_refl _))⟩
  · subst hv1 hv2
    have e1 : kI d' - iI 1 = kI (d' - 1) := kI_sub (b := 1) (by omega)
    have e2 : gI m (lp + 3) (d' - 1) = g (d' - 1) := hS (d' - 1) (by show d' - 1 < d'; omega)
    show ∃ m', lsw (kI 126) _ _ = _ ∧ _
    rw [lsw_miss (by omega) (by decide), lsw_miss (by omega) (by decide), lsw_miss (by omega) (by decide), lsw_miss (by omega) (by decide), lsw_miss (by omega) (by decide), lsw_hit (by omega) (by decide), mx_1 hv3 (by omega), nm_eq, e1, rd_kI (by omega) (by omega), e2, wrI_kI (by omega) (by omega), e71]
    exact ⟨_, rfl, K8.put, hS.up (Or.inl (Nat.le_refl _))⟩
  · have ho : sgn o = o := by
      unfold Op2 at hv1
      unfold sgn
      rw [if_neg (by omega), if_neg (by omega), if_neg (by omega), if_neg (by omega)]
    have ho2 : o < 1000 ∧ ¬ (o : Int) = 33 ∧ ¬ (o : Int) = 35 ∧ ¬ (o : Int) = 36 ∧ ¬ (o : Int) = 59 ∧ ¬ (o : Int) = 63 ∧ ¬ (o : Int) = 126 := by
      unfold Op2 at hv1
      omega
    obtain ⟨o0, o1, o2, o3, o4, o5, o6⟩ := ho2
    have e1 : kI (d - 1) - iI 1 = kI (d - 2) := (kI_sub (b := 1) (by omega)).trans rfl
    have e2 : gI m (lp + 3) (d - 1) = g (d - 1) := hS (d - 1) (by show d - 1 < d; omega)
    have e3 : gI m (lp + 3) (d - 2) = g (d - 2) := hS (d - 2) (by show d - 2 < d; omega)
    show ∃ m', lsw (kI (sgn o)) _ _ = _ ∧ _
    have ep : pst E (o, v) (d, g) = (d - 1, upS g (d - 2) (op2 o (g (d - 2)) (g (d - 1)))) := by
      unfold Op2 at hv1
      unfold pst
      show (if o = 1 then _ else if o = 2 then _ else if o = 3 then _ else if o = 4 then _ else _) = _
      rw [if_neg (by omega), if_neg (by omega), if_neg (by omega), if_neg (by omega)]
    rw [ep, hv2, ho, lsw_miss o0 o1, lsw_miss o0 o2, lsw_miss o0 o3, lsw_miss o0 o4, lsw_miss o0 o5, lsw_miss o0 o6, lsw_nil, mx_s1 hv3 (by omega), nm_eq, rd_kI (by omega) (by omega), h6, e1, rd_kI (by omega) (by omega), rd_kI (by omega) (by omega), e2, e3]
    have ho' : kI (sgn (o, v).1) = kI o := congrArg kI ho
    rw [ho', bnd_eq (joined_eq hv1), wrI_kI (by omega) (by omega), e71]
    exact ⟨_, rfl, K8.put, hS.up (Or.inl (by omega))⟩
theorem steps8 : ∀ (t : List Ins) (d e n f : Nat) (g : Nat → Int32) (m : Mm), Cd8 lp len D E m → Sk8 lp (d, g) m → Vd t d e → d ≤ n → n + t.length ≤ len → (∀ i, i < t.length → D.getD (n + i) (0, 0) = (sgn (t.getD i (0, 0)).1, (t.getD i (0, 0)).2)) → ∃ m', F_X3_number_51 lp (f + t.length) (kI d) (kI n) m = F_X3_number_51 lp f (kI e) (kI (n + t.length)) m' ∧ FrC (K8 lp) m m' ∧ Sk8 lp (exe E t (d, g)) m'
  | [], d, e, n, f, g, m, hC, hS, hv, hd, hn, hi => by
    have hv : d = e := hv
    subst hv
    exact ⟨m, rfl, FrC.refl, hS⟩
  | i :: t, d, e, n, f, g, m, hC, hS, hv, hd, hn, hi => by
    obtain ⟨d', h1, h2⟩ := hv
    have hn : n + (t.length + 1) ≤ len := hn
    have hi0 := hi 0 (Nat.zero_lt_succ _)
    obtain ⟨m1, a1, a2, a3⟩ := step8 (f := f + t.length) hC hS h1 hd (by omega) hi0
    have q := pst_1 (E := E) (g := g) h1
    have hle := vst_le h1
    show ∃ m', F_X3_number_51 lp (f + t.length + 1) (kI d) (kI n) m = F_X3_number_51 lp f (kI e) (kI (n + (t.length + 1))) m' ∧ FrC (K8 lp) m m' ∧ Sk8 lp (exe E t (pst E i (d, g))) m'
    rw [a1]
    generalize pst E i (d, g) = s at q a3
    obtain ⟨s1, s2⟩ := s
    have q : s1 = d' := q
    subst q
    obtain ⟨m2, b1, b2, b3⟩ := steps8 t s1 e (n + 1) f s2 m1 (hC.fr a2) a3 h2 (by omega) (by omega) (fun i hi2 => by
      have := hi (i + 1) (Nat.succ_lt_succ hi2)
      rw [show n + 1 + i = n + (i + 1) from by omega, this]
      rfl)
    refine ⟨m2, ?_, a2.trans b2, b3⟩
    rw [b1, show n + 1 + t.length = n + (t.length + 1) from by omega]
theorem gD_r {X Y : List (Nat × Nat)} {i : Nat} : (X ++ Y).getD (X.length + i) (0, 0) = Y.getD i (0, 0) := by
  rw [List.getD_eq_getElem?_getD, List.getD_eq_getElem?_getD, List.getElem?_append_right (by omega), show X.length + i - X.length = i from by omega]
theorem gD_l {X Y : List (Nat × Nat)} {i : Nat} (h : i < X.length) : (X ++ Y).getD i (0, 0) = X.getD i (0, 0) := by
  rw [List.getD_eq_getElem?_getD, List.getD_eq_getElem?_getD, List.getElem?_append_left h]
theorem gD_cls {t : List Ins} {i : Nat} (h : i < t.length) : (cls t).getD i (0, 0) = (sgn (t.getD i (0, 0)).1, (t.getD i (0, 0)).2) := by
  unfold cls
  rw [List.getD_eq_getElem?_getD, List.getD_eq_getElem?_getD, List.getElem?_map, List.getElem?_eq_getElem h]
  rfl
theorem lay_ext : ∀ (B : List Lin) (A : List (Nat × Nat)), ∃ X, B.foldl (fun D ln => D ++ lnC D.length ln) A = A ++ X
  | [], A => ⟨[], (List.append_nil A).symm⟩
  | ln :: B, A => by
    obtain ⟨X, h⟩ := lay_ext B (A ++ lnC A.length ln)
    exact ⟨lnC A.length ln ++ X, by rw [← List.append_assoc]; exact h⟩
theorem lay_pre {A B : List Lin} : ∃ X, lay (A ++ B) = lay A ++ X := by
  unfold lay
  rw [List.foldl_append]
  exact lay_ext B _
theorem ask8 {n f v : Nat} {m : Mm} (hC : Cd8 lp len D E m) (hn : n < len) (hi : D.getD n (0, 0) = (63, v)) (hv : n < v) (hv2 : v < 1000) : F_X3_number_51 lp (f + 1) (kI 1) (kI n) m = if gI m (lp + 3) 0 = iI 0 then F_X3_number_51 lp f (kI 0) (kI (v + 1)) m else F_X3_number_51 lp f (kI 0) (kI (n + 1)) m := by
  obtain ⟨h1, h2, h3, h4, h5⟩ := hC
  obtain ⟨h6, h7⟩ := h4 n hn
  rw [hi] at h6 h7
  have h6 : gI m (lp + 1) n = kI 63 := h6
  have h7 : gI m (lp + 2) n = kI v := h7
  have e1 : kI 1 - iI 1 = kI 0 := kI_sub (b := 1) (by omega)
  rw [F_X3_number_51, h1, if_neg (by rw [kI_le (by omega) (by omega)]; omega), if_neg (by rw [iI_lit, kI_le (by omega) (by omega)]; omega), if_neg (by rw [iI_lit, kI_le (by omega) (by omega)]; omega), rd_kI (by omega) (by omega), h7, nm_eq, rd_kI (by omega) (by omega), h6, lsw_miss (by omega) (by decide), lsw_miss (by omega) (by decide), lsw_miss (by omega) (by decide), lsw_miss (by omega) (by decide), lsw_hit (by omega) (by decide), if_neg (by rw [iI_lit, kI_lt (by omega) (by omega)]; omega), e1, rd_kI (by omega) (by omega)]
  unfold F_X3_number_198 F_X3_number_200 F_X3_number_371
  by_cases z : gI m (lp + 3) 0 = iI 0
  · rw [if_pos z, if_pos z, if_neg (by rw [kI_le (by omega) (by omega)]; omega), kI_a1, nm_eq]
    rfl
  · rw [if_neg z, if_neg z, kI_a1, nm_eq]
    rfl
theorem fin8 {n f : Nat} {m : Mm} (hC : Cd8 lp len D E m) (hn : n < len) (hi : D.getD n (0, 0) = (59, 0)) : F_X3_number_51 lp (f + 1) (kI 1) (kI n) m = some (gI m (lp + 3) 0, m) := by
  obtain ⟨h1, h2, h3, h4, h5⟩ := hC
  obtain ⟨h6, h7⟩ := h4 n hn
  rw [hi] at h6 h7
  have h6 : gI m (lp + 1) n = kI 59 := h6
  have h7 : gI m (lp + 2) n = kI 0 := h7
  have e1 : kI 1 - iI 1 = kI 0 := kI_sub (b := 1) (by omega)
  rw [F_X3_number_51, h1, if_neg (by rw [kI_le (by omega) (by omega)]; omega), if_neg (by rw [iI_lit, kI_le (by omega) (by omega)]; omega), if_neg (by rw [iI_lit, kI_le (by omega) (by omega)]; omega), rd_kI (by omega) (by omega), h7, nm_eq, rd_kI (by omega) (by omega), h6, lsw_miss (by omega) (by decide), lsw_miss (by omega) (by decide), lsw_miss (by omega) (by decide), lsw_hit (by omega) (by decide), if_pos (by rw [iI_lit, kI_le (by omega) (by omega)]; omega), e1, rd_kI (by omega) (by omega)]
/-- a part worked out, with nothing before it -/
theorem part8 {t : List Ins} {n f : Nat} {m : Mm} (hC : Cd8 lp len D E m) (hv : Vd t 0 1) (hn : n + t.length ≤ len) (hi : ∀ i, i < t.length → D.getD (n + i) (0, 0) = (cls t).getD i (0, 0)) : ∃ m', F_X3_number_51 lp (f + t.length) (kI 0) (kI n) m = F_X3_number_51 lp f (kI 1) (kI (n + t.length)) m' ∧ FrC (K8 lp) m m' ∧ gI m' (lp + 3) 0 = val E t := by
  obtain ⟨m', a1, a2, a3⟩ := steps8 t 0 1 n f (fun _ => iI 0) m hC (fun i hi => absurd hi (Nat.not_lt_zero i)) hv (Nat.zero_le _) hn (fun i h => by rw [hi i h, gD_cls h])
  refine ⟨m', a1, a2, a3 0 ?_⟩
  rw [exe_1 hv]
  omega
/-- the lines of one place on -/
theorem lines8 : ∀ (B A : List Lin) (f : Nat) (m : Mm), Cd8 lp len D E m → (∀ ln, ln ∈ B → LV ln) → D = lay (A ++ B) → len < f + (lay A).length → ∃ m', F_X3_number_51 lp f (kI 0) (kI (lay A).length) m = some (lawF E B, m') ∧ FrC (K8 lp) m m'
  | [], A, f, m, hC, hT, hD, hf => by
    have h3 := hC.2.2.1
    rw [hD, List.append_nil] at h3
    obtain ⟨f, rfl⟩ : ∃ g, f = g + 1 := ⟨f - 1, by omega⟩
    have h2 := hC.2.1
    refine ⟨m, ?_, FrC.refl⟩
    rw [F_X3_number_51, hC.1, if_pos (by rw [kI_le (by omega) (by omega)]; omega)]
    rfl
  | ln :: B, A, f, m, hC, hT, hD, hf => by
    have hL := hT ln (List.mem_cons_self ..)
    have e2 : A ++ ln :: B = (A ++ [ln]) ++ B := by rw [List.append_assoc]; rfl
    rw [e2] at hD
    obtain ⟨X, hX⟩ := lay_pre (A := A ++ [ln]) (B := B)
    have hD2 : D = lay A ++ (lnC (lay A).length ln ++ X) := by rw [hD, hX, lay_app, List.append_assoc]
    have h3 := hC.2.2.1
    have h2 := hC.2.1
    have hlen : (lay A).length + ((lnC (lay A).length ln).length + X.length) = len := by rw [← h3, hD2, List.length_append, List.length_append]
    have hA : (lay (A ++ [ln])).length = (lay A).length + (lnC (lay A).length ln).length := by rw [lay_app, List.length_append]
    have gd : ∀ i, i < (lnC (lay A).length ln).length → D.getD ((lay A).length + i) (0, 0) = (lnC (lay A).length ln).getD i (0, 0) := fun i hi => by
      rw [hD2, gD_r, gD_l hi]
    have IH := lines8 B (A ++ [ln])
    rw [hA] at IH
    generalize (lay A).length = n at hf hlen gd IH ⊢
    unfold lnC at hlen gd IH
    unfold lawF
    by_cases w : ln.1 = []
    · rw [if_pos w] at hlen gd IH
      rw [if_pos w]
      rw [List.length_append, cls_len] at hlen gd
      have hlen : n + (ln.2.length + 1 + X.length) = len := hlen
      have gd : ∀ i, i < ln.2.length + 1 → D.getD (n + i) (0, 0) = (cls ln.2 ++ [(59, 0)]).getD i (0, 0) := gd
      obtain ⟨f, rfl⟩ : ∃ g, f = g + 1 + ln.2.length := ⟨f - 1 - ln.2.length, by omega⟩
      obtain ⟨m1, a1, a2, a3⟩ := part8 (f := f + 1) (n := n) hC hL.2 (by omega) (fun i hi => by rw [gd i (by omega), gD_l (by rw [cls_len]; exact hi)])
      have c := cls_len (t := ln.2)
      have gl := gd ln.2.length (by omega)
      have g0 : (cls ln.2 ++ [(59, 0)]).getD (cls ln.2).length (0, 0) = (59, 0) := gD_r (X := cls ln.2) (Y := [(59, 0)]) (i := 0)
      rw [c] at g0
      rw [g0] at gl
      refine ⟨m1, ?_, a2⟩
      rw [a1, fin8 (hC.fr a2) (by omega) gl, a3]
    · rw [if_neg w] at hlen gd IH
      rw [if_neg w]
      have hv1 : Vd ln.1 0 1 := by
        rcases hL.1 with q | q
        · exact absurd q w
        · exact q
      have c1 := cls_len (t := ln.1)
      have c2 := cls_len (t := ln.2)
      have ll : (cls ln.1 ++ [(63, n + ln.1.length + 1 + ln.2.length)] ++ cls ln.2 ++ [(59, 0)]).length = ln.1.length + 1 + ln.2.length + 1 := by
        rw [List.length_append, List.length_append, List.length_append, c1, c2]
        rfl
      rw [ll] at hlen gd IH
      obtain ⟨f, rfl⟩ : ∃ g, f = g + 1 + ln.1.length := ⟨f - 1 - ln.1.length, by omega⟩
      obtain ⟨m1, a1, a2, a3⟩ := part8 (f := f + 1) (n := n) hC hv1 (by omega) (fun i hi => by
        rw [gd i (by omega), gD_l (by rw [List.length_append, List.length_append, c1]; omega), gD_l (by rw [List.length_append, c1]; omega), gD_l (by rw [c1]; exact hi)])
      have gl := gd ln.1.length (by omega)
      rw [gD_l (by rw [List.length_append, List.length_append, c1]; show ln.1.length < ln.1.length + 1 + _; omega), gD_l (by rw [List.length_append, c1]; show ln.1.length < ln.1.length + 1; omega)] at gl
      have g0 : (cls ln.1 ++ [(63, n + ln.1.length + 1 + ln.2.length)]).getD (cls ln.1).length (0, 0) = (63, n + ln.1.length + 1 + ln.2.length) := gD_r (X := cls ln.1) (Y := [(63, n + ln.1.length + 1 + ln.2.length)]) (i := 0)
      rw [c1] at g0
      rw [g0] at gl
      have hC1 := hC.fr a2
      rw [a1, ask8 hC1 (by omega) gl (by omega) (by omega), a3]
      by_cases z : val E ln.1 = iI 0
      · rw [if_pos z, if_pos z]
        obtain ⟨m2, b1, b2⟩ := IH f m1 hC1 (fun l' q => hT l' (List.mem_cons_of_mem _ q)) hD (by omega)
        refine ⟨m2, ?_, a2.trans b2⟩
        rw [← b1, show n + ln.1.length + 1 + ln.2.length + 1 = n + (ln.1.length + 1 + ln.2.length + 1) from by omega]
      · rw [if_neg z, if_neg z]
        obtain ⟨f, rfl⟩ : ∃ g, f = g + 1 + ln.2.length := ⟨f - 1 - ln.2.length, by omega⟩
        have s1 : (cls ln.1 ++ [(63, n + ln.1.length + 1 + ln.2.length)]).length = ln.1.length + 1 := by rw [List.length_append, c1]; rfl
        obtain ⟨m2, b1, b2, b3⟩ := part8 (f := f + 1) (n := n + ln.1.length + 1) hC1 hL.2 (by omega) (fun i hi => by
          rw [show n + ln.1.length + 1 + i = n + (ln.1.length + 1 + i) from by omega, gd _ (by omega), gD_l (by rw [List.length_append, s1, c2]; omega), ← s1, gD_r])
        have gl2 := gd (ln.1.length + 1 + ln.2.length) (by omega)
        have s2 : (cls ln.1 ++ [(63, n + ln.1.length + 1 + ln.2.length)] ++ cls ln.2).length = ln.1.length + 1 + ln.2.length := by rw [List.length_append, s1, c2]
        have g0 : (cls ln.1 ++ [(63, n + ln.1.length + 1 + ln.2.length)] ++ cls ln.2 ++ [(59, 0)]).getD ((cls ln.1 ++ [(63, n + ln.1.length + 1 + ln.2.length)] ++ cls ln.2).length) (0, 0) = (59, 0) := gD_r (X := cls ln.1 ++ [(63, n + ln.1.length + 1 + ln.2.length)] ++ cls ln.2) (Y := [(59, 0)]) (i := 0)
        rw [s2] at g0
        rw [g0] at gl2
        refine ⟨m2, ?_, a2.trans b2⟩
        rw [b1, show n + ln.1.length + 1 + ln.2.length = n + (ln.1.length + 1 + ln.2.length) from by omega, fin8 (hC1.fr b2) (by omega) gl2, b3]
end NUM
/-- the names of a law, as it is asked -/
def nms (w x t l o r : Int32) (k : Nat) : Int32 := if k = 0 then w else if k = 1 then x else if k = 2 then t else if k = 3 then l else if k = 4 then o else r
theorem number_eq {lp : Nat} {T : List Lin} {m : Mm} (hlp : lp = 6 ∨ lp = 18) (h1 : gI m lp 2 = kI (lay T).length) (h2 : (lay T).length ≤ 121) (h3 : ∀ i, i < (lay T).length → gI m (lp + 1) i = kI ((lay T).getD i (0, 0)).1 ∧ gI m (lp + 2) i = kI ((lay T).getD i (0, 0)).2) (hT : ∀ ln, ln ∈ T → LV ln) (w x t l o r : Int32) : ∃ m', F_X3_number lp w x t l o r m = some (lawF (nms w x t l o r) T, m') ∧ Fr SL m m' := by
  have hs : shp lp = (9, 3) := by rcases hlp with rfl | rfl <;> rfl
  have r0 : ∀ (k : Nat) (m : Mm) (v : Int32) (G : Mm → Option (Int32 × Mm)), k < 6 → wrI 6 m (lp + 4) (kI k) v G = G (pI m (lp + 4) k v) := fun k m v G h => wrI_kI (n := 6) (k := k) (by omega) (by omega) m (lp + 4) v G
  unfold F_X3_number
  rw [if_pos hs]
  simp only [iI_lit]
  rw [r0 0 _ _ _ (by omega), r0 1 _ _ _ (by omega), r0 2 _ _ _ (by omega), r0 3 _ _ _ (by omega), r0 4 _ _ _ (by omega), r0 5 _ _ _ (by omega)]
  have pf : ∀ (m1 : Mm) (j : Nat) (v : Int32), FrC (fun a _ => a = lp + 4) m m1 → FrC (fun a _ => a = lp + 4) m (pI m1 (lp + 4) j v) := fun _ _ _ h => h.put rfl
  have hf : FrC (fun a _ => a = lp + 4) m (pI (pI (pI (pI (pI (pI m (lp + 4) 0 w) (lp + 4) 1 x) (lp + 4) 2 t) (lp + 4) 3 l) (lp + 4) 4 o) (lp + 4) 5 r) := pf _ _ _ (pf _ _ _ (pf _ _ _ (pf _ _ _ (pf _ _ _ (pf _ _ _ FrC.refl)))))
  have he : ∀ k, k < 6 → gI (pI (pI (pI (pI (pI (pI m (lp + 4) 0 w) (lp + 4) 1 x) (lp + 4) 2 t) (lp + 4) 3 l) (lp + 4) 4 o) (lp + 4) 5 r) (lp + 4) k = nms w x t l o r k := fun k hk => by
    have q : k = 0 ∨ k = 1 ∨ k = 2 ∨ k = 3 ∨ k = 4 ∨ k = 5 := by omega
    simp only [gI_pI, true_and]
    rcases q with rfl | rfl | rfl | rfl | rfl | rfl <;> rfl
  generalize pI (pI (pI (pI (pI (pI m (lp + 4) 0 w) (lp + 4) 1 x) (lp + 4) 2 t) (lp + 4) 3 l) (lp + 4) 4 o) (lp + 4) 5 r = m1 at hf he
  have hC : Cd8 lp (lay T).length (lay T) (nms w x t l o r) m1 := by
    refine ⟨?_, h2, rfl, fun i hi => ?_, he⟩
    · rw [hf.1 lp 2 (by omega)]; exact h1
    · rw [hf.1 (lp + 1) i (by omega), hf.1 (lp + 2) i (by omega)]; exact h3 i hi
  obtain ⟨m2, a1, a2⟩ := lines8 T [] FU m1 hC hT rfl (by unfold FU; show _ < 1000000 + 0; omega)
  refine ⟨m2, a1, fun a q j => ?_, fun a j => (a2.2.1 a j).trans (hf.2.1 a j), fun a j => (a2.2.2 a j).trans (hf.2.2 a j)⟩
  unfold SL at q
  rw [a2.1 a j (by unfold K8; omega), hf.1 a j (by show ¬ a = lp + 4; omega)]
