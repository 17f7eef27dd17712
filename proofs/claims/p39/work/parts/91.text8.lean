/-! A TEXT, READ BY THE CLASS -/
def aI (c : Nat) : Int32 := if c = 256 then iI (-1) else kI c
theorem aI_kI {c : Nat} (h : c ≠ 256) : aI c = kI c := if_neg h
theorem aI_eq {c k : Nat} (hc : c ≤ 256) (hk : k < 256) : (aI c = kI k) ↔ c = k := by
  unfold aI
  by_cases z : c = 256
  · rw [if_pos z, kI_iI, iI_eq (by omega) (by omega)]; omega
  · rw [if_neg z, kI_eq (by omega) (by omega)]
def CLw (q a j : Nat) : Prop := (a = 16 ∧ (j = 2 ∨ j = 3)) ∨ (a = q ∧ (j = 2 ∨ j = 3)) ∨ a = q + 1 ∨ a = q + 2
def H8 (b : Nat → Nat) (l q : Nat) (m0 : Mm) : Prop := l ≤ 120 ∧ (∀ i, i < l → b i ≤ 255) ∧ (q = 6 ∨ q = 18) ∧ gI m0 16 1 = kI l ∧ (∀ i, i < l → gI m0 17 i = kI (b i)) ∧ gR m0 16 4 = q
/-- read so far: the place, where the last test stands, the draft -/
def P8 (q : Nat) (m0 m : Mm) (p : Nat) (L : Int32) (D : List (Nat × Nat)) : Prop := FrC (CLw q) m0 m ∧ gI m 16 2 = kI p ∧ gI m 16 3 = iI (-1) ∧ gI m q 2 = kI D.length ∧ gI m q 3 = L ∧ ∀ i, i < D.length → gI m (q + 1) i = kI (D.getD i (0, 0)).1 ∧ gI m (q + 2) i = kI (D.getD i (0, 0)).2
/-- a fault, told or about to be told -/
def Q8 (b : Nat → Nat) (l q : Nat) (m0 m : Mm) (f : Nat) : Prop := FrC (CLw q) m0 m ∧ f ≤ l ∧ (gI m 16 3 = kI f ∨ (gI m 16 3 = iI (-1) ∧ gI m 16 2 = kI f ∧ isD (cch b l f) = true)) ∧ ∃ n, n ≤ 121 ∧ gI m q 2 = kI n
def sgn (o : Nat) : Nat := if o = 1 then 35 else if o = 2 then 36 else if o = 3 then 33 else if o = 4 then 126 else o
def cls (t : List Ins) : List (Nat × Nat) := t.map (fun i => (sgn i.1, i.2))
theorem cls_app {t t' : List Ins} : cls (t ++ t') = cls t ++ cls t' := List.map_append
theorem cls_len {t : List Ins} : (cls t).length = t.length := List.length_map _
theorem cls_op {c : Nat} (h : 5 ≤ c) : cls [(c, 0)] = [(c, 0)] := by
  show [(sgn c, 0)] = [(c, 0)]
  unfold sgn
  rw [if_neg (by omega), if_neg (by omega), if_neg (by omega), if_neg (by omega)]
def Ex8 (b : Nat → Nat) (l q : Nat) (m0 : Mm) (X : Mm → Option (Unit × Mm)) (p : Nat) (r : Res) : Prop := ∀ m L D, P8 q m0 m p L D → D.length ≤ p → Wp (X m) fun _ m' => match r.2 with
  | some t => P8 q m0 m' r.1 L (D ++ cls t)
  | none => Q8 b l q m0 m' r.1
def Nop (v : Int32) : Prop := v = iI (-1) ∨ ∃ d, 48 ≤ d ∧ d ≤ 57 ∧ v = kI d
theorem nop_ne {v : Int32} {c : Nat} (h : Nop v) (hc : c < 48 ∨ (57 < c ∧ c < 256)) : ¬ v = kI c := by
  rcases h with rfl | ⟨d, d1, d2, rfl⟩
  · rw [kI_iI, iI_eq (by omega) (by omega)]; omega
  · rw [kI_eq (by omega) (by omega)]; omega
theorem nop_ne' {v : Int32} {c : Nat} (h : Nop v) (hc : c < 48 ∨ (57 < c ∧ c < 256)) : ¬ v = iI (c : Int) := nop_ne h hc
theorem getD_app2 {D : List (Nat × Nat)} {s v : Nat} {i : Nat} (h : i < D.length + 1) : (D ++ [(s, v)]).getD i (0, 0) = if i = D.length then (s, v) else D.getD i (0, 0) := by
  rw [List.getD_eq_getElem?_getD, List.getD_eq_getElem?_getD]
  by_cases z : i = D.length
  · rw [if_pos z, z, List.getElem?_concat_length]
    rfl
  · rw [if_neg z, List.getElem?_append_left (by omega)]
section T8
variable {b : Nat → Nat} {l q : Nat} {m0 : Mm}
theorem cch_le (H : H8 b l q m0) (p : Nat) : cch b l p ≤ 256 := by
  unfold cch
  split
  · next z => have := H.2.1 p z; omega
  · omega
theorem h8_tape {m : Mm} (H : H8 b l q m0) (h : FrC (CLw q) m0 m) : gI m 16 1 = kI l ∧ (∀ i, i < l → gI m 17 i = kI (b i)) ∧ gR m 16 4 = q ∧ shp q = (9, 3) := by
  obtain ⟨h1, h2, h3, h4, h5, h6⟩ := H
  refine ⟨?_, fun i hi => ?_, by rw [h.2.2]; exact h6, ?_⟩
  · rw [h.1 16 1 (by unfold CLw; omega)]; exact h4
  · rw [h.1 17 i (by unfold CLw; omega)]; exact h5 i hi
  · rcases h3 with h3 | h3
    · rw [h3]; exact sh6
    · rw [h3]; exact sh18
theorem ahead8 {m : Mm} {p : Nat} {L : Int32} {D : List (Nat × Nat)} (H : H8 b l q m0) (hp : p ≤ l) (h : P8 q m0 m p L D) : F_X6_ahead m = some (aI (cch b l p), m) := by
  obtain ⟨t1, t2, t3, t4⟩ := h8_tape H h.1
  have hl := H.1
  unfold F_X6_ahead
  rw [h.2.2.1, if_pos rfl, t1, h.2.1]
  by_cases z : p < l
  · have := H.2.1 p z
    rw [if_neg (by rw [kI_le (by omega) (by omega)]; omega), if_neg (by rw [iI_lit, kI_le (by omega) (by omega)]; omega), rd_kI (by omega) (by omega), t2 p z, cch_at z, aI_kI (by omega)]
  · have : p = l := by omega
    rw [if_pos (by rw [kI_le (by omega) (by omega)]; omega), this, cch_end]
    rfl
theorem ahead8q {m : Mm} {f : Nat} (H : H8 b l q m0) (h : Q8 b l q m0 m f) : ∃ v, F_X6_ahead m = some (v, m) ∧ Nop v := by
  obtain ⟨t1, t2, t3, t4⟩ := h8_tape H h.1
  have hl := H.1
  obtain ⟨-, hf, h3, -⟩ := h
  unfold F_X6_ahead
  rcases h3 with h3 | ⟨h3, h4, h5⟩
  · refine ⟨iI (-1), ?_, Or.inl rfl⟩
    rw [h3, if_neg (by rw [kI_iI, iI_eq (by omega) (by omega)]; omega)]
  · have z := isD_lt h5
    have d := isD_iff.mp h5
    rw [cch_at z] at d
    refine ⟨kI (b f), ?_, Or.inr ⟨b f, d.1, d.2, rfl⟩⟩
    rw [h3, if_pos rfl, t1, h4, if_neg (by rw [kI_le (by omega) (by omega)]; omega), if_neg (by rw [iI_lit, kI_le (by omega) (by omega)]; omega), rd_kI (by omega) (by omega), t2 f z]
theorem adv8 {m : Mm} {p : Nat} {L : Int32} {D : List (Nat × Nat)} (H : H8 b l q m0) (h : P8 q m0 m p L D) : P8 q m0 (pI m 16 2 (gI m 16 2 + iI 1)) (p + 1) L D := by
  have hq := H.2.2.1
  obtain ⟨h1, h2, h3, h4, h5, h6⟩ := h
  refine ⟨h1.put (Or.inl ⟨rfl, Or.inl rfl⟩), ?_, ?_, ?_, ?_, fun i hi => ?_⟩
  · rw [gI_pI, if_pos ⟨rfl, rfl⟩, h2, kI_a1]
  · rw [gI_pI, if_neg (by omega)]; exact h3
  · rw [gI_pI, if_neg (by omega)]; exact h4
  · rw [gI_pI, if_neg (by omega)]; exact h5
  · rw [gI_pI, if_neg (by omega), gI_pI, if_neg (by omega)]; exact h6 i hi
theorem comes8_yes {m : Mm} {p c : Nat} {L : Int32} {D : List (Nat × Nat)} (H : H8 b l q m0) (hp : p ≤ l) (h : P8 q m0 m p L D) (hc : cch b l p = c) (hc2 : c < 256) : F_X6_comes (kI c) m = some (kI 1, pI m 16 2 (gI m 16 2 + iI 1)) := by
  unfold F_X6_comes F_X6_comes_13
  rw [bnd_eq (ahead8 H hp h), hc, aI_kI (by omega), if_pos rfl, if_neg (by rw [iI_eq (by omega) (by omega)]; omega), nm_eq]
  rfl
theorem comes8_no {m : Mm} {p c : Nat} {L : Int32} {D : List (Nat × Nat)} (H : H8 b l q m0) (hp : p ≤ l) (h : P8 q m0 m p L D) (hc : cch b l p ≠ c) (hc2 : c < 256) : F_X6_comes (kI c) m = some (kI 0, m) := by
  unfold F_X6_comes F_X6_comes_13
  rw [bnd_eq (ahead8 H hp h), if_neg (fun z => hc ((aI_eq (cch_le H p) hc2).mp z)), if_pos rfl]
  rfl
theorem comes8_q {m : Mm} {f c : Nat} (H : H8 b l q m0) (h : Q8 b l q m0 m f) (hc : c < 48 ∨ (57 < c ∧ c < 256)) : F_X6_comes (kI c) m = some (kI 0, m) := by
  obtain ⟨v, a1, a2⟩ := ahead8q H h
  unfold F_X6_comes F_X6_comes_13
  rw [bnd_eq a1, if_neg (nop_ne a2 hc), if_pos rfl]
  rfl
theorem wr8 {m : Mm} {x : Int32} {s v p : Nat} {L : Int32} {D : List (Nat × Nat)} (H : H8 b l q m0) (hx : nC x = kI s) (h : P8 q m0 m p L D) (hD : D.length < 121) : ∃ m', F_X3_write q x (kI v) m = some ((), m') ∧ P8 q m0 m' p L (D ++ [(s, v)]) := by
  obtain ⟨t1, t2, t3, t4⟩ := h8_tape H h.1
  have hq := H.2.2.1
  obtain ⟨h1, h2, h3, h4, h5, h6⟩ := h
  refine ⟨pI (pI (pI m (q + 1) D.length (kI s)) (q + 2) D.length (kI v)) q 2 (kI (D.length + 1)), ?_, ((h1.put (Or.inr (Or.inr (Or.inl rfl)))).put (Or.inr (Or.inr (Or.inr rfl)))).put (Or.inr (Or.inl ⟨rfl, Or.inl rfl⟩)), ?_, ?_, ?_, ?_, fun i hi => ?_⟩
  · unfold F_X3_write
    rw [if_pos t4, h4, if_neg (by rw [iI_lit, kI_le (by omega) (by omega)]; omega), hx, wrI_kI hD (by omega), gI_pI, if_neg (by omega), h4, wrI_kI hD (by omega), nm_eq, gI_pI, if_neg (by omega), gI_pI, if_neg (by omega), h4, kI_a1]
  · rw [gI_pI, if_neg (by omega), gI_pI, if_neg (by omega), gI_pI, if_neg (by omega)]; exact h2
  · rw [gI_pI, if_neg (by omega), gI_pI, if_neg (by omega), gI_pI, if_neg (by omega)]; exact h3
  · rw [gI_pI, if_pos ⟨rfl, rfl⟩, List.length_append]; rfl
  · rw [gI_pI, if_neg (by omega), gI_pI, if_neg (by omega), gI_pI, if_neg (by omega)]; exact h5
  · rw [List.length_append] at hi
    have hi : i < D.length + 1 := hi
    rw [getD_app2 hi]
    refine ⟨?_, ?_⟩
    · rw [gI_pI, if_neg (by omega), gI_pI, if_neg (by omega), gI_pI]
      by_cases z : i = D.length
      · rw [if_pos ⟨rfl, z⟩, if_pos z]
      · rw [if_neg (fun w => z w.2), if_neg z]
        exact (h6 i (by omega)).1
    · rw [gI_pI, if_neg (by omega), gI_pI]
      by_cases z : i = D.length
      · rw [if_pos ⟨rfl, z⟩, if_pos z]
      · rw [if_neg (fun w => z w.2), if_neg z, gI_pI, if_neg (by omega)]
        exact (h6 i (by omega)).2
theorem wr8q {m : Mm} {x v : Int32} {f : Nat} (H : H8 b l q m0) (h : Q8 b l q m0 m f) : ∃ m', F_X3_write q x v m = some ((), m') ∧ Q8 b l q m0 m' f := by
  obtain ⟨t1, t2, t3, t4⟩ := h8_tape H h.1
  have hq := H.2.2.1
  obtain ⟨h1, hf, h3, n, n1, n2⟩ := h
  unfold F_X3_write
  rw [if_pos t4, n2]
  by_cases z : 121 ≤ n
  · exact ⟨m, by rw [if_pos (by rw [iI_lit, kI_le (by omega) (by omega)]; exact z)], h1, hf, h3, n, n1, n2⟩
  · refine ⟨pI (pI (pI m (q + 1) n (nC x)) (q + 2) n v) q 2 (kI (n + 1)), ?_, ((h1.put (Or.inr (Or.inr (Or.inl rfl)))).put (Or.inr (Or.inr (Or.inr rfl)))).put (Or.inr (Or.inl ⟨rfl, Or.inl rfl⟩)), hf, ?_, n + 1, by omega, ?_⟩
    · rw [if_neg (by rw [iI_lit, kI_le (by omega) (by omega)]; exact z), wrI_kI (by omega) (by omega), gI_pI, if_neg (by omega), n2, wrI_kI (by omega) (by omega), nm_eq, gI_pI, if_neg (by omega), gI_pI, if_neg (by omega), n2, kI_a1]
    · rw [gI_pI, if_neg (by omega), gI_pI, if_neg (by omega), gI_pI, if_neg (by omega), gI_pI, if_neg (by omega), gI_pI, if_neg (by omega), gI_pI, if_neg (by omega)]; exact h3
    · rw [gI_pI, if_pos ⟨rfl, rfl⟩]
theorem write8 {m : Mm} {x : Int32} {s p : Nat} {L : Int32} {D : List (Nat × Nat)} (H : H8 b l q m0) (hx : nC x = kI s) (h : P8 q m0 m p L D) (hD : D.length < 121) : ∃ m', F_X6_write x m = some ((), m') ∧ P8 q m0 m' p L (D ++ [(s, 0)]) := by
  obtain ⟨t1, t2, t3, t4⟩ := h8_tape H h.1
  obtain ⟨m', a1, a2⟩ := wr8 (v := 0) H hx h hD
  refine ⟨m', ?_, a2⟩
  have a1 : F_X3_write q x (iI 0) m = some ((), m') := a1
  unfold F_X6_write
  rw [t3, gdS_yes t4, bnd_eq a1]
theorem write8q {m : Mm} {x : Int32} {f : Nat} (H : H8 b l q m0) (h : Q8 b l q m0 m f) : ∃ m', F_X6_write x m = some ((), m') ∧ Q8 b l q m0 m' f := by
  obtain ⟨t1, t2, t3, t4⟩ := h8_tape H h.1
  obtain ⟨m', a1, a2⟩ := wr8q (x := x) (v := iI 0) H h
  refine ⟨m', ?_, a2⟩
  unfold F_X6_write
  rw [t3, gdS_yes t4, bnd_eq a1]
theorem fail8 {m : Mm} {p : Nat} {L : Int32} {D : List (Nat × Nat)} (H : H8 b l q m0) (hp : p ≤ l) (h : P8 q m0 m p L D) (hD : D.length ≤ 121) : ∃ m', F_X6_fail m = some ((), m') ∧ Q8 b l q m0 m' p := by
  have hq := H.2.2.1
  refine ⟨pI m 16 3 (kI p), ?_, h.1.put (Or.inl ⟨rfl, Or.inr rfl⟩), hp, Or.inl ?_, D.length, hD, ?_⟩
  · unfold F_X6_fail
    rw [h.2.2.1, if_pos rfl, nm_eq, h.2.1]
  · rw [gI_pI, if_pos ⟨rfl, rfl⟩]
  · rw [gI_pI, if_neg (by omega)]; exact h.2.2.2.1
theorem fail8q {m : Mm} {f : Nat} (H : H8 b l q m0) (h : Q8 b l q m0 m f) : ∃ m', F_X6_fail m = some ((), m') ∧ Q8 b l q m0 m' f ∧ gI m' 16 3 = kI f := by
  have hq := H.2.2.1
  have hl := H.1
  obtain ⟨h1, hf, h3, n, n1, n2⟩ := h
  unfold F_X6_fail
  rcases h3 with h3 | ⟨h3, h4, h5⟩
  · refine ⟨m, ?_, ⟨h1, hf, Or.inl h3, n, n1, n2⟩, h3⟩
    rw [h3, if_neg (by rw [kI_iI, iI_eq (by omega) (by omega)]; omega)]
  · have e : gI (pI m 16 3 (kI f)) 16 3 = kI f := by rw [gI_pI, if_pos ⟨rfl, rfl⟩]
    refine ⟨pI m 16 3 (kI f), ?_, ⟨h1.put (Or.inl ⟨rfl, Or.inr rfl⟩), hf, Or.inl e, n, n1, ?_⟩, e⟩
    · rw [h3, if_pos rfl, nm_eq, h4]
    · rw [gI_pI, if_neg (by omega)]; exact n2
theorem isDig8 {c : Nat} {m : Mm} (hc : c ≤ 256) : F_X6_isDigit (aI c) m = some (if isD c = true then kI 1 else kI 0, m) := by
  unfold F_X6_isDigit
  by_cases z : c = 256
  · rw [z]; rfl
  · rw [aI_kI z]
    by_cases y : isD c = true
    · have := isD_iff.mp y
      rw [if_pos y, if_neg (by rw [iI_lit, kI_lt (by omega) (by omega)]; omega), if_neg (by rw [iI_lit, kI_lt (by omega) (by omega)]; omega)]
      rfl
    · have y' : ¬ (48 ≤ c ∧ c ≤ 57) := fun w => y (isD_iff.mpr w)
      rw [if_neg y]
      by_cases x : c < 48
      · rw [if_pos (by rw [iI_lit, kI_lt (by omega) (by omega)]; exact x)]; rfl
      · rw [if_neg (by rw [iI_lit, kI_lt (by omega) (by omega)]; exact x), if_pos (by rw [iI_lit, kI_lt (by omega) (by omega)]; omega)]; rfl
theorem name8 {c : Nat} {m : Mm} (hc : c ≤ 256) : F_X3_nameOf (aI c) m = some (kO (nmO c), m) := by
  have go : ∀ k, k < 256 → F_X3_nameOf (kI k) m = some (kO (nmO k), m) := by
    intro k hk
    unfold F_X3_nameOf
    refine (tsw_kI (by omega) (lo := 108)).trans ?_
    by_cases z : 108 ≤ k ∧ k < 121
    · refine (if_pos (show 108 ≤ k ∧ k < 108 + 13 from z)).trans ?_
      have : k = 108 ∨ k = 109 ∨ k = 110 ∨ k = 111 ∨ k = 112 ∨ k = 113 ∨ k = 114 ∨ k = 115 ∨ k = 116 ∨ k = 117 ∨ k = 118 ∨ k = 119 ∨ k = 120 := by omega
      rcases this with rfl | rfl | rfl | rfl | rfl | rfl | rfl | rfl | rfl | rfl | rfl | rfl | rfl <;> rfl
    · refine (if_neg (show ¬ (108 ≤ k ∧ k < 108 + 13) from z)).trans ?_
      have : nmO k = none := by
        unfold nmO
        rw [if_neg (by omega), if_neg (by omega), if_neg (by omega), if_neg (by omega), if_neg (by omega), if_neg (by omega)]
      rw [this]
      rfl
  by_cases z : c = 256
  · rw [z]; rfl
  · rw [aI_kI z]; exact go c (by omega)
theorem num8_loop {L : Int32} {D : List (Nat × Nat)} (H : H8 b l q m0) (hD : D.length < 121) : ∀ c n p v f (m : Mm), n + c = 4 → c < f → p ≤ l → v < 10 ^ n → P8 q m0 m p L D → ∃ m', F_X6_number_4 f (kI v) (kI n) m = some ((), m') ∧ P8 q m0 m' (dgs (cch b l) c p v).1 L (D ++ [(35, (dgs (cch b l) c p v).2)]) := by
  have wr : ∀ p v (m : Mm), P8 q m0 m p L D → ∃ m', F_X6_number_48 (kI v) m = some ((), m') ∧ P8 q m0 m' p L (D ++ [(35, v)]) := by
    intro p v m h
    obtain ⟨t1, t2, t3, t4⟩ := h8_tape H h.1
    obtain ⟨m', a1, a2⟩ := wr8 (x := iI 35) (s := 35) (v := v) H (by decide) h hD
    refine ⟨m', ?_, a2⟩
    unfold F_X6_number_48
    rw [t3, gdS_yes t4, bnd_eq a1]
  intro c
  induction c with
  | zero =>
    intro n p v f m hn hf hp hv h
    obtain ⟨f, rfl⟩ : ∃ g, f = g + 1 := ⟨f - 1, by omega⟩
    obtain ⟨m', a1, a2⟩ := wr p v m h
    refine ⟨m', ?_, a2⟩
    rw [F_X6_number_4, if_pos (by rw [iI_lit, kI_le (by omega) (by omega)]; omega), a1]
  | succ c ih =>
    intro n p v f m hn hf hp hv h
    obtain ⟨f, rfl⟩ : ∃ g, f = g + 1 := ⟨f - 1, by omega⟩
    have hle := cch_le H p
    have edg : dgs (cch b l) (c + 1) p v = if isD (cch b l p) = true then dgs (cch b l) c (p + 1) (10 * v + (cch b l p - 48)) else (p, v) := rfl
    have hv4 : 10 ^ n ≤ 10 ^ 3 := Nat.pow_le_pow_right (by omega) (by omega)
    rw [edg, F_X6_number_4, if_neg (by rw [iI_lit, kI_le (by omega) (by omega)]; omega), bnd_eq (ahead8 H hp h), bnd_eq (isDig8 hle)]
    by_cases z : isD (cch b l p) = true
    · have d := isD_iff.mp z
      have zl := isD_lt z
      have e2 : ((iI 10) * kI v) + (aI (cch b l p) - iI 48) = kI (10 * v + (cch b l p - 48)) := by
        rw [aI_kI (by omega), iI_lit, kI_mul, iI_lit, kI_sub (by omega), kI_add]
      rw [if_pos z, if_pos z, if_neg k1_ne0, bnd_eq (ahead8 H hp h), nm_eq, nm_eq, nm_eq, e2, kI_a1]
      have hpw : 10 ^ (n + 1) = 10 ^ n * 10 := Nat.pow_succ ..
      exact ih (n + 1) (p + 1) _ f _ (by omega) (by omega) (by omega) (by omega) (adv8 H h)
    · obtain ⟨m', a1, a2⟩ := wr p v m h
      rw [if_neg z, if_neg z, if_pos k0_eq0]
      exact ⟨m', a1, a2⟩
theorem num8 {p : Nat} (H : H8 b l q m0) (hd : isD (cch b l p) = true) : Ex8 b l q m0 (fun m => F_X6_number m) p (numR (cch b l) p) := by
  intro m L D h hD
  have hp := isD_lt hd
  have hl := H.1
  obtain ⟨m', a1, a2⟩ := num8_loop H (show D.length < 121 by omega) 4 0 p 0 FU m (by omega) (by unfold FU; omega) (by omega) (by show 0 < 1; omega) h
  have g := dgs_gr (b := b) (l := l) 4 p 0 (by omega)
  refine ⟨(), m', a1, ?_⟩
  unfold numR
  by_cases z : isD (cch b l (dgs (cch b l) 4 p 0).1) = true
  · rw [if_pos z]
    refine ⟨a2.1, g.2.1, Or.inr ⟨a2.2.2.1, a2.2.1, z⟩, _, ?_, a2.2.2.2.1⟩
    rw [List.length_append]
    show D.length + 1 ≤ 121
    omega
  · rw [if_neg z]
    exact a2
theorem op_nC {c : Nat} (h : c ≤ 255) : nC (((aI c).toUInt32 % 65536).toInt32) = kI c := by
  rw [aI_kI (by omega)]
  exact (feed_val h).1
theorem prdif8 {α : Type} {X Y : α} {c : Nat} (hc : c ≤ 256) : (if aI c = iI 42 then X else if aI c = iI 47 then X else if aI c = iI 37 then X else Y) = if oPrd c = true then X else Y := by
  unfold oPrd
  by_cases z : c = 42 ∨ c = 47 ∨ c = 37
  · rw [if_pos (decide_eq_true z)]
    rcases z with rfl | rfl | rfl
    · exact if_pos rfl
    · rw [if_neg (by decide)]; exact if_pos rfl
    · rw [if_neg (by decide)]; rw [if_neg (by decide)]; exact if_pos rfl
  · rw [if_neg (fun w => z (of_decide_eq_true w))]
    have e : ∀ k, k < 256 → ¬ c = k → ¬ aI c = iI (k : Int) := fun k hk h w => h ((aI_eq hc hk).mp w)
    rw [if_neg (show ¬ aI c = iI 42 from e 42 (by omega) (by omega)), if_neg (show ¬ aI c = iI 47 from e 47 (by omega) (by omega)), if_neg (show ¬ aI c = iI 37 from e 37 (by omega) (by omega))]
theorem prdq8 {g : Int32 → Mm → Option (Unit × Mm)} {a v n : Int32} {f : Nat} {m : Mm} (h : Nop v) : F_X6_product_12 g (f + 1) a v n m = some ((), m) := by
  rw [F_X6_product_12, if_neg (show ¬ v = iI 42 from nop_ne (c := 42) h (by omega)), if_neg (show ¬ v = iI 47 from nop_ne (c := 47) h (by omega)), if_neg (show ¬ v = iI 37 from nop_ne (c := 37) h (by omega))]
  simp only [ite_self]
theorem prdloop8 {g : Int32 → Mm → Option (Unit × Mm)} {a : Int32} {O : Nat → Res} {L : Int32} {D : List (Nat × Nat)} (H : H8 b l q m0) (hg : ∀ p, p ≤ l → GR l p (O p)) (hs : ∀ p, p ≤ l → Ex8 b l q m0 (fun m => g a m) p (O p)) : ∀ M p n t f (m : Mm), l - p < M → l - p + 1 < f → p ≤ l → n < p → D.length + t.length ≤ p → P8 q m0 m p L (D ++ cls t) → Wp (F_X6_product_12 g f a (aI (cch b l p)) (kI n) m) fun _ m' => match (lev (cch b l) oPrd O M p t).2 with
    | some t' => P8 q m0 m' (lev (cch b l) oPrd O M p t).1 L (D ++ cls t')
    | none => Q8 b l q m0 m' (lev (cch b l) oPrd O M p t).1 := by
  have hl := H.1
  intro M
  induction M with
  | zero => exact fun p n t f m h => absurd h (by omega)
  | succ M ih =>
    intro p n t f m hM hf hp hn hD h
    obtain ⟨f, rfl⟩ : ∃ x, f = x + 1 := ⟨f - 1, by omega⟩
    have hle := cch_le H p
    rw [F_X6_product_12, if_neg (by rw [iI_lit, kI_le (by omega) (by omega)]; omega), prdif8 hle]
    have el : lev (cch b l) oPrd O (M + 1) p t = if oPrd (cch b l p) = true then match O (p + 1) with
        | (p', none) => (p', none)
        | (p', some t') => lev (cch b l) oPrd O M p' (t ++ t' ++ [(cch b l p, 0)])
      else (p, some t) := rfl
    rw [el]
    by_cases z : oPrd (cch b l p) = true
    · rw [if_pos z, if_pos z]
      have zl := cch_lt (b := b) (ok_oPrd _ z).1
      have z5 := (ok_oPrd _ z).2.2.1
      have g1 := hg (p + 1) (by omega)
      have s1 := hs (p + 1) (by omega) _ L (D ++ cls t) (adv8 H h) (by rw [List.length_append, cls_len]; omega)
      obtain ⟨_, m3, a1, a2⟩ := s1
      unfold F_X6_product_36
      rw [nm_eq, bnd_eq a1]
      generalize O (p + 1) = r at g1 a2
      obtain ⟨p', o⟩ := r
      cases o with
      | none =>
        have a2 : Q8 b l q m0 m3 p' := a2
        obtain ⟨m5, b1, b2⟩ := write8q (x := ((aI (cch b l p)).toUInt32 % 65536).toInt32) H a2
        obtain ⟨v, c1, c2⟩ := ahead8q H b2
        obtain ⟨f, rfl⟩ : ∃ x, f = x + 1 := ⟨f - 1, by omega⟩
        rw [bnd_eq b1, bnd_eq c1, nm_eq, prdq8 c2]
        exact ⟨(), m5, rfl, b2⟩
      | some t' =>
        have g1 : p + 1 < p' ∧ p' ≤ l ∧ p + 1 + t'.length ≤ p' ∧ 1 ≤ t'.length := g1
        have a2 : P8 q m0 m3 p' L (D ++ cls t ++ cls t') := a2
        obtain ⟨m5, b1, b2⟩ := write8 H (op_nC (c := cch b l p) (by have := (ok_oPrd _ z).2.1; omega)) a2 (by rw [List.length_append, List.length_append, cls_len, cls_len]; omega)
        have e3 : D ++ cls t ++ cls t' ++ [(cch b l p, 0)] = D ++ cls (t ++ t' ++ [(cch b l p, 0)]) := by
          rw [cls_app, cls_app, cls_op z5, List.append_assoc, List.append_assoc, List.append_assoc]
        rw [e3] at b2
        rw [bnd_eq b1, bnd_eq (ahead8 H g1.2.1 b2), nm_eq, kI_a1]
        exact ih p' (n + 1) _ f m5 (by omega) (by omega) g1.2.1 (by omega) (by
          rw [List.length_append, List.length_append]
          show D.length + (t.length + t'.length + 1) ≤ p'
          omega) b2
    · rw [if_neg z, if_neg z]
      exact ⟨(), m, rfl, h⟩
theorem prdc8 {g : Int32 → Mm → Option (Unit × Mm)} {a : Int32} {O : Nat → Res} (H : H8 b l q m0) (hg : ∀ p, p ≤ l → GR l p (O p)) (hs : ∀ p, p ≤ l → Ex8 b l q m0 (fun m => g a m) p (O p)) (p : Nat) (hp : p ≤ l) : Ex8 b l q m0 (fun m => B_X6_product g a m) p (levS (cch b l) oPrd O p) := by
  intro m L D h hD
  have hl := H.1
  obtain ⟨_, m2, a1, a2⟩ := hs p hp m L D h hD
  have g1 := hg p hp
  show Wp (bnd (g a m) fun _ m2 => bnd (F_X6_ahead m2) fun v3 m4 => F_X6_product_12 g FU a v3 (iI 0) m4) _
  unfold levS
  rw [bnd_eq a1]
  generalize O p = r at g1 a2
  obtain ⟨p', o⟩ := r
  cases o with
  | none =>
    have a2 : Q8 b l q m0 m2 p' := a2
    obtain ⟨v, c1, c2⟩ := ahead8q H a2
    rw [bnd_eq c1, show FU = 999999 + 1 from rfl, prdq8 c2]
    exact ⟨(), m2, rfl, a2⟩
  | some t =>
    have g1 : p < p' ∧ p' ≤ l ∧ p + t.length ≤ p' ∧ 1 ≤ t.length := g1
    have a2 : P8 q m0 m2 p' L (D ++ cls t) := a2
    rw [bnd_eq (ahead8 H g1.2.1 a2)]
    exact prdloop8 H hg hs 130 p' 0 t FU m2 (by omega) (by unfold FU; omega) g1.2.1 (by omega) (by omega) a2
theorem sumif8 {α : Type} {X Y : α} {c : Nat} (hc : c ≤ 256) : (if aI c = iI 43 then X else if aI c = iI 45 then X else Y) = if oSum c = true then X else Y := by
  unfold oSum
  by_cases z : c = 43 ∨ c = 45
  · rw [if_pos (decide_eq_true z)]
    rcases z with rfl | rfl
    · exact if_pos rfl
    · rw [if_neg (by decide)]; exact if_pos rfl
  · rw [if_neg (fun w => z (of_decide_eq_true w))]
    have e : ∀ k, k < 256 → ¬ c = k → ¬ aI c = iI (k : Int) := fun k hk h w => h ((aI_eq hc hk).mp w)
    rw [if_neg (show ¬ aI c = iI 43 from e 43 (by omega) (by omega)), if_neg (show ¬ aI c = iI 45 from e 45 (by omega) (by omega))]
theorem sumq8 {g : Int32 → Mm → Option (Unit × Mm)} {a v n : Int32} {f : Nat} {m : Mm} (h : Nop v) : F_X6_sum_12 g (f + 1) a v n m = some ((), m) := by
  rw [F_X6_sum_12, if_neg (show ¬ v = iI 43 from nop_ne (c := 43) h (by omega)), if_neg (show ¬ v = iI 45 from nop_ne (c := 45) h (by omega))]
  simp only [ite_self]
theorem sumloop8 {g : Int32 → Mm → Option (Unit × Mm)} {a : Int32} {O : Nat → Res} {L : Int32} {D : List (Nat × Nat)} (H : H8 b l q m0) (hg : ∀ p, p ≤ l → GR l p (O p)) (hs : ∀ p, p ≤ l → Ex8 b l q m0 (fun m => g a m) p (O p)) : ∀ M p n t f (m : Mm), l - p < M → l - p + 1 < f → p ≤ l → n < p → D.length + t.length ≤ p → P8 q m0 m p L (D ++ cls t) → Wp (F_X6_sum_12 g f a (aI (cch b l p)) (kI n) m) fun _ m' => match (lev (cch b l) oSum O M p t).2 with
    | some t' => P8 q m0 m' (lev (cch b l) oSum O M p t).1 L (D ++ cls t')
    | none => Q8 b l q m0 m' (lev (cch b l) oSum O M p t).1 := by
  have hl := H.1
  intro M
  induction M with
  | zero => exact fun p n t f m h => absurd h (by omega)
  | succ M ih =>
    intro p n t f m hM hf hp hn hD h
    obtain ⟨f, rfl⟩ : ∃ x, f = x + 1 := ⟨f - 1, by omega⟩
    have hle := cch_le H p
    rw [F_X6_sum_12, if_neg (by rw [iI_lit, kI_le (by omega) (by omega)]; omega), sumif8 hle]
    have el : lev (cch b l) oSum O (M + 1) p t = if oSum (cch b l p) = true then match O (p + 1) with
        | (p', none) => (p', none)
        | (p', some t') => lev (cch b l) oSum O M p' (t ++ t' ++ [(cch b l p, 0)])
      else (p, some t) := rfl
    rw [el]
    by_cases z : oSum (cch b l p) = true
    · rw [if_pos z, if_pos z]
      have zl := cch_lt (b := b) (ok_oSum _ z).1
      have z5 := (ok_oSum _ z).2.2.1
      have g1 := hg (p + 1) (by omega)
      have s1 := hs (p + 1) (by omega) _ L (D ++ cls t) (adv8 H h) (by rw [List.length_append, cls_len]; omega)
      obtain ⟨_, m3, a1, a2⟩ := s1
      unfold F_X6_sum_30
      rw [nm_eq, bnd_eq a1]
      generalize O (p + 1) = r at g1 a2
      obtain ⟨p', o⟩ := r
      cases o with
      | none =>
        have a2 : Q8 b l q m0 m3 p' := a2
        obtain ⟨m5, b1, b2⟩ := write8q (x := ((aI (cch b l p)).toUInt32 % 65536).toInt32) H a2
        obtain ⟨v, c1, c2⟩ := ahead8q H b2
        obtain ⟨f, rfl⟩ : ∃ x, f = x + 1 := ⟨f - 1, by omega⟩
        rw [bnd_eq b1, bnd_eq c1, nm_eq, sumq8 c2]
        exact ⟨(), m5, rfl, b2⟩
      | some t' =>
        have g1 : p + 1 < p' ∧ p' ≤ l ∧ p + 1 + t'.length ≤ p' ∧ 1 ≤ t'.length := g1
        have a2 : P8 q m0 m3 p' L (D ++ cls t ++ cls t') := a2
        obtain ⟨m5, b1, b2⟩ := write8 H (op_nC (c := cch b l p) (by have := (ok_oSum _ z).2.1; omega)) a2 (by rw [List.length_append, List.length_append, cls_len, cls_len]; omega)
        have e3 : D ++ cls t ++ cls t' ++ [(cch b l p, 0)] = D ++ cls (t ++ t' ++ [(cch b l p, 0)]) := by
          rw [cls_app, cls_app, cls_op z5, List.append_assoc, List.append_assoc, List.append_assoc]
        rw [e3] at b2
        rw [bnd_eq b1, bnd_eq (ahead8 H g1.2.1 b2), nm_eq, kI_a1]
        exact ih p' (n + 1) _ f m5 (by omega) (by omega) g1.2.1 (by omega) (by
          rw [List.length_append, List.length_append]
          show D.length + (t.length + t'.length + 1) ≤ p'
          omega) b2
    · rw [if_neg z, if_neg z]
      exact ⟨(), m, rfl, h⟩
theorem sumc8 {g : Int32 → Mm → Option (Unit × Mm)} {a : Int32} {O : Nat → Res} (H : H8 b l q m0) (hg : ∀ p, p ≤ l → GR l p (O p)) (hs : ∀ p, p ≤ l → Ex8 b l q m0 (fun m => g a m) p (O p)) (p : Nat) (hp : p ≤ l) : Ex8 b l q m0 (fun m => B_X6_sum g a m) p (levS (cch b l) oSum O p) := by
  intro m L D h hD
  have hl := H.1
  obtain ⟨_, m2, a1, a2⟩ := hs p hp m L D h hD
  have g1 := hg p hp
  show Wp (bnd (g a m) fun _ m2 => bnd (F_X6_ahead m2) fun v3 m4 => F_X6_sum_12 g FU a v3 (iI 0) m4) _
  unfold levS
  rw [bnd_eq a1]
  generalize O p = r at g1 a2
  obtain ⟨p', o⟩ := r
  cases o with
  | none =>
    have a2 : Q8 b l q m0 m2 p' := a2
    obtain ⟨v, c1, c2⟩ := ahead8q H a2
    rw [bnd_eq c1, show FU = 999999 + 1 from rfl, sumq8 c2]
    exact ⟨(), m2, rfl, a2⟩
  | some t =>
    have g1 : p < p' ∧ p' ≤ l ∧ p + t.length ≤ p' ∧ 1 ≤ t.length := g1
    have a2 : P8 q m0 m2 p' L (D ++ cls t) := a2
    rw [bnd_eq (ahead8 H g1.2.1 a2)]
    exact sumloop8 H hg hs 130 p' 0 t FU m2 (by omega) (by unfold FU; omega) g1.2.1 (by omega) (by omega) a2
theorem cif8 {α : Type} {X Y : α} {c : Nat} (hc : c ≤ 256) : (if aI c = iI 60 then X else if aI c = iI 61 then X else if aI c = iI 62 then X else Y) = if oCmp c = true then X else Y := by
  unfold oCmp
  by_cases z : c = 60 ∨ c = 61 ∨ c = 62
  · rw [if_pos (decide_eq_true z)]
    rcases z with rfl | rfl | rfl
    · exact if_pos rfl
    · rw [if_neg (by decide)]; exact if_pos rfl
    · rw [if_neg (by decide), if_neg (by decide)]; exact if_pos rfl
  · rw [if_neg (fun w => z (of_decide_eq_true w))]
    have e : ∀ k, k < 256 → ¬ c = k → ¬ aI c = iI (k : Int) := fun k hk h w => h ((aI_eq hc hk).mp w)
    rw [if_neg (show ¬ aI c = iI 60 from e 60 (by omega) (by omega)), if_neg (show ¬ aI c = iI 61 from e 61 (by omega) (by omega)), if_neg (show ¬ aI c = iI 62 from e 62 (by omega) (by omega))]
theorem cmpc8 {g : Int32 → Mm → Option (Unit × Mm)} {a : Int32} {O : Nat → Res} (H : H8 b l q m0) (hg : ∀ p, p ≤ l → GR l p (O p)) (hs : ∀ p, p ≤ l → Ex8 b l q m0 (fun m => g a m) p (O p)) (p : Nat) (hp : p ≤ l) : Ex8 b l q m0 (fun m => B_X6_compared g a m) p (cmpS (cch b l) oCmp O p) := by
  intro m L D h hD
  have hl := H.1
  obtain ⟨_, m2, a1, a2⟩ := hs p hp m L D h hD
  have g1 := hg p hp
  show Wp (B_X6_compared g a m) _
  unfold B_X6_compared cmpS
  rw [bnd_eq a1]
  generalize O p = r at g1 a2
  obtain ⟨p', o⟩ := r
  cases o with
  | none =>
    have a2 : Q8 b l q m0 m2 p' := a2
    obtain ⟨v, c1, c2⟩ := ahead8q H a2
    rw [bnd_eq c1, if_neg (show ¬ v = iI 60 from nop_ne (c := 60) c2 (by omega)), if_neg (show ¬ v = iI 61 from nop_ne (c := 61) c2 (by omega)), if_neg (show ¬ v = iI 62 from nop_ne (c := 62) c2 (by omega))]
    exact ⟨(), m2, rfl, a2⟩
  | some t =>
    have g1 : p < p' ∧ p' ≤ l ∧ p + t.length ≤ p' ∧ 1 ≤ t.length := g1
    have a2 : P8 q m0 m2 p' L (D ++ cls t) := a2
    have hle := cch_le H p'
    rw [bnd_eq (ahead8 H g1.2.1 a2), cif8 hle]
    show Wp _ fun _ m' => match (if oCmp (cch b l p') = true then match O (p' + 1) with
      | (p2, none) => (p2, none)
      | (p2, some t2) => (p2, some (t ++ t2 ++ [(cch b l p', 0)]))
    else (p', some t)).2 with
      | some t' => P8 q m0 m' (if oCmp (cch b l p') = true then match O (p' + 1) with
      | (p2, none) => (p2, none)
      | (p2, some t2) => (p2, some (t ++ t2 ++ [(cch b l p', 0)]))
    else (p', some t)).1 L (D ++ cls t')
      | none => Q8 b l q m0 m' (if oCmp (cch b l p') = true then match O (p' + 1) with
      | (p2, none) => (p2, none)
      | (p2, some t2) => (p2, some (t ++ t2 ++ [(cch b l p', 0)]))
    else (p', some t)).1
    by_cases z : oCmp (cch b l p') = true
    · rw [if_pos z, if_pos z]
      have zl := cch_lt (b := b) (ok_oCmp _ z).1
      have z5 := (ok_oCmp _ z).2.2.1
      have g2 := hg (p' + 1) (by omega)
      obtain ⟨_, m3, b1, b2⟩ := hs (p' + 1) (by omega) _ L (D ++ cls t) (adv8 H a2) (by rw [List.length_append, cls_len]; omega)
      unfold F_X6_compared_28
      rw [nm_eq, bnd_eq b1]
      generalize O (p' + 1) = r at g2 b2
      obtain ⟨p2, o2⟩ := r
      cases o2 with
      | none =>
        have b2 : Q8 b l q m0 m3 p2 := b2
        obtain ⟨m5, c1, c2⟩ := write8q (x := ((aI (cch b l p')).toUInt32 % 65536).toInt32) H b2
        rw [bnd_eq c1]
        exact ⟨(), m5, rfl, c2⟩
      | some t2 =>
        have g2 : p' + 1 < p2 ∧ p2 ≤ l ∧ p' + 1 + t2.length ≤ p2 ∧ 1 ≤ t2.length := g2
        have b2 : P8 q m0 m3 p2 L (D ++ cls t ++ cls t2) := b2
        obtain ⟨m5, c1, c2⟩ := write8 H (op_nC (c := cch b l p') (by have := (ok_oCmp _ z).2.1; omega)) b2 (by rw [List.length_append, List.length_append, cls_len, cls_len]; omega)
        have e3 : D ++ cls t ++ cls t2 ++ [(cch b l p', 0)] = D ++ cls (t ++ t2 ++ [(cch b l p', 0)]) := by
          rw [cls_app, cls_app, cls_op z5, List.append_assoc, List.append_assoc, List.append_assoc]
        rw [e3] at c2
        rw [bnd_eq c1]
        exact ⟨(), m5, rfl, c2⟩
    · rw [if_neg z, if_neg z]
      exact ⟨(), m2, rfl, a2⟩
theorem andq8 {g : Int32 → Mm → Option (Unit × Mm)} {a n : Int32} {f k : Nat} {m : Mm} (H : H8 b l q m0) (h : Q8 b l q m0 m k) : F_X6_both_7 g (f + 1) a n m = some ((), m) := by
  have c := comes8_q (c := 38) H h (by omega)
  have c : F_X6_comes (iI 38) m = some (kI 0, m) := c
  rw [F_X6_both_7, bnd_eq c, if_pos k0_eq0]
  simp only [ite_self]
theorem andloop8 {g : Int32 → Mm → Option (Unit × Mm)} {a : Int32} {O : Nat → Res} {L : Int32} {D : List (Nat × Nat)} (H : H8 b l q m0) (hg : ∀ p, p ≤ l → GR l p (O p)) (hs : ∀ p, p ≤ l → Ex8 b l q m0 (fun m => g a m) p (O p)) : ∀ M p n t f (m : Mm), l - p < M → l - p + 1 < f → p ≤ l → n < p → D.length + t.length ≤ p → P8 q m0 m p L (D ++ cls t) → Wp (F_X6_both_7 g f a (kI n) m) fun _ m' => match (lev (cch b l) oAnd O M p t).2 with
    | some t' => P8 q m0 m' (lev (cch b l) oAnd O M p t).1 L (D ++ cls t')
    | none => Q8 b l q m0 m' (lev (cch b l) oAnd O M p t).1 := by
  have hl := H.1
  intro M
  induction M with
  | zero => exact fun p n t f m h => absurd h (by omega)
  | succ M ih =>
    intro p n t f m hM hf hp hn hD h
    obtain ⟨f, rfl⟩ : ∃ x, f = x + 1 := ⟨f - 1, by omega⟩
    have hle := cch_le H p
    rw [F_X6_both_7, if_neg (by rw [iI_lit, kI_le (by omega) (by omega)]; omega)]
    have el : lev (cch b l) oAnd O (M + 1) p t = if oAnd (cch b l p) = true then match O (p + 1) with
        | (p', none) => (p', none)
        | (p', some t') => lev (cch b l) oAnd O M p' (t ++ t' ++ [(cch b l p, 0)])
      else (p, some t) := rfl
    rw [el]
    by_cases z : oAnd (cch b l p) = true
    · rw [if_pos z]
      have zl := cch_lt (b := b) (ok_oAnd _ z).1
      have z5 := (ok_oAnd _ z).2.2.1
      have zc : cch b l p = 38 := of_decide_eq_true z
      have cy := comes8_yes H hp h zc (by omega)
      have cy : F_X6_comes (iI 38) m = some (kI 1, pI m 16 2 (gI m 16 2 + iI 1)) := cy
      have g1 := hg (p + 1) (by omega)
      have s1 := hs (p + 1) (by omega) _ L (D ++ cls t) (adv8 H h) (by rw [List.length_append, cls_len]; omega)
      obtain ⟨_, m3, a1, a2⟩ := s1
      rw [bnd_eq cy, if_neg k1_ne0, bnd_eq a1, zc]
      generalize O (p + 1) = r at g1 a2
      obtain ⟨p', o⟩ := r
      cases o with
      | none =>
        have a2 : Q8 b l q m0 m3 p' := a2
        obtain ⟨m5, b1, b2⟩ := write8q (x := iI 38) H a2
        obtain ⟨f, rfl⟩ : ∃ x, f = x + 1 := ⟨f - 1, by omega⟩
        rw [bnd_eq b1, nm_eq, andq8 H b2]
        exact ⟨(), m5, rfl, b2⟩
      | some t' =>
        have g1 : p + 1 < p' ∧ p' ≤ l ∧ p + 1 + t'.length ≤ p' ∧ 1 ≤ t'.length := g1
        have a2 : P8 q m0 m3 p' L (D ++ cls t ++ cls t') := a2
        obtain ⟨m5, b1, b2⟩ := write8 (x := iI 38) (s := 38) H (by decide) a2 (by rw [List.length_append, List.length_append, cls_len, cls_len]; omega)
        have e3 : D ++ cls t ++ cls t' ++ [(38, 0)] = D ++ cls (t ++ t' ++ [(38, 0)]) := by
          rw [cls_app, cls_app, cls_op (by omega), List.append_assoc, List.append_assoc, List.append_assoc]
        rw [e3] at b2
        rw [bnd_eq b1, nm_eq, kI_a1]
        exact ih p' (n + 1) _ f m5 (by omega) (by omega) g1.2.1 (by omega) (by
          rw [List.length_append, List.length_append]
          show D.length + (t.length + t'.length + 1) ≤ p'
          omega) b2
    · rw [if_neg z]
      have cn := comes8_no (c := 38) H hp h (fun w => z (decide_eq_true w)) (by omega)
      have cn : F_X6_comes (iI 38) m = some (kI 0, m) := cn
      rw [bnd_eq cn, if_pos k0_eq0]
      exact ⟨(), m, rfl, h⟩
theorem andc8 {g : Int32 → Mm → Option (Unit × Mm)} {a : Int32} {O : Nat → Res} (H : H8 b l q m0) (hg : ∀ p, p ≤ l → GR l p (O p)) (hs : ∀ p, p ≤ l → Ex8 b l q m0 (fun m => g a m) p (O p)) (p : Nat) (hp : p ≤ l) : Ex8 b l q m0 (fun m => B_X6_both g a m) p (levS (cch b l) oAnd O p) := by
  intro m L D h hD
  have hl := H.1
  obtain ⟨_, m2, a1, a2⟩ := hs p hp m L D h hD
  have g1 := hg p hp
  show Wp (bnd (g a m) fun _ m2 => F_X6_both_7 g FU a (iI 0) m2) _
  unfold levS
  rw [bnd_eq a1]
  generalize O p = r at g1 a2
  obtain ⟨p', o⟩ := r
  cases o with
  | none =>
    have a2 : Q8 b l q m0 m2 p' := a2
    rw [show FU = 999999 + 1 from rfl, andq8 H a2]
    exact ⟨(), m2, rfl, a2⟩
  | some t =>
    have g1 : p < p' ∧ p' ≤ l ∧ p + t.length ≤ p' ∧ 1 ≤ t.length := g1
    have a2 : P8 q m0 m2 p' L (D ++ cls t) := a2
    exact andloop8 H hg hs 130 p' 0 t FU m2 (by omega) (by unfold FU; omega) g1.2.1 (by omega) (by omega) a2
theorem oorq8 {g : Int32 → Mm → Option (Unit × Mm)} {a n : Int32} {f k : Nat} {m : Mm} (H : H8 b l q m0) (h : Q8 b l q m0 m k) : F_X6_either_7 g (f + 1) a n m = some ((), m) := by
  have c := comes8_q (c := 124) H h (by omega)
  have c : F_X6_comes (iI 124) m = some (kI 0, m) := c
  rw [F_X6_either_7, bnd_eq c, if_pos k0_eq0]
  simp only [ite_self]
theorem oorloop8 {g : Int32 → Mm → Option (Unit × Mm)} {a : Int32} {O : Nat → Res} {L : Int32} {D : List (Nat × Nat)} (H : H8 b l q m0) (hg : ∀ p, p ≤ l → GR l p (O p)) (hs : ∀ p, p ≤ l → Ex8 b l q m0 (fun m => g a m) p (O p)) : ∀ M p n t f (m : Mm), l - p < M → l - p + 1 < f → p ≤ l → n < p → D.length + t.length ≤ p → P8 q m0 m p L (D ++ cls t) → Wp (F_X6_either_7 g f a (kI n) m) fun _ m' => match (lev (cch b l) oOr O M p t).2 with
    | some t' => P8 q m0 m' (lev (cch b l) oOr O M p t).1 L (D ++ cls t')
    | none => Q8 b l q m0 m' (lev (cch b l) oOr O M p t).1 := by
  have hl := H.1
  intro M
  induction M with
  | zero => exact fun p n t f m h => absurd h (by omega)
  | succ M ih =>
    intro p n t f m hM hf hp hn hD h
    obtain ⟨f, rfl⟩ : ∃ x, f = x + 1 := ⟨f - 1, by omega⟩
    have hle := cch_le H p
    rw [F_X6_either_7, if_neg (by rw [iI_lit, kI_le (by omega) (by omega)]; omega)]
    have el : lev (cch b l) oOr O (M + 1) p t = if oOr (cch b l p) = true then match O (p + 1) with
        | (p', none) => (p', none)
        | (p', some t') => lev (cch b l) oOr O M p' (t ++ t' ++ [(cch b l p, 0)])
      else (p, some t) := rfl
    rw [el]
    by_cases z : oOr (cch b l p) = true
    · rw [if_pos z]
      have zl := cch_lt (b := b) (ok_oOr _ z).1
      have z5 := (ok_oOr _ z).2.2.1
      have zc : cch b l p = 124 := of_decide_eq_true z
      have cy := comes8_yes H hp h zc (by omega)
      have cy : F_X6_comes (iI 124) m = some (kI 1, pI m 16 2 (gI m 16 2 + iI 1)) := cy
      have g1 := hg (p + 1) (by omega)
      have s1 := hs (p + 1) (by omega) _ L (D ++ cls t) (adv8 H h) (by rw [List.length_append, cls_len]; omega)
      obtain ⟨_, m3, a1, a2⟩ := s1
      rw [bnd_eq cy, if_neg k1_ne0, bnd_eq a1, zc]
      generalize O (p + 1) = r at g1 a2
      obtain ⟨p', o⟩ := r
      cases o with
      | none =>
        have a2 : Q8 b l q m0 m3 p' := a2
        obtain ⟨m5, b1, b2⟩ := write8q (x := iI 124) H a2
        obtain ⟨f, rfl⟩ : ∃ x, f = x + 1 := ⟨f - 1, by omega⟩
        rw [bnd_eq b1, nm_eq, oorq8 H b2]
        exact ⟨(), m5, rfl, b2⟩
      | some t' =>
        have g1 : p + 1 < p' ∧ p' ≤ l ∧ p + 1 + t'.length ≤ p' ∧ 1 ≤ t'.length := g1
        have a2 : P8 q m0 m3 p' L (D ++ cls t ++ cls t') := a2
        obtain ⟨m5, b1, b2⟩ := write8 (x := iI 124) (s := 124) H (by decide) a2 (by rw [List.length_append, List.length_append, cls_len, cls_len]; omega)
        have e3 : D ++ cls t ++ cls t' ++ [(124, 0)] = D ++ cls (t ++ t' ++ [(124, 0)]) := by
          rw [cls_app, cls_app, cls_op (by omega), List.append_assoc, List.append_assoc, List.append_assoc]
        rw [e3] at b2
        rw [bnd_eq b1, nm_eq, kI_a1]
        exact ih p' (n + 1) _ f m5 (by omega) (by omega) g1.2.1 (by omega) (by
          rw [List.length_append, List.length_append]
          show D.length + (t.length + t'.length + 1) ≤ p'
          omega) b2
    · rw [if_neg z]
      have cn := comes8_no (c := 124) H hp h (fun w => z (decide_eq_true w)) (by omega)
      have cn : F_X6_comes (iI 124) m = some (kI 0, m) := cn
      rw [bnd_eq cn, if_pos k0_eq0]
      exact ⟨(), m, rfl, h⟩
theorem oorc8 {g : Int32 → Mm → Option (Unit × Mm)} {a : Int32} {O : Nat → Res} (H : H8 b l q m0) (hg : ∀ p, p ≤ l → GR l p (O p)) (hs : ∀ p, p ≤ l → Ex8 b l q m0 (fun m => g a m) p (O p)) (p : Nat) (hp : p ≤ l) : Ex8 b l q m0 (fun m => B_X6_either g a m) p (levS (cch b l) oOr O p) := by
  intro m L D h hD
  have hl := H.1
  obtain ⟨_, m2, a1, a2⟩ := hs p hp m L D h hD
  have g1 := hg p hp
  show Wp (bnd (g a m) fun _ m2 => F_X6_either_7 g FU a (iI 0) m2) _
  unfold levS
  rw [bnd_eq a1]
  generalize O p = r at g1 a2
  obtain ⟨p', o⟩ := r
  cases o with
  | none =>
    have a2 : Q8 b l q m0 m2 p' := a2
    rw [show FU = 999999 + 1 from rfl, oorq8 H a2]
    exact ⟨(), m2, rfl, a2⟩
  | some t =>
    have g1 : p < p' ∧ p' ≤ l ∧ p + t.length ≤ p' ∧ 1 ≤ t.length := g1
    have a2 : P8 q m0 m2 p' L (D ++ cls t) := a2
    exact oorloop8 H hg hs 130 p' 0 t FU m2 (by omega) (by unfold FU; omega) g1.2.1 (by omega) (by omega) a2
end T8
