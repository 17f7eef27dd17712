/-! WHAT THE REFERENCE'S EVENING ANSWERS -/
def sB (P : Pa) (e : Ev) (p : Nat) : Nat → Nat → Nat
  | 0, _ => 0
  | c + 1, i => (if eP e ≤ i then pW P p i else 0) + sB P e p c (i + 1)
theorem sB_hi {P : Pa} {e : Ev} {p : Nat} : ∀ c i, eP e ≤ i → sB P e p c i = sW P p c i
  | 0, _, _ => rfl
  | c + 1, i, h => by
    unfold sB sW
    rw [if_pos h, sB_hi c (i + 1) (by omega)]
theorem sB_lo {P : Pa} {e : Ev} {p c : Nat} : ∀ d i, i + d = eP e → sB P e p (d + c) i = sW P p c (eP e)
  | 0, i, h => by
    rw [Nat.zero_add, show i = eP e by omega]
    exact sB_hi c _ (Nat.le_refl _)
  | d + 1, i, h => by
    rw [show d + 1 + c = (d + c) + 1 by omega]
    unfold sB
    rw [if_neg (by omega), Nat.zero_add]
    exact sB_lo d (i + 1) (by omega)
theorem sB_le {P : Pa} {e : Ev} (h : PaOk P) {p : Nat} : ∀ c i, sB P e p c i ≤ 99 * c
  | 0, _ => Nat.zero_le _
  | c + 1, i => by
    have := sB_le (e := e) h (p := p) c (i + 1)
    have := h.2.1 p i
    unfold sB
    split <;> omega
theorem guessOf_loop {μ : Mm} {P : Pa} {x p : Nat} {lot : Nat → Nat} {e : Ev} (hP : PR μ P) (h : RR μ x P lot e) (hp : p < pN P) (ho : eP e < pN P) : ∀ c i s f, i + c = pN P → c < f → s + 99 * c ≤ 1000 → F_X9_guessOf_5 f (kI x) (kI p) (kI s) (kI i) μ = some (kI ((s + sB P e p c i) / (pN P - eP e)), μ) := by
  have hn := hP.n7
  have en := hP.n
  obtain ⟨hx, -, -, h3, -⟩ := h
  intro c
  induction c with
  | zero =>
    intro i s f hi hf hs
    obtain ⟨f, rfl⟩ : ∃ g, f = g + 1 := ⟨f - 1, by omega⟩
    have e1 := bitsOf_eq (μ := μ) hn (Nat.le_of_lt ho)
    unfold F_X9_guessOf_5 sB
    simp (disch := omega) only [en, show pN P ≤ i by omega, h3, e1, Nat.add_zero, iI_lit, kI_add, kI_mul, kI_eq, kI_lt, kI_le, kI_neg1, neg1_kI, neg1_lt0, neg1_0le, kO_none, kO_some, nm_eq, bnd_some, rz_0, rz_1, zb_0, zb_1, rd_kI, wrI_kI, wrL_kI, dvI_kI, rmI_kI, if_true, if_false, ite_true, ite_false, reduceIte, Nat.lt_irrefl, Nat.le_refl, not_true, not_false_iff, true_and, and_true, false_and, and_false, and_self, Bool.false_eq_true, eq_self, Decidable.not_not]
  | succ c ih =>
    intro i s f hi hf hs
    obtain ⟨f, rfl⟩ : ∃ g, f = g + 1 := ⟨f - 1, by omega⟩
    have e1 := bit_eq (μ := μ) hn (Nat.le_of_lt ho) (show i < 8 by omega)
    have ew := hP.w (p := p) (k := i) (by omega) (by omega)
    have hw := hP.ok.2.1 p i
    unfold F_X9_guessOf_5 sB
    by_cases z : eP e ≤ i
    · have e2 : (if eP e ≤ i ∧ i < pN P then 1 else 0) = 1 := if_pos ⟨z, by omega⟩
      have := ih (i + 1) (s + pW P p i) f (by omega) (by omega) (by omega)
      rw [e2] at e1
      simp (disch := omega) only [en, show ¬ pN P ≤ i by omega, h3, e1, ew, z, this, Nat.one_mul, Nat.add_assoc, iI_lit, kI_add, kI_mul, kI_eq, kI_lt, kI_le, kI_neg1, neg1_kI, neg1_lt0, neg1_0le, kO_none, kO_some, nm_eq, bnd_some, rz_0, rz_1, zb_0, zb_1, rd_kI, wrI_kI, wrL_kI, dvI_kI, rmI_kI, if_true, if_false, ite_true, ite_false, reduceIte, Nat.lt_irrefl, Nat.le_refl, not_true, not_false_iff, true_and, and_true, false_and, and_false, and_self, Bool.false_eq_true, eq_self, Decidable.not_not]
    · have e2 : (if eP e ≤ i ∧ i < pN P then 1 else 0) = 0 := if_neg (fun q => z q.1)
      have := ih (i + 1) s f (by omega) (by omega) (by omega)
      rw [e2] at e1
      simp (disch := omega) only [en, show ¬ pN P ≤ i by omega, h3, e1, ew, z, this, Nat.zero_mul, Nat.zero_add, Nat.add_zero, iI_lit, kI_add, kI_mul, kI_eq, kI_lt, kI_le, kI_neg1, neg1_kI, neg1_lt0, neg1_0le, kO_none, kO_some, nm_eq, bnd_some, rz_0, rz_1, zb_0, zb_1, rd_kI, wrI_kI, wrL_kI, dvI_kI, rmI_kI, if_true, if_false, ite_true, ite_false, reduceIte, Nat.lt_irrefl, Nat.le_refl, not_true, not_false_iff, true_and, and_true, false_and, and_false, and_self, Bool.false_eq_true, eq_self, Decidable.not_not]
theorem guessOf_eq {μ : Mm} {P : Pa} {x p : Nat} {lot : Nat → Nat} {e : Ev} (hP : PR μ P) (h : RR μ x P lot e) (hp : p < pN P) (ho : eP e < pN P) : F_X9_guessOf (kI x) (kI p) μ = some (kI (gu P e p), μ) := by
  have hn := hP.n7
  have := guessOf_loop hP h hp ho (pN P) 0 0 FU (by omega) (by unfold FU; omega) (by omega)
  have e1 := sB_lo (P := P) (p := p) (c := pN P - eP e) (e := e) (eP e) 0 (by omega)
  rw [show eP e + (pN P - eP e) = pN P by omega] at e1
  unfold F_X9_guessOf
  simp only [iI_lit]
  rw [this, e1, Nat.zero_add]
  unfold gu
  rw [if_pos (by omega)]
theorem kO_kI {o : Option Nat} {p : Nat} (h : ∀ k, o = some k → k < 2147483648) (hp : p < 2147483648) : (kO o = kI p) ↔ o = some p := by
  rw [← kO_some, kO_eq h (fun k q => by cases q; exact hp)]
theorem hasIn_loop {μ : Mm} {P : Pa} {x p : Nat} {lot : Nat → Nat} {e : Ev} (hP : PR μ P) (h : RR μ x P lot e) (hw : WfE (pN P) P lot e) (hp : p < 7) : ∀ c i f, i + c = pN P → c < f → (∀ k, k < i → eO e k ≠ some p) → F_X9_hasIn_2 f (kI x) (kI p) (kI i) μ = some (cI (eH e p), μ) := by
  have hn := hP.n7
  have en := hP.n
  obtain ⟨hx, h1, -⟩ := h
  obtain ⟨hb, w1, w2, w3, w4, -⟩ := hw
  intro c
  induction c with
  | zero =>
    intro i f hi hf hk
    obtain ⟨f, rfl⟩ : ∃ g, f = g + 1 := ⟨f - 1, by omega⟩
    have : eH e p = none := by
      cases q : eH e p with
      | none => rfl
      | some k =>
        have z := (w4 p k).mp q
        by_cases y : k < eP e
        · exact absurd z (hk k (by omega))
        · rw [(w3 k (by omega)).1] at z; cases z
    unfold F_X9_hasIn_2
    rw [this, cI_none]
    simp (disch := omega) only [en, show pN P ≤ i by omega, iI_lit, kI_add, kI_mul, kI_eq, kI_lt, kI_le, kI_neg1, neg1_kI, neg1_lt0, neg1_0le, kO_none, kO_some, nm_eq, bnd_some, rz_0, rz_1, zb_0, zb_1, rd_kI, wrI_kI, wrL_kI, dvI_kI, rmI_kI, if_true, if_false, ite_true, ite_false, reduceIte, Nat.lt_irrefl, Nat.le_refl, not_true, not_false_iff, true_and, and_true, false_and, and_false, and_self, Bool.false_eq_true, eq_self, Decidable.not_not]
  | succ c ih =>
    intro i f hi hf hk
    obtain ⟨f, rfl⟩ : ∃ g, f = g + 1 := ⟨f - 1, by omega⟩
    have e1 := h1 i (by omega)
    have e2 := kO_kI (o := eO e i) (p := p) (fun k q => by have := hb.2.2.1 i k q; omega) (by omega)
    unfold F_X9_hasIn_2
    by_cases z : eO e i = some p
    · rw [(w4 p i).mpr z, cI_some]
      simp (disch := omega) only [en, e1, e2, z, show ¬ pN P ≤ i by omega, iI_lit, kI_add, kI_mul, kI_eq, kI_lt, kI_le, kI_neg1, neg1_kI, neg1_lt0, neg1_0le, kO_none, kO_some, nm_eq, bnd_some, rz_0, rz_1, zb_0, zb_1, rd_kI, wrI_kI, wrL_kI, dvI_kI, rmI_kI, if_true, if_false, ite_true, ite_false, reduceIte, Nat.lt_irrefl, Nat.le_refl, not_true, not_false_iff, true_and, and_true, false_and, and_false, and_self, Bool.false_eq_true, eq_self, Decidable.not_not]
    · have := ih (i + 1) f (by omega) (by omega) (fun k q => by
        by_cases y : k = i
        · rw [y]; exact z
        · exact hk k (by omega))
      simp (disch := omega) only [en, e1, e2, z, show ¬ pN P ≤ i by omega, this, iI_lit, kI_add, kI_mul, kI_eq, kI_lt, kI_le, kI_neg1, neg1_kI, neg1_lt0, neg1_0le, kO_none, kO_some, nm_eq, bnd_some, rz_0, rz_1, zb_0, zb_1, rd_kI, wrI_kI, wrL_kI, dvI_kI, rmI_kI, if_true, if_false, ite_true, ite_false, reduceIte, Nat.lt_irrefl, Nat.le_refl, not_true, not_false_iff, true_and, and_true, false_and, and_false, and_self, Bool.false_eq_true, eq_self, Decidable.not_not]
theorem hasIn_eq {μ : Mm} {P : Pa} {x p : Nat} {lot : Nat → Nat} {e : Ev} (hP : PR μ P) (h : RR μ x P lot e) (hw : WfE (pN P) P lot e) (hp : p < 7) : F_X9_hasIn (kI x) (kI p) μ = some (cI (eH e p), μ) := by
  have hn := hP.n7
  have := hasIn_loop hP h hw hp (pN P) 0 FU (by omega) (by unfold FU; omega) (fun k q => absurd q (Nat.not_lt_zero _))
  unfold F_X9_hasIn
  simp only [iI_lit]
  exact this
theorem mayTake_eq {μ : Mm} {P : Pa} {x k c : Nat} {lot : Nat → Nat} {e : Ev} (hP : PR μ P) (h : RR μ x P lot e) (hl : LotOk (pN P) P lot) (hw : WfE (pN P) P lot e) (ho : eP e < pN P) (hc : cu P lot e = some c) (hk : k < pN P) : F_X9_mayTake (kI x) (kI k) μ = some (if mayB P e k = true then kI 1 else kI 0, μ) := by
  have hn := hP.n7
  have em := hP.m
  obtain ⟨c1, c2, c3, -⟩ := cu_free hP.ok hl hw ho hc
  obtain ⟨hx, h1, h2, -, h4, -, h6, -⟩ := h
  obtain ⟨hb, w1, w2, w3, w4, -⟩ := hw
  have e1 := h1 k hk
  have e2 := h2 k hk
  have b3 := hP.ok.2.2.2.2
  have b2 := hb.2.1 k
  rw [hc, kO_some] at h4
  unfold F_X9_mayTake
  by_cases y1 : k < eP e
  · obtain ⟨q, q1, q2⟩ := w2 k y1
    rw [q2, kO_some] at e1
    have hqc : q ≠ c := fun z => c3 k (by rw [q2, z])
    by_cases y3 : eT e k < pM P
    · by_cases y2 : eJ e = some k
      · have : ¬ mayB P e k = true := by rw [mayB_iff]; simp [y2]
        rw [y2, kO_some] at h6
        simp (disch := omega) only [e1, e2, em, h4, h6, hqc, this, Nat.not_lt_zero, show ¬ pM P ≤ eT e k by omega, iI_lit, kI_add, kI_mul, kI_eq, kI_lt, kI_le, kI_neg1, neg1_kI, neg1_lt0, neg1_0le, kO_none, kO_some, nm_eq, bnd_some, rz_0, rz_1, zb_0, zb_1, rd_kI, wrI_kI, wrL_kI, dvI_kI, rmI_kI, if_true, if_false, ite_true, ite_false, reduceIte, Nat.lt_irrefl, Nat.le_refl, not_true, not_false_iff, true_and, and_true, false_and, and_false, and_self, Bool.false_eq_true, eq_self, Decidable.not_not]
      · have : mayB P e k = true := by rw [mayB_iff]; exact ⟨y1, y2, y3⟩
        have e6 := kO_kI (o := eJ e) (p := k) (fun j q => by have := hb.2.2.2.2.2.1 j q; omega) (by omega)
        simp (disch := omega) only [e1, e2, em, h4, h6, e6, y2, hqc, this, Nat.not_lt_zero, show ¬ pM P ≤ eT e k by omega, iI_lit, kI_add, kI_mul, kI_eq, kI_lt, kI_le, kI_neg1, neg1_kI, neg1_lt0, neg1_0le, kO_none, kO_some, nm_eq, bnd_some, rz_0, rz_1, zb_0, zb_1, rd_kI, wrI_kI, wrL_kI, dvI_kI, rmI_kI, if_true, if_false, ite_true, ite_false, reduceIte, Nat.lt_irrefl, Nat.le_refl, not_true, not_false_iff, true_and, and_true, false_and, and_false, and_self, Bool.false_eq_true, eq_self, Decidable.not_not]
    · have : ¬ mayB P e k = true := by rw [mayB_iff]; omega
      simp (disch := omega) only [e1, e2, em, h4, hqc, this, Nat.not_lt_zero, show pM P ≤ eT e k by omega, iI_lit, kI_add, kI_mul, kI_eq, kI_lt, kI_le, kI_neg1, neg1_kI, neg1_lt0, neg1_0le, kO_none, kO_some, nm_eq, bnd_some, rz_0, rz_1, zb_0, zb_1, rd_kI, wrI_kI, wrL_kI, dvI_kI, rmI_kI, if_true, if_false, ite_true, ite_false, reduceIte, Nat.lt_irrefl, Nat.le_refl, not_true, not_false_iff, true_and, and_true, false_and, and_false, and_self, Bool.false_eq_true, eq_self, Decidable.not_not]
  · have : ¬ mayB P e k = true := by rw [mayB_iff]; omega
    rw [(w3 k (by omega)).1, kO_none] at e1
    simp (disch := omega) only [e1, this, iI_lit, kI_add, kI_mul, kI_eq, kI_lt, kI_le, kI_neg1, neg1_kI, neg1_lt0, neg1_0le, kO_none, kO_some, nm_eq, bnd_some, rz_0, rz_1, zb_0, zb_1, rd_kI, wrI_kI, wrL_kI, dvI_kI, rmI_kI, if_true, if_false, ite_true, ite_false, reduceIte, Nat.lt_irrefl, Nat.le_refl, not_true, not_false_iff, true_and, and_true, false_and, and_false, and_self, Bool.false_eq_true, eq_self, Decidable.not_not]
theorem wrI_lit6 {β : Type} (k : Nat) (h : k < 6) (μ : Mm) (v : Int32) (G : Mm → Option β) : wrI 6 μ 135 (kI k) v G = G (pI μ 135 k v) := wrI_kI h (by omega) μ 135 v G
theorem lawTail {μ : Mm} {P : Pa} {x : Nat} {lot : Nat → Nat} {e : Ev} (hP : PR μ P) (h : RR μ x P lot e) (ho : eP e ≤ pN P) (h39 : gI μ 113 39 = kI 1) (w v t l o : Int32) : ∃ μ', (bnd (F_X9_bitsOf (kI (wr (pN P) (eP e))) (pI (pI (pI (pI (pI μ 135 0 w) 135 1 v) 135 2 t) 135 3 l) 135 4 o)) fun v3 m4 => wrI 6 m4 135 (kI 5) v3 fun m5 => bnd (F_X9_gives (kI 0) m5) fun v6 m7 => some (v6, m7)) = some (pF P w v t l o (kI (pN P - eP e)), μ') ∧ Fr SQ μ μ' := by
  have hn := hP.n7
  rw [bitsOf_eq hn ho, bnd_some, wrI_lit6 5 (by omega)]
  rcases hP.2.1 with ⟨l1, -⟩ | ⟨-, l2⟩
  · rw [h39] at l1
    exact absurd l1 (by rw [kI_eq (by omega) (by omega)]; omega)
  · obtain ⟨μ', g1, g2⟩ := l2 (pI (pI (pI (pI (pI (pI μ 135 0 w) 135 1 v) 135 2 t) 135 3 l) 135 4 o) 135 5 (kI (pN P - eP e))) (fun a j z => by
      simp [gI_pI, show ¬ a = 135 by omega])
    refine ⟨μ', ?_, ?_⟩
    · rw [g1, bnd_some]
      simp [gI_pI]
    · have q : SQ 135 := Or.inl rfl
      exact ((((((Fr.refl.put q).put q).put q).put q).put q).put q).trans (g2.mono (fun a z => Or.inr z))
theorem lawsNumber_at {μ : Mm} {P : Pa} {x p k : Nat} {lot : Nat → Nat} {e : Ev} (hP : PR μ P) (h : RR μ x P lot e) (hw : WfE (pN P) P lot e) (hp : p < pN P) (hk : k < eP e) : ∃ μ', F_X9_lawsNumber (kI x) (kI p) (kI k) μ = some (nmb P e p k, μ') ∧ Fr SQ μ μ' := by
  have hn := hP.n7
  have ho := hw.2.1
  obtain ⟨o1, o2⟩ := own_of hw hk
  have h' := h
  obtain ⟨hx, h1, h2, h3, -⟩ := h
  have e1 := h1 k (by omega)
  rw [o1, kO_some] at e1
  have e2 := h2 k (by omega)
  have ew := hP.w (p := p) (k := k) (by omega) (by omega)
  have ew2 := hP.w (p := own0 e k) (k := k) (by omega) (by omega)
  have ek := hP.k (p := p) (k := own0 e k) (by omega) (by omega)
  have tl := lawTail hP h' ho
  unfold F_X9_lawsNumber F_X9_lawsNumber_24
  rcases hP.2.1 with ⟨l1, l2⟩ | ⟨l1, -⟩
  · refine ⟨μ, ?_, Fr.refl⟩
    have : nmb P e p k = kI (pW P p k) := l2 _ _ _ _ _ _
    rw [this]
    simp (disch := omega) only [ew, l1, Nat.zero_le, iI_lit, kI_add, kI_mul, kI_eq, kI_lt, kI_le, kI_neg1, neg1_kI, neg1_lt0, neg1_0le, kO_none, kO_some, nm_eq, bnd_some, rz_0, rz_1, zb_0, zb_1, rd_kI, wrI_kI, wrL_kI, dvI_kI, rmI_kI, if_true, if_false, ite_true, ite_false, reduceIte, Nat.lt_irrefl, Nat.le_refl, not_true, not_false_iff, true_and, and_true, false_and, and_false, and_self, Bool.false_eq_true, eq_self, Decidable.not_not]
  · obtain ⟨μ', t1, t2⟩ := tl l1 (kI (pW P p k)) (kI (pW P (own0 e k) k)) (kI (eT e k)) (kI (pK P p (own0 e k))) (kI 0)
    refine ⟨μ', ?_, t2⟩
    have ec : nmb P e p k = pF P (kI (pW P p k)) (kI (pW P (own0 e k) k)) (kI (eT e k)) (kI (pK P p (own0 e k))) (kI 0) (kI (pN P - eP e)) := rfl
    rw [ec, ← t1]
    unfold F_X9_lawsNumber_55 F_X9_lawsNumber_90 F_X9_lawsNumber_115 F_X9_lawsNumber_141 F_X9_lawsNumber_156
    simp (disch := omega) only [ew, ew2, ek, e1, e2, h3, l1, Nat.zero_le, Nat.one_ne_zero, gI_pI, show ¬ (114 : Nat) = 135 by omega, show ¬ (115 : Nat) = 135 by omega, show ¬ (118 : Nat) = 135 by omega, show ¬ (119 : Nat) = 135 by omega, show ¬ (120 : Nat) = 135 by omega, iI_lit, kI_add, kI_mul, kI_eq, kI_lt, kI_le, kI_neg1, neg1_kI, neg1_lt0, neg1_0le, kO_none, kO_some, nm_eq, bnd_some, rz_0, rz_1, zb_0, zb_1, rd_kI, wrI_kI, wrL_kI, dvI_kI, rmI_kI, if_true, if_false, ite_true, ite_false, reduceIte, Nat.lt_irrefl, Nat.le_refl, not_true, not_false_iff, true_and, and_true, false_and, and_false, and_self, Bool.false_eq_true, eq_self, Decidable.not_not]
theorem lawsNumber_0 {μ : Mm} {P : Pa} {x p : Nat} {lot : Nat → Nat} {e : Ev} (hP : PR μ P) (h : RR μ x P lot e) (hw : WfE (pN P) P lot e) (hp : p < pN P) (ho : eP e < pN P) : ∃ μ', F_X9_lawsNumber (kI x) (kI p) (iI (-1)) μ = some (nmb0 P e p, μ') ∧ Fr SQ μ μ' := by
  have hn := hP.n7
  have eg := guessOf_eq hP h hp ho
  have h' := h
  obtain ⟨hx, h1, h2, h3, -⟩ := h
  have tl := lawTail hP h' (Nat.le_of_lt ho)
  unfold F_X9_lawsNumber F_X9_lawsNumber_24
  rcases hP.2.1 with ⟨l1, l2⟩ | ⟨l1, -⟩
  · refine ⟨μ, ?_, Fr.refl⟩
    have : nmb0 P e p = kI (gu P e p) := l2 _ _ _ _ _ _
    rw [this]
    simp (disch := omega) only [eg, l1, iI_lit, kI_add, kI_mul, kI_eq, kI_lt, kI_le, kI_neg1, neg1_kI, neg1_lt0, neg1_0le, kO_none, kO_some, nm_eq, bnd_some, rz_0, rz_1, zb_0, zb_1, rd_kI, wrI_kI, wrL_kI, dvI_kI, rmI_kI, if_true, if_false, ite_true, ite_false, reduceIte, Nat.lt_irrefl, Nat.le_refl, not_true, not_false_iff, true_and, and_true, false_and, and_false, and_self, Bool.false_eq_true, eq_self, Decidable.not_not]
  · obtain ⟨μ', t1, t2⟩ := tl l1 (kI (gu P e p)) (kI 0) (kI 0) (kI 0) (kI 1)
    refine ⟨μ', ?_, t2⟩
    have ec : nmb0 P e p = pF P (kI (gu P e p)) (kI 0) (kI 0) (kI 0) (kI 1) (kI (pN P - eP e)) := rfl
    rw [ec, ← t1]
    unfold F_X9_lawsNumber_55 F_X9_lawsNumber_90 F_X9_lawsNumber_115 F_X9_lawsNumber_141 F_X9_lawsNumber_156
    simp (disch := omega) only [eg, h3, l1, Nat.one_ne_zero, gI_pI, show ¬ (120 : Nat) = 135 by omega, iI_lit, kI_add, kI_mul, kI_eq, kI_lt, kI_le, kI_neg1, neg1_kI, neg1_lt0, neg1_0le, kO_none, kO_some, nm_eq, bnd_some, rz_0, rz_1, zb_0, zb_1, rd_kI, wrI_kI, wrL_kI, dvI_kI, rmI_kI, if_true, if_false, ite_true, ite_false, reduceIte, Nat.lt_irrefl, Nat.le_refl, not_true, not_false_iff, true_and, and_true, false_and, and_false, and_self, Bool.false_eq_true, eq_self, Decidable.not_not]
