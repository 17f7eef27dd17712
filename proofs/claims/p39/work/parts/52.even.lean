/-! WHAT THE CLASS'S EVENING ANSWERS -/
def cI (o : Option Nat) : Int32 := match o with
  | some c => kI c
  | none => iI (-2)
theorem cI_some (c : Nat) : cI (some c) = kI c := rfl
theorem cI_none : cI none = iI (-2) := rfl
/-- whose turn it is -/
def cu (P : Pa) (lot : Nat → Nat) (e : Ev) : Option Nat := match eR e with
  | some r => some r
  | none => if eP e < pN P then some (lot (eP e)) else none
def LotC (μ : Mm) (t : Nat) (lot : Nat → Nat) : Prop := (∀ j, j < 7 → gI μ (t + 1) j = kI (lot j)) ∧ ∀ j, j < 7 → lot j < 4294967296
theorem LotC.fr {S : Nat → Prop} {μ μ1 : Mm} {t : Nat} {lot : Nat → Nat} (h : LotC μ t lot) (hf : Fr S μ μ1) (hs : ∀ a, S a → a ≠ t + 1) : LotC μ1 t lot := ⟨fun j hj => by rw [hf.1 (t + 1) (fun q => hs _ q rfl)]; exact h.1 j hj, h.2⟩
/-- bounds -/
def BdE (e : Ev) : Prop := eP e ≤ 7 ∧ (∀ k, eT e k ≤ 3) ∧ (∀ k q, eO e k = some q → q < 7) ∧ (∀ p k, eH e p = some k → k < 7) ∧ (∀ r, eR e = some r → r < 7) ∧ (∀ r, eJ e = some r → r < 7) ∧ eA e ≤ 1
theorem whose_eq {μ : Mm} {P : Pa} {t : Nat} {e : Ev} {lot : Nat → Nat} (hP : PC μ P) (h : RC μ t e) (hl : LotC μ t lot) (hb : BdE e) : F_X2_whoseTurn t μ = some (cI (cu P lot e), μ) := by
  have hn := hP.n7
  have en := hP.n
  obtain ⟨h0, -, h4, h5, -⟩ := h
  have b1 := hb.1
  have b5 := hb.2.2.2.2.1
  unfold F_X2_whoseTurn cu
  rw [if_pos h0, h5, h4, en]
  cases hR : eR e with
  | none =>
    by_cases h1 : eP e < pN P
    · have e1 := hl.1 (eP e) (by omega)
      simp (disch := omega) only [h1, Nat.not_le.mpr h1, show ¬ 7 ≤ eP e by omega, e1, cI_some, iI_lit, kI_add, kI_mul, kI_eq, kI_lt, kI_le, kI_neg1, neg1_kI, neg1_lt0, neg1_0le, kO_none, kO_some, nm_eq, bnd_some, rz_0, rz_1, zb_0, zb_1, rd_kI, wrI_kI, wrL_kI, dvI_kI, rmI_kI, if_true, if_false, ite_true, ite_false, reduceIte, Nat.lt_irrefl, Nat.le_refl, not_true, not_false_iff, true_and, and_true, false_and, and_false, and_self, Bool.false_eq_true, eq_self, Decidable.not_not]
    · simp (disch := omega) only [h1, Nat.not_lt.mp h1, cI_none, iI_lit, kI_add, kI_mul, kI_eq, kI_lt, kI_le, kI_neg1, neg1_kI, neg1_lt0, neg1_0le, kO_none, kO_some, nm_eq, bnd_some, rz_0, rz_1, zb_0, zb_1, rd_kI, wrI_kI, wrL_kI, dvI_kI, rmI_kI, if_true, if_false, ite_true, ite_false, reduceIte, Nat.lt_irrefl, Nat.le_refl, not_true, not_false_iff, true_and, and_true, false_and, and_false, and_self, Bool.false_eq_true, eq_self, Decidable.not_not]
  | some r =>
    have hr := b5 r hR
    simp (disch := omega) only [cI_some, iI_lit, kI_add, kI_mul, kI_eq, kI_lt, kI_le, kI_neg1, neg1_kI, neg1_lt0, neg1_0le, kO_none, kO_some, nm_eq, bnd_some, rz_0, rz_1, zb_0, zb_1, rd_kI, wrI_kI, wrL_kI, dvI_kI, rmI_kI, if_true, if_false, ite_true, ite_false, reduceIte, Nat.lt_irrefl, Nat.le_refl, not_true, not_false_iff, true_and, and_true, false_and, and_false, and_self, Bool.false_eq_true, eq_self, Decidable.not_not]
theorem isSafe_eq {μ : Mm} {P : Pa} {t k : Nat} {e : Ev} (hP : PC μ P) (h : RC μ t e) (hb : BdE e) (hk : k < 7) : F_X2_isSafe t (kI k) μ = some (if pM P ≤ eT e k then kI 1 else kI 0, μ) := by
  obtain ⟨h0, ⟨-, h2, -⟩, -⟩ := h
  have b2 := hb.2.1 k
  have b3 := hP.ok.2.2.2.2
  have em := hP.m
  have ek := h2 k hk
  unfold F_X2_isSafe
  by_cases h1 : pM P ≤ eT e k
  · simp (disch := omega) only [if_pos h0, em, ek, h1, Nat.not_lt.mpr h1, iI_lit, kI_add, kI_mul, kI_eq, kI_lt, kI_le, kI_neg1, neg1_kI, neg1_lt0, neg1_0le, kO_none, kO_some, nm_eq, bnd_some, rz_0, rz_1, zb_0, zb_1, rd_kI, wrI_kI, wrL_kI, dvI_kI, rmI_kI, if_true, if_false, ite_true, ite_false, reduceIte, Nat.lt_irrefl, Nat.le_refl, not_true, not_false_iff, true_and, and_true, false_and, and_false, and_self, Bool.false_eq_true, eq_self, Decidable.not_not]
  · simp (disch := omega) only [if_pos h0, em, ek, h1, Nat.not_le.mp h1, iI_lit, kI_add, kI_mul, kI_eq, kI_lt, kI_le, kI_neg1, neg1_kI, neg1_lt0, neg1_0le, kO_none, kO_some, nm_eq, bnd_some, rz_0, rz_1, zb_0, zb_1, rd_kI, wrI_kI, wrL_kI, dvI_kI, rmI_kI, if_true, if_false, ite_true, ite_false, reduceIte, Nat.lt_irrefl, Nat.le_refl, not_true, not_false_iff, true_and, and_true, false_and, and_false, and_self, Bool.false_eq_true, eq_self, Decidable.not_not]
/-- may a parcel be taken -/
def mayB (P : Pa) (e : Ev) (k : Nat) : Bool := decide (k < eP e) && decide (eJ e ≠ some k) && decide (eT e k < pM P)
theorem mayB_iff {P : Pa} {e : Ev} {k : Nat} : mayB P e k = true ↔ k < eP e ∧ eJ e ≠ some k ∧ eT e k < pM P := by
  simp [mayB, and_assoc]
theorem mayRob_eq {μ : Mm} {P : Pa} {t k : Nat} {e : Ev} (hP : PC μ P) (h : RC μ t e) (hb : BdE e) (hk : k < 7) : F_X2_mayRob t (kI k) μ = some (if mayB P e k = true then kI 1 else kI 0, μ) := by
  have hs := isSafe_eq hP h hb hk
  obtain ⟨h0, -, h4, -, h6, -⟩ := h
  have b1 := hb.1
  have b6 := hb.2.2.2.2.2.1
  unfold F_X2_mayRob
  rw [if_pos h0, h4, h6, hs]
  by_cases h1 : k < eP e
  · by_cases h2 : eJ e = some k
    · have : ¬ mayB P e k = true := by rw [mayB_iff]; simp [h2]
      simp (disch := omega) only [h2, this, Nat.not_lt_zero, Nat.not_le.mpr h1, iI_lit, kI_add, kI_mul, kI_eq, kI_lt, kI_le, kI_neg1, neg1_kI, neg1_lt0, neg1_0le, kO_none, kO_some, nm_eq, bnd_some, rz_0, rz_1, zb_0, zb_1, rd_kI, wrI_kI, wrL_kI, dvI_kI, rmI_kI, if_true, if_false, ite_true, ite_false, reduceIte, Nat.lt_irrefl, Nat.le_refl, not_true, not_false_iff, true_and, and_true, false_and, and_false, and_self, Bool.false_eq_true, eq_self, Decidable.not_not]
    · have e2 : (kI k = kO (eJ e)) = False := by
        rw [← kO_some, kO_eq (fun j q => by cases q; omega) (fun j q => by have := b6 j q; omega)]
        simp only [eq_iff_iff, iff_false]
        exact fun q => h2 q.symm
      by_cases h3 : pM P ≤ eT e k
      · have : ¬ mayB P e k = true := by rw [mayB_iff]; omega
        simp (disch := omega) only [e2, h3, this, Nat.not_lt_zero, Nat.not_le.mpr h1, Nat.one_ne_zero, iI_lit, kI_add, kI_mul, kI_eq, kI_lt, kI_le, kI_neg1, neg1_kI, neg1_lt0, neg1_0le, kO_none, kO_some, nm_eq, bnd_some, rz_0, rz_1, zb_0, zb_1, rd_kI, wrI_kI, wrL_kI, dvI_kI, rmI_kI, if_true, if_false, ite_true, ite_false, reduceIte, Nat.lt_irrefl, Nat.le_refl, not_true, not_false_iff, true_and, and_true, false_and, and_false, and_self, Bool.false_eq_true, eq_self, Decidable.not_not]
      · have : mayB P e k = true := by rw [mayB_iff]; exact ⟨h1, h2, by omega⟩
        simp (disch := omega) only [e2, h3, this, Nat.not_lt_zero, Nat.not_le.mpr h1, Nat.one_ne_zero, iI_lit, kI_add, kI_mul, kI_eq, kI_lt, kI_le, kI_neg1, neg1_kI, neg1_lt0, neg1_0le, kO_none, kO_some, nm_eq, bnd_some, rz_0, rz_1, zb_0, zb_1, rd_kI, wrI_kI, wrL_kI, dvI_kI, rmI_kI, if_true, if_false, ite_true, ite_false, reduceIte, Nat.lt_irrefl, Nat.le_refl, not_true, not_false_iff, true_and, and_true, false_and, and_false, and_self, Bool.false_eq_true, eq_self, Decidable.not_not]
  · have : ¬ mayB P e k = true := by rw [mayB_iff]; omega
    simp (disch := omega) only [this, Nat.not_lt_zero, Nat.not_lt.mp h1, iI_lit, kI_add, kI_mul, kI_eq, kI_lt, kI_le, kI_neg1, neg1_kI, neg1_lt0, neg1_0le, kO_none, kO_some, nm_eq, bnd_some, rz_0, rz_1, zb_0, zb_1, rd_kI, wrI_kI, wrL_kI, dvI_kI, rmI_kI, if_true, if_false, ite_true, ite_false, reduceIte, Nat.lt_irrefl, Nat.le_refl, not_true, not_false_iff, true_and, and_true, false_and, and_false, and_self, Bool.false_eq_true, eq_self, Decidable.not_not]
/-- worths of c parcels from i on -/
def sW (P : Pa) (p : Nat) : Nat → Nat → Nat
  | 0, _ => 0
  | c + 1, i => pW P p i + sW P p c (i + 1)
theorem sW_le {P : Pa} (h : PaOk P) {p : Nat} : ∀ c i, sW P p c i ≤ 99 * c
  | 0, _ => Nat.zero_le _
  | c + 1, i => by
    have := sW_le h (p := p) c (i + 1)
    have := h.2.1 p i
    unfold sW
    omega
/-- what one guesses a wrapped one to be worth -/
def gu (P : Pa) (e : Ev) (p : Nat) : Nat := if 0 < pN P - eP e then sW P p (pN P - eP e) (eP e) / (pN P - eP e) else 0
theorem gu_le {P : Pa} (h : PaOk P) {e : Ev} {p : Nat} : gu P e p ≤ 693 := by
  unfold gu
  split
  · have h1 := sW_le h (p := p) (pN P - eP e) (eP e)
    have h2 := h.1
    have := Nat.div_le_self (sW P p (pN P - eP e) (eP e)) (pN P - eP e)
    omega
  · omega
theorem guess_loop {μ : Mm} {P : Pa} (hP : PC μ P) {t p d : Nat} (hp : p < pN P) (hd : d ≤ 7) : ∀ c i s f, i + c = pN P → c < f → s + 99 * c ≤ 1000 → F_X2_guess_19 t f (kI p) (kI d) (kI s) (kI i) μ = some (kI (if 0 < d then (s + sW P p c i) / d else 0), μ) := by
  have hn := hP.n7
  have en := hP.n
  intro c
  induction c with
  | zero =>
    intro i s f hi hf hs
    obtain ⟨f, rfl⟩ : ∃ g, f = g + 1 := ⟨f - 1, by omega⟩
    have hi : i = pN P := by omega
    unfold F_X2_guess_19 sW
    by_cases h : 0 < d
    · have hd0 : d ≠ 0 := by omega
      simp (disch := omega) only [en, hi, h, Nat.add_zero, iI_lit, kI_add, kI_mul, kI_eq, kI_lt, kI_le, kI_neg1, neg1_kI, neg1_lt0, neg1_0le, kO_none, kO_some, nm_eq, bnd_some, rz_0, rz_1, zb_0, zb_1, rd_kI, wrI_kI, wrL_kI, dvI_kI, rmI_kI, if_true, if_false, ite_true, ite_false, reduceIte, Nat.lt_irrefl, Nat.le_refl, not_true, not_false_iff, true_and, and_true, false_and, and_false, and_self, Bool.false_eq_true, eq_self, Decidable.not_not]
    · simp (disch := omega) only [en, hi, h, Nat.add_zero, iI_lit, kI_add, kI_mul, kI_eq, kI_lt, kI_le, kI_neg1, neg1_kI, neg1_lt0, neg1_0le, kO_none, kO_some, nm_eq, bnd_some, rz_0, rz_1, zb_0, zb_1, rd_kI, wrI_kI, wrL_kI, dvI_kI, rmI_kI, if_true, if_false, ite_true, ite_false, reduceIte, Nat.lt_irrefl, Nat.le_refl, not_true, not_false_iff, true_and, and_true, false_and, and_false, and_self, Bool.false_eq_true, eq_self, Decidable.not_not]
  | succ c ih =>
    intro i s f hi hf hs
    obtain ⟨f, rfl⟩ : ∃ g, f = g + 1 := ⟨f - 1, by omega⟩
    have hw := hP.ok.2.1 p i
    have e1 := worthFor_n hP hp (show i < pN P by omega)
    have := ih (i + 1) (s + pW P p i) f (by omega) (by omega) (by omega)
    unfold F_X2_guess_19 sW
    simp (disch := omega) only [en, e1, show ¬ pN P ≤ i by omega, this, Nat.add_assoc, iI_lit, kI_add, kI_mul, kI_eq, kI_lt, kI_le, kI_neg1, neg1_kI, neg1_lt0, neg1_0le, kO_none, kO_some, nm_eq, bnd_some, rz_0, rz_1, zb_0, zb_1, rd_kI, wrI_kI, wrL_kI, dvI_kI, rmI_kI, if_true, if_false, ite_true, ite_false, reduceIte, Nat.lt_irrefl, Nat.le_refl, not_true, not_false_iff, true_and, and_true, false_and, and_false, and_self, Bool.false_eq_true, eq_self, Decidable.not_not]
theorem guess_eq {μ : Mm} {P : Pa} {t p : Nat} {e : Ev} (hP : PC μ P) (h : RC μ t e) (hp : p < pN P) (ho : eP e ≤ pN P) : F_X2_guess t (kI p) μ = some (kI (gu P e p), μ) := by
  have hn := hP.n7
  obtain ⟨h0, -, h4, -⟩ := h
  have := guess_loop hP (t := t) hp (d := pN P - eP e) (by omega) (pN P - eP e) (eP e) 0 FU (by omega) (by unfold FU; omega) (by omega)
  unfold F_X2_guess gu
  rw [if_pos h0, h4, hP.n, kI_sub ho]
  simp (disch := omega) only [this, Nat.zero_add, iI_lit, kI_add, kI_mul, kI_eq, kI_lt, kI_le, kI_neg1, neg1_kI, neg1_lt0, neg1_0le, kO_none, kO_some, nm_eq, bnd_some, rz_0, rz_1, zb_0, zb_1, rd_kI, wrI_kI, wrL_kI, dvI_kI, rmI_kI, if_true, if_false, ite_true, ite_false, reduceIte, Nat.lt_irrefl, Nat.le_refl, not_true, not_false_iff, true_and, and_true, false_and, and_false, and_self, Bool.false_eq_true, eq_self, Decidable.not_not]
/-- the pick of the greatest number, the first of them -/
def pk (c : Nat → Bool) (sc : Nat → Int32) : Nat → Nat → Int32 → Option Nat → Option Nat
  | 0, _, _, b => b
  | m + 1, i, g, b => if c i = true ∧ g < sc i then pk c sc m (i + 1) (sc i) (some i) else pk c sc m (i + 1) g b
theorem most_loop {μ : Mm} {P : Pa} {t p : Nat} {e : Ev} (hP : PC μ P) (h : RC μ t e) (hb : BdE e) (hp : p < pN P) (ho : eP e ≤ pN P) : ∀ c i g b f, i + c = eP e → c < f → F_X2_ofMostWorth_13 t f (kI p) g (kO b) (kI i) μ = some (kO (pk (mayB P e) (fun k => kI (pW P p k)) c i g b), μ) := by
  have hn := hP.n7
  have h4 := h.2.2.1
  intro c
  induction c with
  | zero =>
    intro i g b f hi hf
    obtain ⟨f, rfl⟩ : ∃ g, f = g + 1 := ⟨f - 1, by omega⟩
    have hi : i = eP e := by omega
    unfold F_X2_ofMostWorth_13 pk
    simp (disch := omega) only [h4, hi, iI_lit, kI_add, kI_mul, kI_eq, kI_lt, kI_le, kI_neg1, neg1_kI, neg1_lt0, neg1_0le, kO_none, kO_some, nm_eq, bnd_some, rz_0, rz_1, zb_0, zb_1, rd_kI, wrI_kI, wrL_kI, dvI_kI, rmI_kI, if_true, if_false, ite_true, ite_false, reduceIte, Nat.lt_irrefl, Nat.le_refl, not_true, not_false_iff, true_and, and_true, false_and, and_false, and_self, Bool.false_eq_true, eq_self, Decidable.not_not]
  | succ c ih =>
    intro i g b f hi hf
    obtain ⟨f, rfl⟩ : ∃ g, f = g + 1 := ⟨f - 1, by omega⟩
    have e1 := worthFor_n hP hp (show i < pN P by omega)
    have e2 := mayRob_eq hP h hb (show i < 7 by omega)
    unfold F_X2_ofMostWorth_13 F_X2_ofMostWorth_55 pk
    by_cases hm : mayB P e i = true
    · by_cases hg : g < kI (pW P p i)
      · have := ih (i + 1) (kI (pW P p i)) (some i) f (by omega) (by omega)
        rw [kO_some] at this
        simp (disch := omega) only [h4, e1, e2, hm, hg, show ¬ eP e ≤ i by omega, le_not_lt (x := kI (pW P p i)) (y := g), this, Nat.one_ne_zero, iI_lit, kI_add, kI_mul, kI_eq, kI_lt, kI_le, kI_neg1, neg1_kI, neg1_lt0, neg1_0le, kO_none, kO_some, nm_eq, bnd_some, rz_0, rz_1, zb_0, zb_1, rd_kI, wrI_kI, wrL_kI, dvI_kI, rmI_kI, if_true, if_false, ite_true, ite_false, reduceIte, Nat.lt_irrefl, Nat.le_refl, not_true, not_false_iff, true_and, and_true, false_and, and_false, and_self, Bool.false_eq_true, eq_self, Decidable.not_not]
      · have := ih (i + 1) g b f (by omega) (by omega)
        simp (disch := omega) only [h4, e1, e2, hm, hg, show ¬ eP e ≤ i by omega, le_not_lt (x := kI (pW P p i)) (y := g), this, Nat.one_ne_zero, iI_lit, kI_add, kI_mul, kI_eq, kI_lt, kI_le, kI_neg1, neg1_kI, neg1_lt0, neg1_0le, kO_none, kO_some, nm_eq, bnd_some, rz_0, rz_1, zb_0, zb_1, rd_kI, wrI_kI, wrL_kI, dvI_kI, rmI_kI, if_true, if_false, ite_true, ite_false, reduceIte, Nat.lt_irrefl, Nat.le_refl, not_true, not_false_iff, true_and, and_true, false_and, and_false, and_self, Bool.false_eq_true, eq_self, Decidable.not_not]
    · have := ih (i + 1) g b f (by omega) (by omega)
      simp (disch := omega) only [h4, e1, e2, hm, show ¬ eP e ≤ i by omega, this, iI_lit, kI_add, kI_mul, kI_eq, kI_lt, kI_le, kI_neg1, neg1_kI, neg1_lt0, neg1_0le, kO_none, kO_some, nm_eq, bnd_some, rz_0, rz_1, zb_0, zb_1, rd_kI, wrI_kI, wrL_kI, dvI_kI, rmI_kI, if_true, if_false, ite_true, ite_false, reduceIte, Nat.lt_irrefl, Nat.le_refl, not_true, not_false_iff, true_and, and_true, false_and, and_false, and_self, Bool.false_eq_true, eq_self, Decidable.not_not]
theorem most_eq {μ : Mm} {P : Pa} {t p : Nat} {e : Ev} (hP : PC μ P) (h : RC μ t e) (hb : BdE e) (hp : p < pN P) (ho : eP e ≤ pN P) : F_X2_ofMostWorth t (kI p) μ = some (kO (pk (mayB P e) (fun k => kI (pW P p k)) (eP e) 0 (kI (gu P e p)) none), μ) := by
  have e1 := guess_eq hP h hp ho
  have hn := hP.n7
  have := most_loop hP h hb hp ho (eP e) 0 (kI (gu P e p)) none FU (by omega) (by unfold FU; omega)
  unfold F_X2_ofMostWorth
  rw [if_pos h.1, e1]
  simp (disch := omega) only [kO_none] at this
  simp (disch := omega) only [this, iI_lit, kI_add, kI_mul, kI_eq, kI_lt, kI_le, kI_neg1, neg1_kI, neg1_lt0, neg1_0le, kO_none, kO_some, nm_eq, bnd_some, rz_0, rz_1, zb_0, zb_1, rd_kI, wrI_kI, wrL_kI, dvI_kI, rmI_kI, if_true, if_false, ite_true, ite_false, reduceIte, Nat.lt_irrefl, Nat.le_refl, not_true, not_false_iff, true_and, and_true, false_and, and_false, and_self, Bool.false_eq_true, eq_self, Decidable.not_not]
