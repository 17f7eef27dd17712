/-! THE PARTY AND AN EVENING, pure; what the class's party answers -/
theorem le_not_lt {x y : Int32} : (x ≤ y) ↔ ¬ y < x := by
  rw [Int32.le_iff_toInt_le, Int32.lt_iff_toInt_lt]; omega
abbrev Pa : Type := Nat × (Nat → Nat → Nat) × (Nat → Nat → Nat) × (Nat → Nat) × Nat × Nat × (Int32 → Int32 → Int32 → Int32 → Int32 → Int32 → Int32)
def pN (P : Pa) : Nat := P.1
def pW (P : Pa) : Nat → Nat → Nat := P.2.1
def pK (P : Pa) : Nat → Nat → Nat := P.2.2.1
def pY (P : Pa) : Nat → Nat := P.2.2.2.1
def pM (P : Pa) : Nat := P.2.2.2.2.1
def pA (P : Pa) : Nat := P.2.2.2.2.2.1
def pF (P : Pa) : Int32 → Int32 → Int32 → Int32 → Int32 → Int32 → Int32 := P.2.2.2.2.2.2
def PaOk (P : Pa) : Prop := pN P ≤ 7 ∧ (∀ p k, pW P p k ≤ 99) ∧ (∀ p k, pK P p k ≤ 9) ∧ (∀ p, pY P p ≤ 2) ∧ 1 ≤ pM P ∧ pM P ≤ 3 ∧ pA P ≤ 1
/-- the rows in which a law of the class works -/
def SL (a : Nat) : Prop := a = 9 ∨ a = 10 ∨ a = 21 ∨ a = 22
def LawC (μ : Mm) (f : Int32 → Int32 → Int32 → Int32 → Int32 → Int32 → Int32) : Prop := ∃ lp, (lp = 6 ∨ lp = 18) ∧ gR μ 2 6 = lp ∧ ∀ μ', (∀ a, (a = lp ∨ a = lp + 1 ∨ a = lp + 2) → ∀ j, gI μ' a j = gI μ a j) → ∀ w x t l o r, ∃ μ'', F_X3_number lp w x t l o r μ' = some (f w x t l o r, μ'') ∧ Fr SL μ' μ''
def PC0 (μ : Mm) (P : Pa) : Prop := gI μ 2 0 = kI (pN P) ∧ (∀ p k, p < 7 → k < 7 → gI μ 3 (10 * p + k) = kI (pW P p k)) ∧ (∀ p k, p < 7 → k < 7 → gI μ 4 (10 * p + k) = kI (pK P p k)) ∧ (∀ p, p < 7 → gI μ 5 p = kI (pY P p)) ∧ gI μ 2 4 = kI (pM P) ∧ gI μ 2 5 = kI (pA P)
def PC (μ : Mm) (P : Pa) : Prop := PC0 μ P ∧ LawC μ (pF P) ∧ PaOk P
theorem LawC.fr {S : Nat → Prop} {μ μ1 : Mm} {f : Int32 → Int32 → Int32 → Int32 → Int32 → Int32 → Int32} (h : LawC μ f) (hf : Fr S μ μ1) (hs : ∀ a, S a → ¬ (6 ≤ a ∧ a ≤ 8) ∧ ¬ (18 ≤ a ∧ a ≤ 20)) : LawC μ1 f := by
  obtain ⟨lp, h1, h2, h3⟩ := h
  refine ⟨lp, h1, by rw [hf.2.2]; exact h2, fun μ' e => h3 μ' (fun a ha j => ?_)⟩
  rw [e a ha j]
  refine hf.1 a (fun q => ?_) j
  have := hs a q
  omega
theorem PC0.fr {S : Nat → Prop} {μ μ1 : Mm} {P : Pa} (h : PC0 μ P) (hf : Fr S μ μ1) (hs : ∀ a, S a → ¬ (2 ≤ a ∧ a ≤ 5)) : PC0 μ1 P := by
  have e : ∀ a, 2 ≤ a → a ≤ 5 → ∀ j, gI μ1 a j = gI μ a j := fun a h1 h2 j => hf.1 a (fun q => hs a q ⟨h1, h2⟩) j
  refine ⟨?_, fun p k hp hk => ?_, fun p k hp hk => ?_, fun p hp => ?_, ?_, ?_⟩
  · rw [e 2 (by omega) (by omega)]; exact h.1
  · rw [e 3 (by omega) (by omega)]; exact h.2.1 p k hp hk
  · rw [e 4 (by omega) (by omega)]; exact h.2.2.1 p k hp hk
  · rw [e 5 (by omega) (by omega)]; exact h.2.2.2.1 p hp
  · rw [e 2 (by omega) (by omega)]; exact h.2.2.2.2.1
  · rw [e 2 (by omega) (by omega)]; exact h.2.2.2.2.2
theorem PC.fr {S : Nat → Prop} {μ μ1 : Mm} {P : Pa} (h : PC μ P) (hf : Fr S μ μ1) (hs : ∀ a, S a → ¬ (2 ≤ a ∧ a ≤ 8) ∧ ¬ (18 ≤ a ∧ a ≤ 20)) : PC μ1 P :=
  ⟨h.1.fr hf (fun a q => by have := hs a q; omega), h.2.1.fr hf (fun a q => by have := hs a q; omega), h.2.2⟩
theorem PC.n {μ : Mm} {P : Pa} (h : PC μ P) : gI μ 2 0 = kI (pN P) := h.1.1
theorem PC.w {μ : Mm} {P : Pa} (h : PC μ P) {p k : Nat} (hp : p < 7) (hk : k < 7) : gI μ 3 (10 * p + k) = kI (pW P p k) := h.1.2.1 p k hp hk
theorem PC.k {μ : Mm} {P : Pa} (h : PC μ P) {p k : Nat} (hp : p < 7) (hk : k < 7) : gI μ 4 (10 * p + k) = kI (pK P p k) := h.1.2.2.1 p k hp hk
theorem PC.y {μ : Mm} {P : Pa} (h : PC μ P) {p : Nat} (hp : p < 7) : gI μ 5 p = kI (pY P p) := h.1.2.2.2.1 p hp
theorem PC.m {μ : Mm} {P : Pa} (h : PC μ P) : gI μ 2 4 = kI (pM P) := h.1.2.2.2.2.1
theorem PC.a {μ : Mm} {P : Pa} (h : PC μ P) : gI μ 2 5 = kI (pA P) := h.1.2.2.2.2.2
theorem PC.ok {μ : Mm} {P : Pa} (h : PC μ P) : PaOk P := h.2.2
theorem PC.n7 {μ : Mm} {P : Pa} (h : PC μ P) : pN P ≤ 7 := h.2.2.1
/-- a worth, 0 for none -/
def wo (P : Pa) (p : Nat) (o : Option Nat) : Nat := match o with
  | some k => if p < pN P ∧ k < pN P then pW P p k else 0
  | none => 0
theorem worthFor_eq {μ : Mm} {P : Pa} (h : PC μ P) {p : Nat} {o : Option Nat} (hp : p < 7) (ho : ∀ k, o = some k → k < 7) : F_X4_worthFor (kI p) (kO o) μ = some (kI (wo P p o), μ) := by
  have hn := h.n7
  have e0 := h.n
  unfold F_X4_worthFor F_X4_worthFor_28 F_X4_worthFor_29 wo
  cases o with
  | none =>
    by_cases h1 : p < pN P
    · simp (disch := omega) only [e0, h1, Nat.not_lt_zero, Nat.not_le.mpr h1, iI_lit, kI_add, kI_mul, kI_eq, kI_lt, kI_le, kI_neg1, neg1_kI, neg1_lt0, neg1_0le, kO_none, kO_some, nm_eq, bnd_some, rz_0, rz_1, zb_0, zb_1, rd_kI, wrI_kI, wrL_kI, dvI_kI, rmI_kI, if_true, if_false, ite_true, ite_false, reduceIte, Nat.lt_irrefl, Nat.le_refl, not_true, not_false_iff, true_and, and_true, false_and, and_false, and_self, Bool.false_eq_true, eq_self, Decidable.not_not]
    · simp (disch := omega) only [e0, h1, Nat.not_lt_zero, Nat.not_lt.mp h1, iI_lit, kI_add, kI_mul, kI_eq, kI_lt, kI_le, kI_neg1, neg1_kI, neg1_lt0, neg1_0le, kO_none, kO_some, nm_eq, bnd_some, rz_0, rz_1, zb_0, zb_1, rd_kI, wrI_kI, wrL_kI, dvI_kI, rmI_kI, if_true, if_false, ite_true, ite_false, reduceIte, Nat.lt_irrefl, Nat.le_refl, not_true, not_false_iff, true_and, and_true, false_and, and_false, and_self, Bool.false_eq_true, eq_self, Decidable.not_not]
  | some k =>
    have hk := ho k rfl
    have e3 := h.w hp hk
    by_cases h1 : p < pN P
    · by_cases h2 : k < pN P
      · simp (disch := omega) only [e0, e3, h1, h2, Nat.not_lt_zero, Nat.not_le.mpr h1, Nat.not_le.mpr h2, Nat.one_ne_zero, iI_lit, kI_add, kI_mul, kI_eq, kI_lt, kI_le, kI_neg1, neg1_kI, neg1_lt0, neg1_0le, kO_none, kO_some, nm_eq, bnd_some, rz_0, rz_1, zb_0, zb_1, rd_kI, wrI_kI, wrL_kI, dvI_kI, rmI_kI, if_true, if_false, ite_true, ite_false, reduceIte, Nat.lt_irrefl, Nat.le_refl, not_true, not_false_iff, true_and, and_true, false_and, and_false, and_self, Bool.false_eq_true, eq_self, Decidable.not_not]
      · simp (disch := omega) only [e0, h1, h2, Nat.not_lt_zero, Nat.not_le.mpr h1, Nat.not_lt.mp h2, iI_lit, kI_add, kI_mul, kI_eq, kI_lt, kI_le, kI_neg1, neg1_kI, neg1_lt0, neg1_0le, kO_none, kO_some, nm_eq, bnd_some, rz_0, rz_1, zb_0, zb_1, rd_kI, wrI_kI, wrL_kI, dvI_kI, rmI_kI, if_true, if_false, ite_true, ite_false, reduceIte, Nat.lt_irrefl, Nat.le_refl, not_true, not_false_iff, true_and, and_true, false_and, and_false, and_self, Bool.false_eq_true, eq_self, Decidable.not_not]
    · simp (disch := omega) only [e0, h1, Nat.not_lt_zero, Nat.not_lt.mp h1, iI_lit, kI_add, kI_mul, kI_eq, kI_lt, kI_le, kI_neg1, neg1_kI, neg1_lt0, neg1_0le, kO_none, kO_some, nm_eq, bnd_some, rz_0, rz_1, zb_0, zb_1, rd_kI, wrI_kI, wrL_kI, dvI_kI, rmI_kI, if_true, if_false, ite_true, ite_false, reduceIte, Nat.lt_irrefl, Nat.le_refl, not_true, not_false_iff, true_and, and_true, false_and, and_false, and_self, Bool.false_eq_true, eq_self, Decidable.not_not]
/-- how one likes another, 0 for none -/
def lo (P : Pa) (p : Nat) (o : Option Nat) : Nat := match o with
  | some k => if p < pN P ∧ k < pN P then pK P p k else 0
  | none => 0
theorem likeFor_eq {μ : Mm} {P : Pa} (h : PC μ P) {p : Nat} {o : Option Nat} (hp : p < 7) (ho : ∀ k, o = some k → k < 7) : F_X4_likeFor (kI p) (kO o) μ = some (kI (lo P p o), μ) := by
  have hn := h.n7
  have e0 := h.n
  unfold F_X4_likeFor F_X4_likeFor_28 F_X4_likeFor_29 lo
  cases o with
  | none =>
    by_cases h1 : p < pN P
    · simp (disch := omega) only [e0, h1, Nat.not_lt_zero, Nat.not_le.mpr h1, iI_lit, kI_add, kI_mul, kI_eq, kI_lt, kI_le, kI_neg1, neg1_kI, neg1_lt0, neg1_0le, kO_none, kO_some, nm_eq, bnd_some, rz_0, rz_1, zb_0, zb_1, rd_kI, wrI_kI, wrL_kI, dvI_kI, rmI_kI, if_true, if_false, ite_true, ite_false, reduceIte, Nat.lt_irrefl, Nat.le_refl, not_true, not_false_iff, true_and, and_true, false_and, and_false, and_self, Bool.false_eq_true, eq_self, Decidable.not_not]
    · simp (disch := omega) only [e0, h1, Nat.not_lt_zero, Nat.not_lt.mp h1, iI_lit, kI_add, kI_mul, kI_eq, kI_lt, kI_le, kI_neg1, neg1_kI, neg1_lt0, neg1_0le, kO_none, kO_some, nm_eq, bnd_some, rz_0, rz_1, zb_0, zb_1, rd_kI, wrI_kI, wrL_kI, dvI_kI, rmI_kI, if_true, if_false, ite_true, ite_false, reduceIte, Nat.lt_irrefl, Nat.le_refl, not_true, not_false_iff, true_and, and_true, false_and, and_false, and_self, Bool.false_eq_true, eq_self, Decidable.not_not]
  | some k =>
    have hk := ho k rfl
    have e3 := h.k hp hk
    by_cases h1 : p < pN P
    · by_cases h2 : k < pN P
      · simp (disch := omega) only [e0, e3, h1, h2, Nat.not_lt_zero, Nat.not_le.mpr h1, Nat.not_le.mpr h2, Nat.one_ne_zero, iI_lit, kI_add, kI_mul, kI_eq, kI_lt, kI_le, kI_neg1, neg1_kI, neg1_lt0, neg1_0le, kO_none, kO_some, nm_eq, bnd_some, rz_0, rz_1, zb_0, zb_1, rd_kI, wrI_kI, wrL_kI, dvI_kI, rmI_kI, if_true, if_false, ite_true, ite_false, reduceIte, Nat.lt_irrefl, Nat.le_refl, not_true, not_false_iff, true_and, and_true, false_and, and_false, and_self, Bool.false_eq_true, eq_self, Decidable.not_not]
      · simp (disch := omega) only [e0, h1, h2, Nat.not_lt_zero, Nat.not_le.mpr h1, Nat.not_lt.mp h2, iI_lit, kI_add, kI_mul, kI_eq, kI_lt, kI_le, kI_neg1, neg1_kI, neg1_lt0, neg1_0le, kO_none, kO_some, nm_eq, bnd_some, rz_0, rz_1, zb_0, zb_1, rd_kI, wrI_kI, wrL_kI, dvI_kI, rmI_kI, if_true, if_false, ite_true, ite_false, reduceIte, Nat.lt_irrefl, Nat.le_refl, not_true, not_false_iff, true_and, and_true, false_and, and_false, and_self, Bool.false_eq_true, eq_self, Decidable.not_not]
    · simp (disch := omega) only [e0, h1, Nat.not_lt_zero, Nat.not_lt.mp h1, iI_lit, kI_add, kI_mul, kI_eq, kI_lt, kI_le, kI_neg1, neg1_kI, neg1_lt0, neg1_0le, kO_none, kO_some, nm_eq, bnd_some, rz_0, rz_1, zb_0, zb_1, rd_kI, wrI_kI, wrL_kI, dvI_kI, rmI_kI, if_true, if_false, ite_true, ite_false, reduceIte, Nat.lt_irrefl, Nat.le_refl, not_true, not_false_iff, true_and, and_true, false_and, and_false, and_self, Bool.false_eq_true, eq_self, Decidable.not_not]
theorem wo_some {P : Pa} {p k : Nat} (hp : p < pN P) (hk : k < pN P) : wo P p (some k) = pW P p k := if_pos ⟨hp, hk⟩
theorem lo_some {P : Pa} {p k : Nat} (hp : p < pN P) (hk : k < pN P) : lo P p (some k) = pK P p k := if_pos ⟨hp, hk⟩
theorem worthFor_n {μ : Mm} {P : Pa} (h : PC μ P) {p k : Nat} (hp : p < pN P) (hk : k < pN P) : F_X4_worthFor (kI p) (kI k) μ = some (kI (pW P p k), μ) := by
  have hn := h.n7
  have := worthFor_eq h (p := p) (o := some k) (by omega) (fun _ e => by cases e; omega)
  rwa [kO_some, wo_some hp hk] at this
theorem likeFor_n {μ : Mm} {P : Pa} (h : PC μ P) {p k : Nat} (hp : p < pN P) (hk : k < pN P) : F_X4_likeFor (kI p) (kI k) μ = some (kI (pK P p k), μ) := by
  have hn := h.n7
  have := likeFor_eq h (p := p) (o := some k) (by omega) (fun _ e => by cases e; omega)
  rwa [kO_some, lo_some hp hk] at this
/-- an evening: who has each parcel, how often each is taken, how many are opened, who was robbed just now, of which parcel, what each one has, whether again was, who and what was led last, turns -/
abbrev Ev : Type := (Nat → Option Nat) × (Nat → Nat) × Nat × Option Nat × Option Nat × (Nat → Option Nat) × Nat × Int32 × Int32 × Int32
def eO (e : Ev) : Nat → Option Nat := e.1
def eT (e : Ev) : Nat → Nat := e.2.1
def eP (e : Ev) : Nat := e.2.2.1
def eR (e : Ev) : Option Nat := e.2.2.2.1
def eJ (e : Ev) : Option Nat := e.2.2.2.2.1
def eH (e : Ev) : Nat → Option Nat := e.2.2.2.2.2.1
def eA (e : Ev) : Nat := e.2.2.2.2.2.2.1
def eW (e : Ev) : Int32 := e.2.2.2.2.2.2.2.1
def eG (e : Ev) : Int32 := e.2.2.2.2.2.2.2.2.1
def eN (e : Ev) : Int32 := e.2.2.2.2.2.2.2.2.2
def up {α : Type} (f : Nat → α) (k : Nat) (v : α) : Nat → α := fun x => if x = k then v else f x
/-- the places of an evening that a play writes -/
def SE (t a : Nat) : Prop := a = t ∨ (t + 2 ≤ a ∧ a ≤ t + 4)
/-- the class's evening at t -/
def RC (μ : Mm) (t : Nat) (e : Ev) : Prop := shp t = (9, 2) ∧ ((∀ k, k < 7 → gI μ (t + 3) k = kO (eO e k)) ∧ (∀ k, k < 7 → gI μ (t + 4) k = kI (eT e k)) ∧ (∀ p, p < 7 → gI μ (t + 2) p = kO (eH e p))) ∧ gI μ t 4 = kI (eP e) ∧ gI μ t 5 = kO (eR e) ∧ gI μ t 6 = kO (eJ e) ∧ gI μ t 7 = kI (eA e) ∧ gI μ t 8 = eW e ∧ gI μ t 9 = eG e ∧ gI μ t 10 = eN e
theorem RC.fr {S : Nat → Prop} {μ μ1 : Mm} {t : Nat} {e : Ev} (h : RC μ t e) (hf : Fr S μ μ1) (hs : ∀ a, S a → ¬ (t ≤ a ∧ a ≤ t + 4)) : RC μ1 t e := by
  have q : ∀ a, t ≤ a → a ≤ t + 4 → ∀ j, gI μ1 a j = gI μ a j := fun a h1 h2 j => hf.1 a (fun z => hs a z ⟨h1, h2⟩) j
  obtain ⟨h0, ⟨h1, h2, h3⟩, h4, h5, h6, h7, h8, h9, h10⟩ := h
  refine ⟨h0, ⟨fun k hk => ?_, fun k hk => ?_, fun k hk => ?_⟩, ?_, ?_, ?_, ?_, ?_, ?_, ?_⟩
  · rw [q _ (by omega) (by omega)]; exact h1 k hk
  · rw [q _ (by omega) (by omega)]; exact h2 k hk
  · rw [q _ (by omega) (by omega)]; exact h3 k hk
  all_goals (rw [q _ (by omega) (by omega)]; assumption)
theorem shE0 {t : Nat} (h : shp t = (9, 2)) : t = 23 ∨ t = 28 ∨ (50 ≤ t ∧ t ≤ 95 ∧ t % 5 = 0) := (by decide +kernel : ∀ t, t ≤ NN → shp t = (9, 2) → (t = 23 ∨ t = 28 ∨ (50 ≤ t ∧ t ≤ 95 ∧ t % 5 = 0))) t (shp_le h (by decide)) h
theorem shE {t : Nat} (h : shp t = (9, 2)) : 23 ≤ t ∧ t ≤ 95 := by
  have := shE0 h
  omega
theorem shE2 {t u : Nat} (h : shp t = (9, 2)) (k : shp u = (9, 2)) : t = u ∨ t + 5 ≤ u ∨ u + 5 ≤ t := by
  have := shE0 h
  have := shE0 k
  omega
