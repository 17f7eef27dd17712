/-! CHOICES, AND A PLAY -/
def own0 (e : Ev) (k : Nat) : Nat := (eO e k).getD 0
def lkS (P : Pa) (e : Ev) (p k : Nat) : Nat := pK P p (own0 e k)
def nmb (P : Pa) (e : Ev) (p k : Nat) : Int32 := pF P (kI (pW P p k)) (kI (pW P (own0 e k) k)) (kI (eT e k)) (kI (pK P p (own0 e k))) (kI 0) (kI (pN P - eP e))
def nmb0 (P : Pa) (e : Ev) (p : Nat) : Int32 := pF P (kI (gu P e p)) (kI 0) (kI 0) (kI 0) (kI 1) (kI (pN P - eP e))
theorem law_call {μ : Mm} {P : Pa} (h : PC μ P) : shp (gR μ 2 6) = (9, 3) ∧ ∀ w x t l o r, ∃ μ', F_X3_number (gR μ 2 6) w x t l o r μ = some (pF P w x t l o r, μ') ∧ Fr SL μ μ' := by
  obtain ⟨lp, h1, h2, h3⟩ := h.2.1
  refine ⟨by rw [h2]; rcases h1 with rfl | rfl <;> first | exact sh6 | exact sh18, fun w x t l o r => ?_⟩
  rw [h2]
  exact h3 μ (fun _ _ _ => rfl) w x t l o r
theorem PC.sl {μ μ' : Mm} {P : Pa} (h : PC μ P) (hf : Fr SL μ μ') : PC μ' P := h.fr hf (fun a q => by unfold SL at q; omega)
theorem RC.sl {μ μ' : Mm} {t : Nat} {e : Ev} (h : RC μ t e) (hf : Fr SL μ μ') : RC μ' t e := h.fr hf (fun a q => by have := shE h.1; unfold SL at q; omega)
theorem neg_cmp {a b : Nat} (ha : a < 1000000) (hb : b < 1000000) : (iI (-(a : Int)) < iI (-(b : Int))) ↔ b < a := by
  rw [Int32.lt_iff_toInt_lt, iI_toInt (by omega) (by omega), iI_toInt (by omega) (by omega)]
  omega
def Lst (least g : Int32) : Prop := (least = kI 10 ∧ g = iI (-1000)) ∨ ∃ l : Nat, l ≤ 9 ∧ least = kI l ∧ g = iI (-(l : Int))
theorem Lst_cmp {least g : Int32} (h : Lst least g) {l : Nat} (hl : l ≤ 9) : (least ≤ kI l) ↔ ¬ g < iI (-(l : Int)) := by
  rcases h with ⟨rfl, rfl⟩ | ⟨j, h1, rfl, rfl⟩
  · have := neg_cmp (a := 1000) (b := l) (by omega) (by omega)
    rw [kI_le (by omega) (by omega)]
    rw [show iI (-1000) = iI (-((1000 : Nat) : Int)) from rfl, this]
    omega
  · rw [neg_cmp (by omega) (by omega), kI_le (by omega) (by omega)]
    omega
def c1 (P : Pa) (e : Ev) (p k : Nat) : Bool := mayB P e k && decide (gu P e p < pW P p k)
def s1 (P : Pa) (e : Ev) (p k : Nat) : Int32 := iI (-((lkS P e p k : Nat) : Int))
theorem like_loop {μ : Mm} {P : Pa} {t p : Nat} {e : Ev} (hP : PC μ P) (h : RC μ t e) (hb : BdE e) (hp : p < pN P) (ho : eP e ≤ pN P) (hq : ∀ k, k < eP e → ∃ q, q < pN P ∧ eO e k = some q) : ∀ c i least g b f, Lst least g → i + c = eP e → c < f → F_X2_fromWhomItLikesLeast_17 t f (kI p) (kI (gu P e p)) least (kO b) (kI i) μ = some (kO (pk (c1 P e p) (s1 P e p) c i g b), μ) := by
  have hn := hP.n7
  have h4 := h.2.2.1
  have hg := gu_le hP.ok (e := e) (p := p)
  intro c
  induction c with
  | zero =>
    intro i least g b f hL hi hf
    obtain ⟨f, rfl⟩ : ∃ g, f = g + 1 := ⟨f - 1, by omega⟩
    have hi : i = eP e := by omega
    unfold F_X2_fromWhomItLikesLeast_17 pk
    simp (disch := omega) only [h4, hi, iI_lit, kI_add, kI_mul, kI_eq, kI_lt, kI_le, kI_neg1, neg1_kI, neg1_lt0, neg1_0le, kO_none, kO_some, nm_eq, bnd_some, rz_0, rz_1, zb_0, zb_1, rd_kI, wrI_kI, wrL_kI, dvI_kI, rmI_kI, if_true, if_false, ite_true, ite_false, reduceIte, Nat.lt_irrefl, Nat.le_refl, not_true, not_false_iff, true_and, and_true, false_and, and_false, and_self, Bool.false_eq_true, eq_self, Decidable.not_not]
  | succ c ih =>
    intro i least g b f hL hi hf
    obtain ⟨f, rfl⟩ : ∃ g, f = g + 1 := ⟨f - 1, by omega⟩
    obtain ⟨q, q1, q2⟩ := hq i (by omega)
    have e0 := h.2.1.1 i (by omega)
    rw [q2, kO_some] at e0
    have e1 := worthFor_n hP hp (show i < pN P by omega)
    have e2 := mayRob_eq hP h hb (show i < 7 by omega)
    have e3 := likeFor_n hP hp q1
    have hl9 := hP.ok.2.2.1 p q
    have hw9 := hP.ok.2.1 p i
    have hlk : lkS P e p i = pK P p q := by simp [lkS, own0, q2]
    have e5 := Lst_cmp hL hl9
    have rest := ih (i + 1) least g b f hL (by omega) (by omega)
    have hs : s1 P e p i = iI (-((pK P p q : Nat) : Int)) := by unfold s1; rw [hlk]
    unfold F_X2_fromWhomItLikesLeast_17 F_X2_fromWhomItLikesLeast_76 pk
    rw [hs]
    by_cases hm : mayB P e i = true
    · by_cases hw : gu P e p < pW P p i
      · have hc : c1 P e p i = true := by simp [c1, hm, hw]
        by_cases hg : g < iI (-((pK P p q : Nat) : Int))
        · have := ih (i + 1) (kI (pK P p q)) (iI (-((pK P p q : Nat) : Int))) (some i) f (Or.inr ⟨_, hl9, rfl, rfl⟩) (by omega) (by omega)
          rw [kO_some] at this
          simp (disch := omega) only [h4, e0, e1, e2, e3, e5, hm, hc, hg, show ¬ eP e ≤ i by omega, show ¬ pW P p i ≤ gu P e p by omega, this, Nat.one_ne_zero, iI_lit, kI_add, kI_mul, kI_eq, kI_lt, kI_le, kI_neg1, neg1_kI, neg1_lt0, neg1_0le, kO_none, kO_some, nm_eq, bnd_some, rz_0, rz_1, zb_0, zb_1, rd_kI, wrI_kI, wrL_kI, dvI_kI, rmI_kI, if_true, if_false, ite_true, ite_false, reduceIte, Nat.lt_irrefl, Nat.le_refl, not_true, not_false_iff, true_and, and_true, false_and, and_false, and_self, Bool.false_eq_true, eq_self, Decidable.not_not]
        · simp (disch := omega) only [h4, e0, e1, e2, e3, e5, hm, hc, hg, show ¬ eP e ≤ i by omega, show ¬ pW P p i ≤ gu P e p by omega, rest, Nat.one_ne_zero, iI_lit, kI_add, kI_mul, kI_eq, kI_lt, kI_le, kI_neg1, neg1_kI, neg1_lt0, neg1_0le, kO_none, kO_some, nm_eq, bnd_some, rz_0, rz_1, zb_0, zb_1, rd_kI, wrI_kI, wrL_kI, dvI_kI, rmI_kI, if_true, if_false, ite_true, ite_false, reduceIte, Nat.lt_irrefl, Nat.le_refl, not_true, not_false_iff, true_and, and_true, false_and, and_false, and_self, Bool.false_eq_true, eq_self, Decidable.not_not]
      · have hc : ¬ c1 P e p i = true := by simp [c1, hw]
        simp (disch := omega) only [h4, e0, e1, e2, e3, hm, hc, show ¬ eP e ≤ i by omega, show pW P p i ≤ gu P e p by omega, rest, Nat.one_ne_zero, iI_lit, kI_add, kI_mul, kI_eq, kI_lt, kI_le, kI_neg1, neg1_kI, neg1_lt0, neg1_0le, kO_none, kO_some, nm_eq, bnd_some, rz_0, rz_1, zb_0, zb_1, rd_kI, wrI_kI, wrL_kI, dvI_kI, rmI_kI, if_true, if_false, ite_true, ite_false, reduceIte, Nat.lt_irrefl, Nat.le_refl, not_true, not_false_iff, true_and, and_true, false_and, and_false, and_self, Bool.false_eq_true, eq_self, Decidable.not_not]
    · have hc : ¬ c1 P e p i = true := by simp [c1, hm]
      simp (disch := omega) only [h4, e0, e1, e2, e3, hm, hc, show ¬ eP e ≤ i by omega, rest, iI_lit, kI_add, kI_mul, kI_eq, kI_lt, kI_le, kI_neg1, neg1_kI, neg1_lt0, neg1_0le, kO_none, kO_some, nm_eq, bnd_some, rz_0, rz_1, zb_0, zb_1, rd_kI, wrI_kI, wrL_kI, dvI_kI, rmI_kI, if_true, if_false, ite_true, ite_false, reduceIte, Nat.lt_irrefl, Nat.le_refl, not_true, not_false_iff, true_and, and_true, false_and, and_false, and_self, Bool.false_eq_true, eq_self, Decidable.not_not]
theorem like_eq {μ : Mm} {P : Pa} {t p : Nat} {e : Ev} (hP : PC μ P) (h : RC μ t e) (hb : BdE e) (hp : p < pN P) (ho : eP e ≤ pN P) (hq : ∀ k, k < eP e → ∃ q, q < pN P ∧ eO e k = some q) : F_X2_fromWhomItLikesLeast t (kI p) μ = some (kO (pk (c1 P e p) (s1 P e p) (eP e) 0 (iI (-1000)) none), μ) := by
  have e1 := guess_eq hP h hp ho
  have hn := hP.n7
  have := like_loop hP h hb hp ho hq (eP e) 0 (kI 10) (iI (-1000)) none FU (Or.inl ⟨rfl, rfl⟩) (by omega) (by unfold FU; omega)
  unfold F_X2_fromWhomItLikesLeast
  rw [if_pos h.1, e1]
  simp (disch := omega) only [kO_none] at this
  simp (disch := omega) only [this, iI_lit, kI_add, kI_mul, kI_eq, kI_lt, kI_le, kI_neg1, neg1_kI, neg1_lt0, neg1_0le, kO_none, kO_some, nm_eq, bnd_some, rz_0, rz_1, zb_0, zb_1, rd_kI, wrI_kI, wrL_kI, dvI_kI, rmI_kI, if_true, if_false, ite_true, ite_false, reduceIte, Nat.lt_irrefl, Nat.le_refl, not_true, not_false_iff, true_and, and_true, false_and, and_false, and_self, Bool.false_eq_true, eq_self, Decidable.not_not]
theorem law_loop9 {P : Pa} {t p : Nat} {e : Ev} (hb : BdE e) (hp : p < pN P) (ho : eP e ≤ pN P) (hq : ∀ k, k < eP e → ∃ q, q < pN P ∧ eO e k = some q) : ∀ c i g b f (μ : Mm), PC μ P → RC μ t e → i + c = eP e → c < f → ∃ μ', F_X2_byTheLaw_36 t f (kI p) (kI (pN P - eP e)) g (kO b) (kI i) μ = some (kO (pk (mayB P e) (nmb P e p) c i g b), μ') ∧ Fr SL μ μ' := by
  intro c
  induction c with
  | zero =>
    intro i g b f μ hP h hi hf
    have hn := hP.n7
    have h4 := h.2.2.1
    obtain ⟨f, rfl⟩ : ∃ g, f = g + 1 := ⟨f - 1, by omega⟩
    have hi : i = eP e := by omega
    refine ⟨μ, ?_, Fr.refl⟩
    unfold F_X2_byTheLaw_36 pk
    simp (disch := omega) only [h4, hi, iI_lit, kI_add, kI_mul, kI_eq, kI_lt, kI_le, kI_neg1, neg1_kI, neg1_lt0, neg1_0le, kO_none, kO_some, nm_eq, bnd_some, rz_0, rz_1, zb_0, zb_1, rd_kI, wrI_kI, wrL_kI, dvI_kI, rmI_kI, if_true, if_false, ite_true, ite_false, reduceIte, Nat.lt_irrefl, Nat.le_refl, not_true, not_false_iff, true_and, and_true, false_and, and_false, and_self, Bool.false_eq_true, eq_self, Decidable.not_not]
  | succ c ih =>
    intro i g b f μ hP h hi hf
    have hn := hP.n7
    have h4 := h.2.2.1
    obtain ⟨f, rfl⟩ : ∃ g, f = g + 1 := ⟨f - 1, by omega⟩
    obtain ⟨q, q1, q2⟩ := hq i (by omega)
    have e0 := h.2.1.1 i (by omega)
    rw [q2, kO_some] at e0
    have et := h.2.1.2.1 i (by omega)
    have e1 := worthFor_n hP hp (show i < pN P by omega)
    have e1' := worthFor_n hP q1 (show i < pN P by omega)
    have e2 := mayRob_eq hP h hb (show i < 7 by omega)
    have e3 := likeFor_n hP hp q1
    obtain ⟨l1, l2⟩ := law_call hP
    by_cases hm : mayB P e i = true
    · obtain ⟨μ2, n1, n2⟩ := l2 (kI (pW P p i)) (kI (pW P q i)) (kI (eT e i)) (kI (pK P p q)) (kI 0) (kI (pN P - eP e))
      have hnm : nmb P e p i = pF P (kI (pW P p i)) (kI (pW P q i)) (kI (eT e i)) (kI (pK P p q)) (kI 0) (kI (pN P - eP e)) := by simp [nmb, own0, q2]
      by_cases hg : g < nmb P e p i
      · obtain ⟨μ3, k1, k2⟩ := ih (i + 1) (nmb P e p i) (some i) f μ2 (hP.sl n2) (h.sl n2) (by omega) (by omega)
        refine ⟨μ3, ?_, n2.trans k2⟩
        rw [kO_some] at k1
        have hg2 : ¬ nmb P e p i ≤ g := by rw [le_not_lt]; simpa using hg
        unfold F_X2_byTheLaw_36 F_X2_byTheLaw_119 pk gdS
        rw [← hnm] at n1
        simp (disch := omega) only [h4, e0, et, e1, e1', e2, e3, l1, n1, hm, hg, hg2, show ¬ eP e ≤ i by omega, k1, Nat.one_ne_zero, iI_lit, kI_add, kI_mul, kI_eq, kI_lt, kI_le, kI_neg1, neg1_kI, neg1_lt0, neg1_0le, kO_none, kO_some, nm_eq, bnd_some, rz_0, rz_1, zb_0, zb_1, rd_kI, wrI_kI, wrL_kI, dvI_kI, rmI_kI, if_true, if_false, ite_true, ite_false, reduceIte, Nat.lt_irrefl, Nat.le_refl, not_true, not_false_iff, true_and, and_true, false_and, and_false, and_self, Bool.false_eq_true, eq_self, Decidable.not_not]
      · obtain ⟨μ3, k1, k2⟩ := ih (i + 1) g b f μ2 (hP.sl n2) (h.sl n2) (by omega) (by omega)
        refine ⟨μ3, ?_, n2.trans k2⟩
        have hg2 : nmb P e p i ≤ g := by rw [le_not_lt]; exact hg
        unfold F_X2_byTheLaw_36 F_X2_byTheLaw_119 pk gdS
        rw [← hnm] at n1
        simp (disch := omega) only [h4, e0, et, e1, e1', e2, e3, l1, n1, hm, hg, hg2, show ¬ eP e ≤ i by omega, k1, Nat.one_ne_zero, iI_lit, kI_add, kI_mul, kI_eq, kI_lt, kI_le, kI_neg1, neg1_kI, neg1_lt0, neg1_0le, kO_none, kO_some, nm_eq, bnd_some, rz_0, rz_1, zb_0, zb_1, rd_kI, wrI_kI, wrL_kI, dvI_kI, rmI_kI, if_true, if_false, ite_true, ite_false, reduceIte, Nat.lt_irrefl, Nat.le_refl, not_true, not_false_iff, true_and, and_true, false_and, and_false, and_self, Bool.false_eq_true, eq_self, Decidable.not_not]
    · obtain ⟨μ3, k1, k2⟩ := ih (i + 1) g b f μ hP h (by omega) (by omega)
      refine ⟨μ3, ?_, k2⟩
      unfold F_X2_byTheLaw_36 F_X2_byTheLaw_119 pk
      simp (disch := omega) only [h4, e2, hm, show ¬ eP e ≤ i by omega, k1, iI_lit, kI_add, kI_mul, kI_eq, kI_lt, kI_le, kI_neg1, neg1_kI, neg1_lt0, neg1_0le, kO_none, kO_some, nm_eq, bnd_some, rz_0, rz_1, zb_0, zb_1, rd_kI, wrI_kI, wrL_kI, dvI_kI, rmI_kI, if_true, if_false, ite_true, ite_false, reduceIte, Nat.lt_irrefl, Nat.le_refl, not_true, not_false_iff, true_and, and_true, false_and, and_false, and_self, Bool.false_eq_true, eq_self, Decidable.not_not]
theorem byLaw_eq {μ : Mm} {P : Pa} {t p : Nat} {e : Ev} (hP : PC μ P) (h : RC μ t e) (hb : BdE e) (hp : p < pN P) (ho : eP e ≤ pN P) (hq : ∀ k, k < eP e → ∃ q, q < pN P ∧ eO e k = some q) : ∃ μ', F_X2_byTheLaw t (kI p) μ = some (kO (pk (mayB P e) (nmb P e p) (eP e) 0 (nmb0 P e p) none), μ') ∧ Fr SL μ μ' := by
  have e1 := guess_eq hP h hp ho
  have hn := hP.n7
  obtain ⟨l1, l2⟩ := law_call hP
  obtain ⟨μ2, n1, n2⟩ := l2 (kI (gu P e p)) (kI 0) (kI 0) (kI 0) (kI 1) (kI (pN P - eP e))
  obtain ⟨μ3, k1, k2⟩ := law_loop9 (t := t) hb hp ho hq (eP e) 0 (nmb0 P e p) none FU μ2 (hP.sl n2) (h.sl n2) (by omega) (by unfold FU; omega)
  refine ⟨μ3, ?_, n2.trans k2⟩
  rw [show pF P (kI (gu P e p)) (kI 0) (kI 0) (kI 0) (kI 1) (kI (pN P - eP e)) = nmb0 P e p from rfl] at n1
  unfold F_X2_byTheLaw gdS
  rw [if_pos h.1, h.2.2.1, hP.n, kI_sub ho]
  simp (disch := omega) only [kO_none] at k1
  simp (disch := omega) only [l1, e1, n1, k1, iI_lit, kI_add, kI_mul, kI_eq, kI_lt, kI_le, kI_neg1, neg1_kI, neg1_lt0, neg1_0le, kO_none, kO_some, nm_eq, bnd_some, rz_0, rz_1, zb_0, zb_1, rd_kI, wrI_kI, wrL_kI, dvI_kI, rmI_kI, if_true, if_false, ite_true, ite_false, reduceIte, Nat.lt_irrefl, Nat.le_refl, not_true, not_false_iff, true_and, and_true, false_and, and_false, and_self, Bool.false_eq_true, eq_self, Decidable.not_not]
/-- what one takes by its way; none: it opens one -/
def ch (P : Pa) (e : Ev) (p : Nat) : Option Nat := if pY P p = 2 then pk (mayB P e) (nmb P e p) (eP e) 0 (nmb0 P e p) none else if pY P p = 1 then pk (c1 P e p) (s1 P e p) (eP e) 0 (iI (-1000)) none else pk (mayB P e) (fun k => kI (pW P p k)) (eP e) 0 (kI (gu P e p)) none
theorem pick_in {c : Nat → Bool} {sc : Nat → Int32} : ∀ m i g b k, pk c sc m i g b = some k → b = some k ∨ (c k = true ∧ i ≤ k ∧ k < i + m)
  | 0, i, g, b, k, h => Or.inl h
  | m + 1, i, g, b, k, h => by
    unfold pk at h
    split at h
    · next q =>
      rcases pick_in m (i + 1) _ _ k h with z | ⟨z1, z2, z3⟩
      · cases z; exact Or.inr ⟨q.1, Nat.le_refl _, by omega⟩
      · exact Or.inr ⟨z1, by omega, by omega⟩
    · rcases pick_in m (i + 1) _ _ k h with z | ⟨z1, z2, z3⟩
      · exact Or.inl z
      · exact Or.inr ⟨z1, by omega, by omega⟩
theorem ch_may {P : Pa} {e : Ev} {p k : Nat} (h : ch P e p = some k) : mayB P e k = true := by
  unfold ch at h
  split at h
  · rcases pick_in _ _ _ _ _ h with z | z
    · cases z
    · exact z.1
  · split at h
    · rcases pick_in _ _ _ _ _ h with z | z
      · cases z
      · have := z.1
        simp [c1] at this
        exact this.1
    · rcases pick_in _ _ _ _ _ h with z | z
      · cases z
      · exact z.1
def stE (P : Pa) (e : Ev) (p : Nat) : Ev := match ch P e p with
  | none => opE p e
  | some k => rbE p k (own0 e k) e
/-- a play till m are opened: where it stands then, and how many turns -/
def plE (P : Pa) (lot : Nat → Nat) (m : Nat) : Nat → Ev → Ev × Nat
  | 0, e => (e, 0)
  | f + 1, e => if m ≤ eP e then (e, 0) else match cu P lot e with
    | none => (e, 0)
    | some p => ((plE P lot m f (stE P e p)).1, (plE P lot m f (stE P e p)).2 + 1)
def sT (P : Pa) (T : Nat → Nat) : Nat → Nat
  | 0 => 0
  | k + 1 => (pM P - T k) + sT P T k
def left (P : Pa) (e : Ev) : Nat := (pN P - eP e) * (1 + pM P) + sT P (eT e) (eP e)
theorem sT_up {P : Pa} {T : Nat → Nat} {k v : Nat} : ∀ j, j ≤ k → sT P (up T k v) j = sT P T j
  | 0, _ => rfl
  | j + 1, h => by
    unfold sT
    rw [sT_up j (by omega), up_ne (by omega)]
theorem sT_rb {P : Pa} {T : Nat → Nat} {k : Nat} (hk : T k < pM P) : ∀ j, k < j → sT P (up T k (T k + 1)) j + 1 = sT P T j
  | 0, h => absurd h (by omega)
  | j + 1, h => by
    unfold sT
    by_cases z : j = k
    · subst z
      rw [sT_up j (Nat.le_refl _), up_at]
      omega
    · rw [up_ne z]
      have := sT_rb (P := P) hk j (by omega)
      omega
theorem sT_le {P : Pa} {T : Nat → Nat} : ∀ j, sT P T j ≤ j * pM P
  | 0 => Nat.zero_le _
  | j + 1 => by
    have := sT_le (P := P) (T := T) j
    unfold sT
    rw [Nat.succ_mul]
    omega
theorem left_le {P : Pa} (hP : PaOk P) {e : Ev} (h : eP e ≤ pN P) : left P e ≤ 28 := by
  have h1 := sT_le (P := P) (T := eT e) (eP e)
  obtain ⟨h2, -, -, -, h3, h4, -⟩ := hP
  unfold left
  have h5 : pM P = 1 ∨ pM P = 2 ∨ pM P = 3 := by omega
  rcases h5 with h5 | h5 | h5 <;> rw [h5] at h1 ⊢ <;> omega
theorem left_st {m : Nat} {P : Pa} {lot : Nat → Nat} {e : Ev} {p : Nat} (hm : m ≤ pN P) (h : WfE m P lot e) (ho : eP e < m) : left P (stE P e p) + 1 = left P e := by
  unfold stE
  cases hc : ch P e p with
  | none =>
    have h0 := (h.2.2.2.1 (eP e) (Nat.le_refl _)).2
    show (pN P - (eP e + 1)) * (1 + pM P) + ((pM P - eT e (eP e)) + sT P (eT e) (eP e)) + 1 = (pN P - eP e) * (1 + pM P) + sT P (eT e) (eP e)
    rw [h0]
    have : pN P - eP e = (pN P - (eP e + 1)) + 1 := by omega
    rw [this, Nat.succ_mul]
    omega
  | some k =>
    obtain ⟨k1, -, k3⟩ := mayB_iff.mp (ch_may hc)
    have := sT_rb k3 (eP e) k1
    show (pN P - eP e) * (1 + pM P) + sT P (up (eT e) k (eT e k + 1)) (eP e) + 1 = (pN P - eP e) * (1 + pM P) + sT P (eT e) (eP e)
    omega
theorem wf_st {m : Nat} {P : Pa} {lot : Nat → Nat} {e : Ev} {p : Nat} (hP : PaOk P) (hl : LotOk m P lot) (h : WfE m P lot e) (hm : eP e < m) (hc : cu P lot e = some p) : WfE m P lot (stE P e p) := by
  unfold stE
  cases hk : ch P e p with
  | none => exact wf_op hP hl h hm hc
  | some k =>
    obtain ⟨k1, k2, k3⟩ := mayB_iff.mp (ch_may hk)
    obtain ⟨q, q1, q2⟩ := h.2.2.1 k k1
    have : own0 e k = q := by simp [own0, q2]
    show WfE m P lot (rbE p k (own0 e k) e)
    rw [this]
    exact wf_rb hP hl h hm hc (ch_may hk) q2
