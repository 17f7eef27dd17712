/-! PAIRS AND JUDGED, OF BOTH -/
def evB (P : Pa) (v : Ev) (p q : Nat) : Bool := decide (pW P p (has0 v p) < pW P p (has0 v q))
def evX (P : Pa) (v : Ev) (p q : Nat) : Nat := if evB P v p q = true ∧ evB P v q p = true then 1 else 0
def evY (P : Pa) (v : Ev) (a b : Nat) : Nat := if pW P (own0 v a) a < pW P (own0 v a) b ∧ pW P (own0 v b) b < pW P (own0 v b) a then 1 else 0
theorem evX_sym {P : Pa} {v : Ev} {p q : Nat} : evX P v p q = evX P v q p := by
  unfold evX
  by_cases a : evB P v p q = true <;> by_cases b : evB P v q p = true <;> simp [a, b]
theorem evX_self {P : Pa} {v : Ev} {p : Nat} : evX P v p p = 0 := by
  unfold evX evB
  rw [if_neg]
  intro h
  have := of_decide_eq_true h.1
  omega
theorem evY_eq {P : Pa} {v : Ev} (hf : Full P v) {a b : Nat} (ha : a < pN P) (hb : b < pN P) : evY P v a b = evX P v (own0 v a) (own0 v b) := by
  unfold evY evX evB
  rw [(hf.1 a ha).2.1, (hf.1 b hb).2.1]
  simp only [decide_eq_true_eq]
theorem envies_eq {μ : Mm} {P : Pa} {v : Ev} (hP : PC μ P) (h : RC μ 50 v) (hf : Full P v) {p q : Nat} (hp : p < pN P) (hq : q < pN P) : F_X7_envies 50 (kI p) (kI q) μ = some (if evB P v p q = true then kI 1 else kI 0, μ) := by
  have hn := hP.n7
  have f1 := hf.2 p hp
  have f2 := hf.2 q hq
  have e1 : gI μ 52 p = kI (has0 v p) := by rw [h.2.1.2.2 p (by omega), f1.2.2]; rfl
  have e2 : gI μ 52 q = kI (has0 v q) := by rw [h.2.1.2.2 q (by omega), f2.2.2]; rfl
  have w1 := worthFor_n hP hp f1.1
  have w2 := worthFor_n hP hp f2.1
  have b1 := hP.ok.2.1 p (has0 v p)
  have b2 := hP.ok.2.1 p (has0 v q)
  unfold F_X7_envies
  rw [if_pos sh50, rd_kI (by omega) (by omega), e2, bnd_eq w2, rd_kI (by omega) (by omega), e1, bnd_eq w1]
  by_cases z : evB P v p q = true
  · have z' := of_decide_eq_true z
    rw [if_neg (by rw [kI_le (by omega) (by omega)]; omega), if_pos z]
    rfl
  · have z' : ¬ pW P p (has0 v p) < pW P p (has0 v q) := fun y => z (decide_eq_true y)
    rw [if_pos (by rw [kI_le (by omega) (by omega)]; omega), if_neg z]
    rfl
theorem prs8_in {μ : Mm} {P : Pa} {v : Ev} (hP : PC μ P) (h : RC μ 50 v) (hf : Full P v) {a : Nat} (ha : a < pN P) (k11 : Nat → Int32 → Int32 → Mm → Option (Int32 × Mm)) : ∀ c i s f, i + c = pN P → c < f → F_X7_pairsWhoWouldChange_29 k11 24 f 50 (kI s) (kI a) (kI i) μ = k11 50 (kI (s + fs (evX P v a) c i)) (kI (a + 1)) μ := by
  have hn := hP.n7
  have en := hP.n
  intro c
  induction c with
  | zero =>
    intro i s f hi hff
    obtain ⟨f, rfl⟩ : ∃ g, f = g + 1 := ⟨f - 1, by omega⟩
    rw [F_X7_pairsWhoWouldChange_29, gdS_yes sh50, en, if_pos (by rw [kI_le (by omega) (by omega)]; omega), nm_eq, iI_lit, kI_add]
    rfl
  | succ c ih =>
    intro i s f hi hff
    obtain ⟨f, rfl⟩ : ∃ g, f = g + 1 := ⟨f - 1, by omega⟩
    have w1 := envies_eq hP h hf ha (show i < pN P by omega)
    have w2 := envies_eq hP h hf (show i < pN P by omega) ha
    rw [F_X7_pairsWhoWouldChange_29, gdS_yes sh50, en, if_neg (by rw [kI_le (by omega) (by omega)]; omega), bnd_eq w1]
    show _ = k11 50 (kI (s + (evX P v a i + fs (evX P v a) c (i + 1)))) (kI (a + 1)) μ
    by_cases z : evB P v a i = true
    · rw [if_pos z, if_neg k1_ne0, bnd_eq w2]
      by_cases y : evB P v i a = true
      · have ex : evX P v a i = 1 := if_pos ⟨z, y⟩
        rw [if_pos y, if_neg k1_ne0, nm_eq, F_X7_pairsWhoWouldChange_68, gdS_yes sh50, nm_eq, iI_lit, kI_add, kI_add, ih (i + 1) (s + 1) f (by omega) (by omega), ex, Nat.add_assoc]
      · have ex : evX P v a i = 0 := if_neg (fun q => y q.2)
        rw [if_neg y, if_pos k0_eq0, F_X7_pairsWhoWouldChange_68, gdS_yes sh50, nm_eq, iI_lit, kI_add, ih (i + 1) s f (by omega) (by omega), ex, Nat.zero_add]
    · have ex : evX P v a i = 0 := if_neg (fun q => z q.1)
      rw [if_neg z, if_pos k0_eq0, F_X7_pairsWhoWouldChange_68, gdS_yes sh50, nm_eq, iI_lit, kI_add, ih (i + 1) s f (by omega) (by omega), ex, Nat.zero_add]
theorem prs8_out {μ : Mm} {P : Pa} {v : Ev} (hP : PC μ P) (h : RC μ 50 v) (hf : Full P v) : ∀ c a s f, a + c = pN P → c < f → F_X7_pairsWhoWouldChange_11 24 f 50 (kI s) (kI a) μ = some (kI (s + fs (fun a => fs (evX P v a) (pN P - (a + 1)) (a + 1)) c a), μ) := by
  have hn := hP.n7
  have en := hP.n
  intro c
  induction c with
  | zero =>
    intro a s f hi hff
    obtain ⟨f, rfl⟩ : ∃ g, f = g + 1 := ⟨f - 1, by omega⟩
    rw [F_X7_pairsWhoWouldChange_11, gdS_yes sh50, en, if_pos (by rw [kI_le (by omega) (by omega)]; omega)]
    rfl
  | succ c ih =>
    intro a s f hi hff
    obtain ⟨f, rfl⟩ : ∃ g, f = g + 1 := ⟨f - 1, by omega⟩
    rw [F_X7_pairsWhoWouldChange_11, gdS_yes sh50, en, if_neg (by rw [kI_le (by omega) (by omega)]; omega), nm_eq, iI_lit, kI_add, prs8_in hP h hf (by omega) _ (pN P - (a + 1)) (a + 1) s FU (by omega) (by unfold FU; omega), ih (a + 1) _ f (by omega) (by omega), Nat.add_assoc]
    rfl
theorem prs9_in {μ : Mm} {P : Pa} {lot : Nat → Nat} {v : Ev} (hP : PR μ P) (h : RR μ 1 P lot v) (hf : Full P v) {a : Nat} (ha : a < pN P) (k8 : Int32 → Int32 → Mm → Option (Int32 × Mm)) : ∀ c i s f, i + c = pN P → c < f → F_X9_pairs_20 k8 f (kI s) (kI a) (kI i) μ = k8 (kI (s + fs (evY P v a) c i)) (kI (a + 1)) μ := by
  have hn := hP.n7
  have en := hP.n
  have e1 : ∀ k, k < pN P → gI μ 118 (7 + k) = kI (own0 v k) := by
    intro k hk
    have := h.2.1 k hk
    rw [(hf.1 k hk).2.2] at this
    exact this
  intro c
  induction c with
  | zero =>
    intro i s f hi hff
    obtain ⟨f, rfl⟩ : ∃ g, f = g + 1 := ⟨f - 1, by omega⟩
    rw [F_X9_pairs_20, en, if_pos (by rw [kI_le (by omega) (by omega)]; omega), nm_eq, iI_lit, kI_add]
    rfl
  | succ c ih =>
    intro i s f hi hff
    obtain ⟨f, rfl⟩ : ∃ g, f = g + 1 := ⟨f - 1, by omega⟩
    have hi' : i < pN P := by omega
    have f1 := (hf.1 a ha).1
    have f2 := (hf.1 i hi').1
    have d1 := e1 a ha
    have d2 := e1 i hi'
    have g1 := hP.w (p := own0 v a) (k := i) (by omega) (by omega)
    have g2 := hP.w (p := own0 v a) (k := a) (by omega) (by omega)
    have g3 := hP.w (p := own0 v i) (k := a) (by omega) (by omega)
    have g4 := hP.w (p := own0 v i) (k := i) (by omega) (by omega)
    have b1 := hP.ok.2.1 (own0 v a) i
    have b2 := hP.ok.2.1 (own0 v a) a
    have b3 := hP.ok.2.1 (own0 v i) a
    have b4 := hP.ok.2.1 (own0 v i) i
    have i1 := ih (i + 1) (s + 1) f (by omega) (by omega)
    have i0 := ih (i + 1) s f (by omega) (by omega)
    show _ = k8 (kI (s + (evY P v a i + fs (evY P v a) c (i + 1)))) (kI (a + 1)) μ
    unfold F_X9_pairs_20 F_X9_pairs_107
    by_cases z : pW P (own0 v a) a < pW P (own0 v a) i
    · by_cases y : pW P (own0 v i) i < pW P (own0 v i) a
      · have ex : evY P v a i = 1 := if_pos ⟨z, y⟩
        simp (disch := omega) only [en, d1, d2, g1, g2, g3, g4, show ¬ pN P ≤ i by omega, Nat.not_le.mpr z, Nat.not_le.mpr y, i1, ex, Nat.add_assoc, iI_lit, kI_add, kI_mul, kI_eq, kI_lt, kI_le, kI_neg1, neg1_kI, neg1_lt0, neg1_0le, kO_none, kO_some, nm_eq, bnd_some, rz_0, rz_1, zb_0, zb_1, rd_kI, wrI_kI, wrL_kI, dvI_kI, rmI_kI, if_true, if_false, ite_true, ite_false, reduceIte, Nat.lt_irrefl, Nat.le_refl, not_true, not_false_iff, true_and, and_true, false_and, and_false, and_self, Bool.false_eq_true, eq_self, Decidable.not_not]
      · have ex : evY P v a i = 0 := if_neg (fun q => y q.2)
        simp (disch := omega) only [en, d1, d2, g1, g2, g3, g4, show ¬ pN P ≤ i by omega, Nat.not_le.mpr z, Nat.not_lt.mp y, i0, ex, Nat.zero_add, iI_lit, kI_add, kI_mul, kI_eq, kI_lt, kI_le, kI_neg1, neg1_kI, neg1_lt0, neg1_0le, kO_none, kO_some, nm_eq, bnd_some, rz_0, rz_1, zb_0, zb_1, rd_kI, wrI_kI, wrL_kI, dvI_kI, rmI_kI, if_true, if_false, ite_true, ite_false, reduceIte, Nat.lt_irrefl, Nat.le_refl, not_true, not_false_iff, true_and, and_true, false_and, and_false, and_self, Bool.false_eq_true, eq_self, Decidable.not_not]
    · have ex : evY P v a i = 0 := if_neg (fun q => z q.1)
      simp (disch := omega) only [en, d1, d2, g1, g2, show ¬ pN P ≤ i by omega, Nat.not_lt.mp z, i0, ex, Nat.zero_add, iI_lit, kI_add, kI_mul, kI_eq, kI_lt, kI_le, kI_neg1, neg1_kI, neg1_lt0, neg1_0le, kO_none, kO_some, nm_eq, bnd_some, rz_0, rz_1, zb_0, zb_1, rd_kI, wrI_kI, wrL_kI, dvI_kI, rmI_kI, if_true, if_false, ite_true, ite_false, reduceIte, Nat.lt_irrefl, Nat.le_refl, not_true, not_false_iff, true_and, and_true, false_and, and_false, and_self, Bool.false_eq_true, eq_self, Decidable.not_not]
theorem prs9_out {μ : Mm} {P : Pa} {lot : Nat → Nat} {v : Ev} (hP : PR μ P) (h : RR μ 1 P lot v) (hf : Full P v) : ∀ c a s f, a + c = pN P → c < f → F_X9_pairs_8 f (kI s) (kI a) μ = some (kI (s + fs (fun a => fs (evY P v a) (pN P - (a + 1)) (a + 1)) c a), μ) := by
  have hn := hP.n7
  have en := hP.n
  intro c
  induction c with
  | zero =>
    intro a s f hi hff
    obtain ⟨f, rfl⟩ : ∃ g, f = g + 1 := ⟨f - 1, by omega⟩
    rw [F_X9_pairs_8, en, if_pos (by rw [kI_le (by omega) (by omega)]; omega)]
    rfl
  | succ c ih =>
    intro a s f hi hff
    obtain ⟨f, rfl⟩ : ∃ g, f = g + 1 := ⟨f - 1, by omega⟩
    rw [F_X9_pairs_8, en, if_neg (by rw [kI_le (by omega) (by omega)]; omega), nm_eq, iI_lit, kI_add, prs9_in hP h hf (by omega) _ (pN P - (a + 1)) (a + 1) s FU (by omega) (by unfold FU; omega), ih (a + 1) _ f (by omega) (by omega), Nat.add_assoc]
    rfl
/-- half a square -/
theorem fs_half {n : Nat} {g : Nat → Nat → Nat} (h1 : ∀ a b, a < n → b < n → g a b = g b a) (h2 : ∀ a, a < n → g a a = 0) : 2 * fs (fun a => fs (g a) (n - (a + 1)) (a + 1)) n 0 = fs (fun a => fs (g a) n 0) n 0 := by
  have e1 : fs (fun a => fs (g a) (n - (a + 1)) (a + 1)) n 0 = fs (fun a => fs (fun b => if a < b then g a b else 0) n 0) n 0 := by
    refine fs_congr n 0 (fun a _ ha => ?_)
    have := fs_split (f := fun b => if a < b then g a b else 0) (a + 1) (n - (a + 1)) 0
    rw [show a + 1 + (n - (a + 1)) = n by omega] at this
    rw [this, fs_zero (a + 1) 0 (fun j _ hj => if_neg (by omega)), Nat.zero_add, Nat.zero_add]
    exact fs_congr _ _ (fun b hb _ => (if_pos (by omega)).symm)
  have e2 : fs (fun a => fs (fun b => if a < b then g a b else 0) n 0) n 0 = fs (fun a => fs (fun b => if b < a then g a b else 0) n 0) n 0 := by
    rw [fs_comm]
    refine fs_congr n 0 (fun a _ ha => fs_congr n 0 (fun b _ hb => ?_))
    show (if b < a then g b a else 0) = if b < a then g a b else 0
    rw [h1 a b (by omega) (by omega)]
  have e3 : fs (fun a => fs (g a) n 0) n 0 = fs (fun a => fs (fun b => if a < b then g a b else 0) n 0) n 0 + fs (fun a => fs (fun b => if b < a then g a b else 0) n 0) n 0 := by
    rw [← fs_add]
    refine fs_congr n 0 (fun a _ ha => ?_)
    show fs (g a) n 0 = fs (fun b => if a < b then g a b else 0) n 0 + fs (fun b => if b < a then g a b else 0) n 0
    rw [← fs_add]
    refine fs_congr n 0 (fun b _ hb => ?_)
    show g a b = (if a < b then g a b else 0) + (if b < a then g a b else 0)
    by_cases z : a < b
    · rw [if_pos z, if_neg (by omega), Nat.add_zero]
    · by_cases y : b < a
      · rw [if_neg z, if_pos y, Nat.zero_add]
      · rw [if_neg z, if_neg y]
        have : a = b := by omega
        subst this
        exact h2 a (by omega)
  rw [e3, ← e2, ← e1]
  omega
theorem prs_same {P : Pa} {v : Ev} (hf : Full P v) : fs (fun a => fs (evY P v a) (pN P - (a + 1)) (a + 1)) (pN P) 0 = fs (fun a => fs (evX P v a) (pN P - (a + 1)) (a + 1)) (pN P) 0 := by
  have a1 := fs_half (n := pN P) (g := evX P v) (fun a b _ _ => evX_sym) (fun a _ => evX_self)
  have a2 := fs_half (n := pN P) (g := evY P v) (fun a b ha hb => by rw [evY_eq hf ha hb, evY_eq hf hb ha, evX_sym]) (fun a ha => by rw [evY_eq hf ha ha, evX_self])
  have pp := fun f => fs_perm (n := pN P) (s := own0 v) (t := has0 v) (fun k hk => ⟨(hf.1 k hk).1, (hf.1 k hk).2.1⟩) (fun p hp => ⟨(hf.2 p hp).1, (hf.2 p hp).2.1⟩) f
  have a3 : fs (fun a => fs (evY P v a) (pN P) 0) (pN P) 0 = fs (fun a => fs (evX P v a) (pN P) 0) (pN P) 0 := by
    rw [← pp (fun p => fs (evX P v p) (pN P) 0)]
    refine fs_congr _ 0 (fun a _ ha => ?_)
    show fs (evY P v a) (pN P) 0 = fs (evX P v (own0 v a)) (pN P) 0
    rw [← pp (evX P v (own0 v a))]
    exact fs_congr _ 0 (fun b _ hb => evY_eq hf (by omega) (by omega))
  omega
theorem g_pairs : Good F_X8_pairs F_X9_pairs := by
  intro μ hI
  obtain ⟨P, lot, e, hR, hD⟩ := hI.split
  have hn := hR.1.n7
  obtain ⟨w, g, m1, a1, a2, a3, a4, a5⟩ := th8 hR hD
  obtain ⟨m2, b1, b2, b3, b4, b5⟩ := th9 a4 a5 w g
  obtain ⟨hw, he, hf⟩ := ev_ok hR.1.ok hD.2.2.1 w g
  generalize evE P lot w g = v at a2 b2 hw he hf
  have q8 := prs8_out a4.1 a2 hf (pN P) 0 0 FU (by omega) (by unfold FU; omega)
  have q9 := prs9_out b4.2.1 b2 hf (pN P) 0 0 FU (by omega) (by unfold FU; omega)
  rw [Nat.zero_add] at q8 q9
  rw [prs_same hf] at q9
  refine ⟨kI (fs (fun a => fs (evX P v a) (pN P - (a + 1)) (a + 1)) (pN P) 0), m1, m2, ?_, ?_, Inv.join b4 b5⟩
  · unfold F_X8_pairs F_X7_pairsWhoWouldChange
    rw [if_pos sh24, bnd_eq a1, gdS_yes sh50, iI_lit, bnd_eq q8]
  · unfold F_X9_pairs
    rw [bnd_eq b1, iI_lit, q9]
/-- what is heard -/
def hrM (μ : Mm) (s sz : Nat) : Mm := pI (pR μ 33 7 (107 + 1 * s)) 33 8 (kI sz)
theorem sh107s : ∀ s, s < 6 → shp (107 + 1 * s) = (5, 60) := by decide +kernel
theorem Rest.hr {μ : Mm} {P : Pa} {s sz : Nat} (h : Rest μ P) : Rest (hrM μ s sz) P := by
  obtain ⟨⟨p1, ⟨lp, l1, l2, l3⟩, p3⟩, h2, h4, h5, h6, h7, h8, h9⟩ := h
  have e1 : gR (pR μ 33 7 (107 + 1 * s)) 2 6 = gR μ 2 6 := by rw [gR_pR, if_neg (by omega)]
  have e2 : gR (pR μ 33 7 (107 + 1 * s)) 16 4 = gR μ 16 4 := by rw [gR_pR, if_neg (by omega)]
  have h6' : ILaw (pR μ 33 7 (107 + 1 * s)) := by
    unfold ILaw at h6 ⊢
    rw [e1, e2]
    exact h6
  have : Rest (pR μ 33 7 (107 + 1 * s)) P := ⟨⟨p1, ⟨lp, l1, e1.trans l2, l3⟩, p3⟩, h2, h4, h5, h6', h7, h8, h9⟩
  exact this.th (FrC.refl.put (Or.inl (by omega)))
theorem IDeed.hr {μ : Mm} {P : Pa} {lot : Nat → Nat} {e : Ev} {s sz : Nat} (hn : pN P ≤ 7) (h : IDeed μ P lot e) : IDeed (hrM μ s sz) P lot e := by
  have : IDeed (pR μ 33 7 (107 + 1 * s)) P lot e := h
  exact this.th hn (FrC.refl.put (Or.inl (by omega)))
theorem hear_eq {μ : Mm} {s sz : Nat} (hs : s < 6) : F_X7_hear (107 + 1 * s) (kI sz) μ = some ((), hrM μ s sz) := by
  unfold F_X7_hear
  rw [if_pos (sh107s s hs)]
  rfl
theorem lgc_0 {x y : Int64} : (lg_cmp x y = iI 0) ↔ x = y := by
  unfold lg_cmp
  have e1 : ¬ ((1 : Int32) = iI 0) := by decide
  have e2 : ((0 : Int32) = iI 0) := by decide
  have e3 : ¬ ((-1 : Int32) = iI 0) := by decide
  by_cases h : x > y
  · rw [if_pos h]
    refine ⟨fun q => absurd q e1, fun q => ?_⟩
    rw [q, gt_iff_lt, Int64.lt_iff_toInt_lt] at h
    omega
  · rw [if_neg h]
    by_cases k : x = y
    · rw [if_pos k]
      exact ⟨fun _ => k, fun _ => e2⟩
    · rw [if_neg k]
      exact ⟨fun q => absurd q e3, fun q => absurd q k⟩
/-- the first of people whose parcel isn't the one told -/
def unl (el : Nat → Int64) (h : Nat → Nat) : Nat → Nat → Option Nat
  | 0, _ => none
  | c + 1, i => if el i = (kI (h i)).toInt64 then unl el h c (i + 1) else some i
theorem unl_congr {el el' : Nat → Int64} {h : Nat → Nat} : ∀ c i, (∀ j, i ≤ j → j < i + c → el j = el' j) → unl el h c i = unl el' h c i
  | 0, _, _ => rfl
  | c + 1, i, q => by
    unfold unl
    rw [q i (Nat.le_refl _) (by omega), unl_congr c (i + 1) (fun j h1 h2 => q j (by omega) (by omega))]
theorem unl8 {m : Mm} {P : Pa} {v : Ev} {t s sz : Nat} (hP : PC m P) (h : RC m t v) (hf : ∀ p, p < pN P → eH v p = some (has0 v p)) (hs : s < 6) (hsz : sz ≤ 60) (h8 : gI m 33 8 = kI sz) (hr : gR m 33 7 = 107 + 1 * s) : ∀ c i f, i + c = min (pN P) sz → c < f → F_X7_firstUnlikeTold_2 t f (kI i) m = some (cI (unl (gL m (107 + 1 * s)) (has0 v) c i), m) := by
  have hn := hP.n7
  have en := hP.n
  have hsh := sh107s s hs
  intro c
  induction c with
  | zero =>
    intro i f hi hff
    obtain ⟨f, rfl⟩ : ∃ g, f = g + 1 := ⟨f - 1, by omega⟩
    rw [F_X7_firstUnlikeTold_2, en, hr, h8]
    by_cases z : pN P ≤ i
    · rw [if_pos (by rw [kI_le (by omega) (by omega)]; exact z)]
      rfl
    · rw [if_neg (by rw [kI_le (by omega) (by omega)]; exact z), if_neg (by omega), if_pos (by rw [kI_le (by omega) (by omega)]; omega)]
      rfl
  | succ c ih =>
    intro i f hi hff
    obtain ⟨f, rfl⟩ : ∃ g, f = g + 1 := ⟨f - 1, by omega⟩
    have e0 : gI m (t + 2) i = kI (has0 v i) := by rw [h.2.1.2.2 i (by omega), hf i (by omega)]; rfl
    have i1 := ih (i + 1) f (by omega) (by omega)
    rw [F_X7_firstUnlikeTold_2, en, hr, h8, if_neg (by rw [kI_le (by omega) (by omega)]; omega), if_neg (by omega), if_neg (by rw [kI_le (by omega) (by omega)]; omega), gdS_yes hsh, if_neg (by rw [iI_lit, kI_le (by omega) (by omega)]; omega), gdS_yes hsh, rd_kI (by omega) (by omega), rd_kI (by omega) (by omega), e0]
    by_cases z : gL m (107 + 1 * s) i = (kI (has0 v i)).toInt64
    · rw [if_pos (lgc_0.mpr z), nm_eq, iI_lit, kI_add, i1]
      show _ = some (cI (if gL m (107 + 1 * s) i = (kI (has0 v i)).toInt64 then _ else some i), m)
      rw [if_pos z]
    · rw [if_neg (fun q => z (lgc_0.mp q))]
      show _ = some (cI (if gL m (107 + 1 * s) i = (kI (has0 v i)).toInt64 then _ else some i), m)
      rw [if_neg z]
      rfl
theorem unl9 {m : Mm} {P : Pa} {lot : Nat → Nat} {v : Ev} {s sz : Nat} (hP : PR m P) (h : RR m 1 P lot v) (hw : WfE (pN P) P lot v) (hf : Full P v) (hs : s < 6) (hsz : sz ≤ 60) (h8 : gI m 154 s = kI sz) : ∀ c i f, i + c = min (pN P) sz → c < f → F_X9_wrongIn_6 f (kI s) (kI i) m = some (cI (unl (fun j => gL m 155 (60 * s + j)) (has0 v) c i), m) := by
  have hn := hP.n7
  have en := hP.n
  intro c
  induction c with
  | zero =>
    intro i f hi hff
    obtain ⟨f, rfl⟩ : ∃ g, f = g + 1 := ⟨f - 1, by omega⟩
    rw [F_X9_wrongIn_6, en]
    by_cases z : pN P ≤ i
    · rw [if_pos (by rw [kI_le (by omega) (by omega)]; exact z)]
      rfl
    · rw [if_neg (by rw [kI_le (by omega) (by omega)]; exact z), rd_kI (by omega) (by omega), h8, if_pos (by rw [kI_le (by omega) (by omega)]; omega)]
      rfl
  | succ c ih =>
    intro i f hi hff
    obtain ⟨f, rfl⟩ : ∃ g, f = g + 1 := ⟨f - 1, by omega⟩
    have i1 := ih (i + 1) f (by omega) (by omega)
    have e1 := hasIn_eq hP h hw (p := i) (by omega)
    rw [(hf.2 i (by omega)).2.2, cI_some] at e1
    have e1 : F_X9_hasIn (iI 1) (kI i) m = some (kI (has0 v i), m) := e1
    rw [F_X9_wrongIn_6, en, if_neg (by rw [kI_le (by omega) (by omega)]; omega), rd_kI (by omega) (by omega), h8, if_neg (by rw [kI_le (by omega) (by omega)]; omega), iI_lit, kI_mul, kI_add, rd_kI (by omega) (by omega), bnd_eq e1]
    by_cases z : gL m 155 (60 * s + i) = (kI (has0 v i)).toInt64
    · rw [if_pos (lgc_0.mpr z), nm_eq, iI_lit, kI_add, i1]
      show _ = some (cI (if gL m 155 (60 * s + i) = (kI (has0 v i)).toInt64 then _ else some i), m)
      rw [if_pos z]
    · rw [if_neg (fun q => z (lgc_0.mp q))]
      show _ = some (cI (if gL m 155 (60 * s + i) = (kI (has0 v i)).toInt64 then _ else some i), m)
      rw [if_neg z]
      rfl
theorem wrongIn_eq {μ : Mm} {P : Pa} {lot : Nat → Nat} {s sz : Nat} (hP : PR μ P) (hlt : ∀ j, j < pN P → gI μ 117 j = kI (lot j)) (hl : LotOk (pN P) P lot) (hs : s < 6) (hsz : sz ≤ 60) (h8 : gI μ 154 s = kI sz) (w g : Int32) : ∃ m1, F_X9_wrongIn (kI s) μ = some (cI (unl (fun j => gL μ 155 (60 * s + j)) (has0 (evE P lot w g)) (min (pN P) sz) 0), m1) ∧ FrC (CX9 1) μ m1 := by
  have hn := hP.n7
  obtain ⟨_, m1, a1, a2, a3⟩ := goEvening_eq hP hlt hl w g
  obtain ⟨hw, he, hf⟩ := ev_ok hP.ok hl w g
  refine ⟨m1, ?_, a3⟩
  have h81 : gI m1 154 s = kI sz := by rw [a3.1 154 s (by unfold CX9; omega)]; exact h8
  have q := unl9 (hP.cx a3) a2 hw hf hs hsz h81 (min (pN P) sz) 0 FU (by omega) (by unfold FU; omega)
  unfold F_X9_wrongIn
  rw [bnd_eq a1, iI_lit, q, unl_congr _ _ (fun j _ _ => a3.2.1 155 (60 * s + j))]
theorem bytes_cases {μ : Mm} (hI : Inv μ) (x : Int32) : (∃ r, F_X5_refusalOfBytes x μ = some (r, μ) ∧ ¬ r = iI 0 ∧ ((F_X9_isShelf x μ = some (kI 0, μ) ∧ r = iI (-1)) ∨ (F_X9_isShelf x μ = some (kI 1, μ) ∧ F_X9_rowFault x μ = some (r, μ) ∧ ¬ iI 0 ≤ r))) ∨ (∃ s sz, s < 6 ∧ sz ≤ 60 ∧ x = kI s ∧ F_X5_refusalOfBytes x μ = some (iI 0, μ) ∧ gI μ 105 s = kI sz ∧ gI μ 153 s = iI (-2) ∧ gI μ 154 s = kI sz ∧ ∀ j, j < 60 → gL μ (107 + s) j = gL μ 155 (60 * s + j)) := by
  have n1 : ∀ z : Int, -100 ≤ z → z < 0 → ¬ iI z = iI 0 := fun z h1 h2 => by rw [iI_eq (by omega) (by omega)]; omega
  have n2 : ∀ z : Int, -100 ≤ z → z < 0 → ¬ iI 0 ≤ iI z := fun z h1 h2 => by rw [iI_le2 (by omega) (by omega)]; omega
  rcases per_cases 6 x with ⟨s, hs, rfl⟩ | hx
  · obtain ⟨o, o1, o2, o3⟩ := she_get hI.she hI.bod hs
    have rb := refBytes_eq hs o1 o2
    match o, o1, o2, o3, rb with
    | .inl none, o1, o2, o3, rb =>
      have h9 : gI μ 153 s = iI (-1) := o3
      refine Or.inl ⟨iI (-11), rb, n1 _ (by omega) (by omega), Or.inr ⟨isShelf9_yes hs, ?_, n2 _ (by omega) (by omega)⟩⟩
      unfold F_X9_rowFault
      rw [rd_kI (by omega) (by omega), h9, if_pos rfl]
    | .inl (some (q + 1, n)), o1, o2, o3, rb =>
      have h9 : gI μ 153 s = iI (-2 - ((q + 1 : Nat) : Int)) := o3.1
      have hq : q + 1 ≤ 4 := o1.1
      refine Or.inl ⟨iI (-12), rb, n1 _ (by omega) (by omega), Or.inr ⟨isShelf9_yes hs, ?_, n2 _ (by omega) (by omega)⟩⟩
      unfold F_X9_rowFault
      rw [rd_kI (by omega) (by omega), h9, if_neg (by rw [iI_eq (by omega) (by omega)]; omega), rd_kI (by omega) (by omega), h9, if_neg (by rw [iI_eq (by omega) (by omega)]; omega)]
    | .inr b, o1, o2, o3, rb =>
      have h9 : gI μ 153 s = kI b := o3
      have hb50 : b < 50 := o1
      refine Or.inl ⟨iI (-12), rb, n1 _ (by omega) (by omega), Or.inr ⟨isShelf9_yes hs, ?_, n2 _ (by omega) (by omega)⟩⟩
      unfold F_X9_rowFault
      rw [rd_kI (by omega) (by omega), h9, if_neg (by rw [kI_iI, iI_eq (by omega) (by omega)]; omega), rd_kI (by omega) (by omega), h9, if_neg (by rw [kI_iI, iI_eq (by omega) (by omega)]; omega)]
    | .inl (some (0, sz)), o1, o2, o3, rb =>
      refine Or.inr ⟨s, sz, hs, o1.2, rfl, rb, o2.2, o3.1, o3.2, she_row hI.she hs o2 o1⟩
  · refine Or.inl ⟨iI (-1), ?_, n1 _ (by omega) (by omega), Or.inl ⟨isShelf9_no hx, rfl⟩⟩
    unfold F_X5_refusalOfBytes
    rw [bnd_eq (isShelf_no hx), if_pos k0_eq0]
theorem rowFault_0 {μ : Mm} {s : Nat} (hs : s < 6) (h9 : gI μ 153 s = iI (-2)) : F_X9_rowFault (kI s) μ = some (iI 0, μ) := by
  unfold F_X9_rowFault
  rw [rd_kI (by omega) (by omega), h9, if_neg (by rw [iI_eq (by omega) (by omega)]; omega), rd_kI (by omega) (by omega), h9, if_pos rfl]
theorem g_judge (x : Int32) : Good (F_X8_judge x) (F_X9_judge x) := by
  intro μ hI
  rcases bytes_cases hI x with ⟨r, h1, h2, h3⟩ | ⟨s, sz, hs, hsz, rfl, h1, h105, h153, h154, hel⟩
  · refine Good.bad (v := r) hI ?_ ?_
    · unfold F_X8_judge
      rw [bnd_eq h1, if_neg h2]
    · unfold F_X9_judge
      rcases h3 with ⟨q1, rfl⟩ | ⟨q1, q2, q3⟩
      · rw [bnd_eq q1, if_pos k0_eq0]
      · rw [bnd_eq q1, if_neg k1_ne0, bnd_eq q2, if_neg q3, bnd_eq q2]
  · obtain ⟨P, lot, e, hR, hD⟩ := hI.split
    have hn := hR.1.n7
    have hR6 := hR.hr (s := s) (sz := sz)
    have hD6 := hD.hr (s := s) (sz := sz) hn
    obtain ⟨_, m1, a1, rfl, ⟨w, g, a2⟩, a3⟩ := eveningBy_eq hR6.1 (r := 24) sh24 (by omega) hD6.2.1.1 hD6.2.1.2 hD6.2.2.1
    have f : FrC CT (hrM μ s sz) m1 := a3.c.mono (fun a j q => by unfold SA at q; unfold CT SL at *; omega)
    have a4 := hR6.th f
    have a5 := hD6.th hn f
    obtain ⟨hw, he, hf⟩ := ev_ok hR.1.ok hD.2.2.1 w g
    have h8 : gI m1 33 8 = kI sz := (a3.1 33 (by unfold SA SL; omega) 8).trans (by unfold hrM; rw [gI_pI, if_pos ⟨rfl, rfl⟩])
    have hr : gR m1 33 7 = 107 + 1 * s := (a3.2.2 33 7).trans (by unfold hrM; rw [gR_pI, gR_pR, if_pos ⟨rfl, rfl⟩])
    have q8 := unl8 a4.1 a2 (fun p hp => (hf.2 p hp).2.2) hs hsz h8 hr (min (pN P) sz) 0 FU (by omega) (by unfold FU; omega)
    have h1541 : gI m1 154 s = kI sz := by
      rw [f.1 154 s (by unfold CT SL CX9; omega)]
      exact h154
    obtain ⟨m2, b1, b2⟩ := wrongIn_eq (s := s) (sz := sz) a4.2.1 a5.2.2.2.2.2.1.2.2.2.2.2.2.2.2 a5.2.2.1 hs hsz h1541 w g
    have f2 : FrC CT m1 m2 := b2.mono (fun a j q => Or.inr (Or.inr (Or.inl q)))
    have hu : unl (fun j => gL m1 155 (60 * s + j)) (has0 (evE P lot w g)) (min (pN P) sz) 0 = unl (gL m1 (107 + 1 * s)) (has0 (evE P lot w g)) (min (pN P) sz) 0 := unl_congr _ _ (fun j _ hj => by
      rw [f.2.1, f.2.1]
      show gL μ 155 (60 * s + j) = gL μ (107 + 1 * s) j
      rw [Nat.one_mul]
      exact (hel j (by omega)).symm)
    rw [hu] at b1
    refine ⟨cI (unl (gL m1 (107 + 1 * s)) (has0 (evE P lot w g)) (min (pN P) sz) 0), m1, m2, ?_, ?_, Inv.join (a4.th f2) (a5.th hn f2)⟩
    · unfold F_X8_judge
      rw [bnd_eq h1, if_pos rfl, rd_kI (by omega) (by omega), rd_kI (by omega) (by omega), h105, bnd_eq (hear_eq hs), bnd_eq a1, gdS_yes sh50]
      unfold F_X7_firstUnlikeTold
      rw [if_pos sh50, iI_lit, bnd_eq q8]
    · unfold F_X9_judge
      have h1531 : gI m1 153 s = iI (-2) := by
        rw [f.1 153 s (by unfold CT SL CX9; omega)]
        exact h153
      rw [bnd_eq (isShelf9_yes hs), if_neg k1_ne0, bnd_eq (rowFault_0 hs h1531), if_pos (by rw [iI_le2 (by omega) (by omega)]; omega), bnd_eq b1]
