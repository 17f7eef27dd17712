/-! PAIRS AND JUDGED, OF BOTH -/
def evB (P : Pa) (v : Ev) (p q : Nat) : Bool := decide (pW P p (has0 v p) < pW P p (has0 v q))
def evX (P : Pa) (v : Ev) (p q : Nat) : Nat := if evB P v p q = true ∧ evB P v q p = true then 1 else 0
def evY (P : Pa) (v : Ev) (a b : Nat) : Nat := if pW P (own0 v a) a < pW P (own0 v a) b ∧ pW P (own0 v b) b < pW P (own0 v b) a then 1 else 0
theorem evX_sym {P : Pa} {v : Ev} {p q : Nat} : evX P v p q = evX P v q p := by
  unfold evX
  by_cases a : evB P v p q = true <;> by_cases b : evB P v q p = true <;> simp [a, b]
theorem evX_self {P : Pa} {v : Ev} {p : Nat} : evX P v p p = 0 := by
  unfold evX evB
  rw [if_neg]
  intro h
  have := of_decide_eq_true h.1
  omega
theorem evY_eq {P : Pa} {v : Ev} (hf : Full P v) {a b : Nat} (ha : a < pN P) (hb : b < pN P) : evY P v a b = evX P v (own0 v a) (own0 v b) := by
  unfold evY evX evB
  rw [(hf.1 a ha).2.1, (hf.1 b hb).2.1]
  simp only [decide_eq_true_eq]
theorem envies_eq {μ : Mm} {P : Pa} {v : Ev} (hP : PC μ P) (h : RC μ 50 v) (hf : Full P v) {p q : Nat} (hp : p < pN P) (hq : q < pN P) : F_X7_envies 50 (kI p) (kI q) μ = some (if evB P v p q = true then kI 1 else kI 0, μ) := by
  have hn := hP.n7
  have f1 := hf.2 p hp
  have f2 := hf.2 q hq
  have e1 : gI μ 52 p = kI (has0 v p) := by rw [h.2.1.2.2 p (by omega), f1.2.2]; rfl
  have e2 : gI μ 52 q = kI (has0 v q) := by rw [h.2.1.2.2 q (by omega), f2.2.2]; rfl
  have w1 := worthFor_n hP hp f1.1
  have w2 := worthFor_n hP hp f2.1
  have b1 := hP.ok.2.1 p (has0 v p)
  have b2 := hP.ok.2.1 p (has0 v q)
  unfold F_X7_envies
  rw [if_pos sh50, rd_kI (by omega) (by omega), e2, bnd_eq w2, rd_kI (by omega) (by omega), e1, bnd_eq w1]
  by_cases z : evB P v p q = true
  · have z' := of_decide_eq_true z
    rw [if_neg (by rw [kI_le (by omega) (by omega)]; omega), if_pos z]
    rfl
  · have z' : ¬ pW P p (has0 v p) < pW P p (has0 v q) := fun y => z (decide_eq_true y)
    rw [if_pos (by rw [kI_le (by omega) (by omega)]; omega), if_neg z]
    rfl
theorem prs8_in {μ : Mm} {P : Pa} {v : Ev} (hP : PC μ P) (h : RC μ 50 v) (hf : Full P v) {a : Nat} (ha : a < pN P) (k11 : Nat → Int32 → Int32 → Mm → Option (Int32 × Mm)) : ∀ c i s f, i + c = pN P → c < f → F_X7_pairsWhoWouldChange_29 k11 24 f 50 (kI s) (kI a) (kI i) μ = k11 50 (kI (s + fs (evX P v a) c i)) (kI (a + 1)) μ := by
  have hn := hP.n7
  have en := hP.n
  intro c
  induction c with
  | zero =>
    intro i s f hi hff
    obtain ⟨f, rfl⟩ : ∃ g, f = g + 1 := ⟨f - 1, by omega⟩
    rw [F_X7_pairsWhoWouldChange_29, gdS_yes sh50, en, if_pos (by rw [kI_le (by omega) (by omega)]; omega), nm_eq, iI_lit, kI_add]
    rfl
  | succ c ih =>
    intro i s f hi hff
    obtain ⟨f, rfl⟩ : ∃ g, f = g + 1 := ⟨f - 1, by omega⟩
    have w1 := envies_eq hP h hf ha (show i < pN P by omega)
    have w2 := envies_eq hP h hf (show i < pN P by omega) ha
    rw [F_X7_pairsWhoWouldChange_29, gdS_yes sh50, en, if_neg (by rw [kI_le (by omega) (by omega)]; omega), bnd_eq w1]
    show _ = k11 50 (kI (s + (evX P v a i + fs (evX P v a) c (i + 1)))) (kI (a + 1)) μ
    by_cases z : evB P v a i = true
    · rw [if_pos z, if_neg k1_ne0, bnd_eq w2]
      by_cases y : evB P v i a = true
      · have ex : evX P v a i = 1 := if_pos ⟨z, y⟩
        rw [if_pos y, if_neg k1_ne0, nm_eq, F_X7_pairsWhoWouldChange_68, gdS_yes sh50, nm_eq, iI_lit, kI_add, kI_add, ih (i + 1) (s + 1) f (by omega) (by omega), ex, Nat.add_assoc]
      · have ex : evX P v a i = 0 := if_neg (fun q => y q.2)
        rw [if_neg y, if_pos k0_eq0, F_X7_pairsWhoWouldChange_68, gdS_yes sh50, nm_eq, iI_lit, kI_add, ih (i + 1) s f (by omega) (by omega), ex, Nat.zero_add]
    · have ex : evX P v a i = 0 := if_neg (fun q => z q.1)
      rw [if_neg z, if_pos k0_eq0, F_X7_pairsWhoWouldChange_68, gdS_yes sh50, nm_eq, iI_lit, kI_add, ih (i + 1) s f (by omega) (by omega), ex, Nat.zero_add]
theorem prs8_out {μ : Mm} {P : Pa} {v : Ev} (hP : PC μ P) (h : RC μ 50 v) (hf : Full P v) : ∀ c a s f, a + c = pN P → c < f → F_X7_pairsWhoWouldChange_11 24 f 50 (kI s) (kI a) μ = some (kI (s + fs (fun a => fs (evX P v a) (pN P - (a + 1)) (a + 1)) c a), μ) := by
  have hn := hP.n7
  have en := hP.n
  intro c
  induction c with
  | zero =>
    intro a s f hi hff
    obtain ⟨f, rfl⟩ : ∃ g, f = g + 1 := ⟨f - 1, by omega⟩
    rw [F_X7_pairsWhoWouldChange_11, gdS_yes sh50, en, if_pos (by rw [kI_le (by omega) (by omega)]; omega)]
    rfl
  | succ c ih =>
    intro a s f hi hff
    obtain ⟨f, rfl⟩ : ∃ g, f = g + 1 := ⟨f - 1, by omega⟩
    rw [F_X7_pairsWhoWouldChange_11, gdS_yes sh50, en, if_neg (by rw [kI_le (by omega) (by omega)]; omega), nm_eq, iI_lit, kI_add, prs8_in hP h hf (by omega) _ (pN P - (a + 1)) (a + 1) s FU (by omega) (by unfold FU; omega), ih (a + 1) _ f (by omega) (by omega), Nat.add_assoc]
    rfl
/-- half a square -/
theorem fs_half {n : Nat} {g : Nat → Nat → Nat} (h1 : ∀ a b, a < n → b < n → g a b = g b a) (h2 : ∀ a, a < n → g a a = 0) : 2 * fs (fun a => fs (g a) (n - (a + 1)) (a + 1)) n 0 = fs (fun a => fs (g a) n 0) n 0 := by
  have e1 : fs (fun a => fs (g a) (n - (a + 1)) (a + 1)) n 0 = fs (fun a => fs (fun b => if a < b then g a b else 0) n 0) n 0 := by
    refine fs_congr n 0 (fun a _ ha => ?_)
    have := fs_split (f := fun b => if a < b then g a b else 0) (a + 1) (n - (a + 1)) 0
    rw [show a + 1 + (n - (a + 1)) = n by omega] at this
    rw [this, fs_zero (a + 1) 0 (fun j _ hj => if_neg (by omega)), Nat.zero_add, Nat.zero_add]
    exact fs_congr _ _ (fun b hb _ => (if_pos (by omega)).symm)
  have e2 : fs (fun a => fs (fun b => if a < b then g a b else 0) n 0) n 0 = fs (fun a => fs (fun b => if b < a then g a b else 0) n 0) n 0 := by
    rw [fs_comm]
    refine fs_congr n 0 (fun a _ ha => fs_congr n 0 (fun b _ hb => ?_))
    show (if b < a then g b a else 0) = if b < a then g a b else 0
    rw [h1 a b (by omega) (by omega)]
  have e3 : fs (fun a => fs (g a) n 0) n 0 = fs (fun a => fs (fun b => if a < b then g a b else 0) n 0) n 0 + fs (fun a => fs (fun b => if b < a then g a b else 0) n 0) n 0 := by
    rw [← fs_add]
    refine fs_congr n 0 (fun a _ ha => ?_)
    show fs (g a) n 0 = fs (fun b => if a < b then g a b else 0) n 0 + fs (fun b => if b < a then g a b else 0) n 0
    rw [← fs_add]
    refine fs_congr n 0 (fun b _ hb => ?_)
    show g a b = (if a < b then g a b else 0) + (if b < a then g a b else 0)
    by_cases z : a < b
    · rw [if_pos z, if_neg (by omega), Nat.add_zero]
    · by_cases y : b < a
      · rw [if_neg z, if_pos y, Nat.zero_add]
      · rw [if_neg z, if_neg y]
        have : a = b := by omega
        subst this
        exact h2 a (by omega)
  rw [e3, ← e2, ← e1]
  omega
theorem prs_same {P : Pa} {v : Ev} (hf : Full P v) : fs (fun a => fs (evY P v a) (pN P - (a + 1)) (a + 1)) (pN P) 0 = fs (fun a => fs (evX P v a) (pN P - (a + 1)) (a + 1)) (pN P) 0 := by
  have a1 := fs_half (n := pN P) (g := evX P v) (fun a b _ _ => evX_sym) (fun a _ => evX_self)
  have a2 := fs_half (n := pN P) (g := evY P v) (fun a b ha hb => by rw [evY_eq hf ha hb, evY_eq hf hb ha, evX_sym]) (fun a ha => by rw [evY_eq hf ha ha, evX_self])
  have pp := fun f => fs_perm (n := pN P) (s := own0 v) (t := has0 v) (fun k hk => ⟨(hf.1 k hk).1, (hf.1 k hk).2.1⟩) (fun p hp => ⟨(hf.2 p hp).1, (hf.2 p hp).2.1⟩) f
  have a3 : fs (fun a => fs (evY P v a) (pN P) 0) (pN P) 0 = fs (fun a => fs (evX P v a) (pN P) 0) (pN P) 0 := by
    rw [← pp (fun p => fs (evX P v p) (pN P) 0)]
    refine fs_congr _ 0 (fun a _ ha => ?_)
    show fs (evY P v a) (pN P) 0 = fs (evX P v (own0 v a)) (pN P) 0
    rw [← pp (evX P v (own0 v a))]
    exact fs_congr _ 0 (fun b _ hb => evY_eq hf (by omega) (by omega))
  omega
/-- what is heard -/
def hrM (μ : Mm) (s sz : Nat) : Mm := pI (pR μ 33 7 (107 + 1 * s)) 33 8 (kI sz)
theorem sh107s : ∀ s, s < 6 → shp (107 + 1 * s) = (5, 60) := by decide +kernel
theorem hear_eq {μ : Mm} {s sz : Nat} (hs : s < 6) : F_X7_hear (107 + 1 * s) (kI sz) μ = some ((), hrM μ s sz) := by
  unfold F_X7_hear
  rw [if_pos (sh107s s hs)]
  rfl
theorem lgc_0 {x y : Int64} : (lg_cmp x y = iI 0) ↔ x = y := by
  unfold lg_cmp
  have e1 : ¬ ((1 : Int32) = iI 0) := by decide
  have e2 : ((0 : Int32) = iI 0) := by decide
  have e3 : ¬ ((-1 : Int32) = iI 0) := by decide
  by_cases h : x > y
  · rw [if_pos h]
    refine ⟨fun q => absurd q e1, fun q => ?_⟩
    rw [q, gt_iff_lt, Int64.lt_iff_toInt_lt] at h
    omega
  · rw [if_neg h]
    by_cases k : x = y
    · rw [if_pos k]
      exact ⟨fun _ => k, fun _ => e2⟩
    · rw [if_neg k]
      exact ⟨fun q => absurd q e3, fun q => absurd q k⟩
/-- the first of people whose parcel isn't the one told -/
def unl (el : Nat → Int64) (h : Nat → Nat) : Nat → Nat → Option Nat
  | 0, _ => none
  | c + 1, i => if el i = (kI (h i)).toInt64 then unl el h c (i + 1) else some i
theorem unl_congr {el el' : Nat → Int64} {h : Nat → Nat} : ∀ c i, (∀ j, i ≤ j → j < i + c → el j = el' j) → unl el h c i = unl el' h c i
  | 0, _, _ => rfl
  | c + 1, i, q => by
    unfold unl
    rw [q i (Nat.le_refl _) (by omega), unl_congr c (i + 1) (fun j h1 h2 => q j (by omega) (by omega))]
theorem unl8 {m : Mm} {P : Pa} {v : Ev} {t s sz : Nat} (hP : PC m P) (h : RC m t v) (hf : ∀ p, p < pN P → eH v p = some (has0 v p)) (hs : s < 6) (hsz : sz ≤ 60) (h8 : gI m 33 8 = kI sz) (hr : gR m 33 7 = 107 + 1 * s) : ∀ c i f, i + c = min (pN P) sz → c < f → F_X7_firstUnlikeTold_2 t f (kI i) m = some (cI (unl (gL m (107 + 1 * s)) (has0 v) c i), m) := by
  have hn := hP.n7
  have en := hP.n
  have hsh := sh107s s hs
  intro c
  induction c with
  | zero =>
    intro i f hi hff
    obtain ⟨f, rfl⟩ : ∃ g, f = g + 1 := ⟨f - 1, by omega⟩
    rw [F_X7_firstUnlikeTold_2, en, hr, h8]
    by_cases z : pN P ≤ i
    · rw [if_pos (by rw [kI_le (by omega) (by omega)]; exact z)]
      rfl
    · rw [if_neg (by rw [kI_le (by omega) (by omega)]; exact z), if_neg (by omega), if_pos (by rw [kI_le (by omega) (by omega)]; omega)]
      rfl
  | succ c ih =>
    intro i f hi hff
    obtain ⟨f, rfl⟩ : ∃ g, f = g + 1 := ⟨f - 1, by omega⟩
    have e0 : gI m (t + 2) i = kI (has0 v i) := by rw [h.2.1.2.2 i (by omega), hf i (by omega)]; rfl
    have i1 := ih (i + 1) f (by omega) (by omega)
    rw [F_X7_firstUnlikeTold_2, en, hr, h8, if_neg (by rw [kI_le (by omega) (by omega)]; omega), if_neg (by omega), if_neg (by rw [kI_le (by omega) (by omega)]; omega), gdS_yes hsh, if_neg (by rw [iI_lit, kI_le (by omega) (by omega)]; omega), gdS_yes hsh, rd_kI (by omega) (by omega), rd_kI (by omega) (by omega), e0]
    by_cases z : gL m (107 + 1 * s) i = (kI (has0 v i)).toInt64
    · rw [if_pos (lgc_0.mpr z), nm_eq, iI_lit, kI_add, i1]
      show _ = some (cI (if gL m (107 + 1 * s) i = (kI (has0 v i)).toInt64 then _ else some i), m)
      rw [if_pos z]
    · rw [if_neg (fun q => z (lgc_0.mp q))]
      show _ = some (cI (if gL m (107 + 1 * s) i = (kI (has0 v i)).toInt64 then _ else some i), m)
      rw [if_neg z]
      rfl
