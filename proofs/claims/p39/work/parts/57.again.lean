/-! THE CLASS'S EVENING: once more at its end; what is told of it -/
theorem hasBegun_eq {μ : Mm} {t : Nat} {e : Ev} (h : RC μ t e) (hb : BdE e) : F_X2_hasBegun t μ = some (if 0 < eP e then kI 1 else kI 0, μ) := by
  have b1 := hb.1
  unfold F_X2_hasBegun
  rw [if_pos h.1, h.2.2.1]
  by_cases z : 0 < eP e
  · simp (disch := omega) only [z, show ¬ eP e ≤ 0 by omega, iI_lit, kI_add, kI_mul, kI_eq, kI_lt, kI_le, kI_neg1, neg1_kI, neg1_lt0, neg1_0le, kO_none, kO_some, nm_eq, bnd_some, rz_0, rz_1, zb_0, zb_1, rd_kI, wrI_kI, wrL_kI, dvI_kI, rmI_kI, if_true, if_false, ite_true, ite_false, reduceIte, Nat.lt_irrefl, Nat.le_refl, not_true, not_false_iff, true_and, and_true, false_and, and_false, and_self, Bool.false_eq_true, eq_self, Decidable.not_not]
  · simp (disch := omega) only [z, show eP e ≤ 0 by omega, iI_lit, kI_add, kI_mul, kI_eq, kI_lt, kI_le, kI_neg1, neg1_kI, neg1_lt0, neg1_0le, kO_none, kO_some, nm_eq, bnd_some, rz_0, rz_1, zb_0, zb_1, rd_kI, wrI_kI, wrL_kI, dvI_kI, rmI_kI, if_true, if_false, ite_true, ite_false, reduceIte, Nat.lt_irrefl, Nat.le_refl, not_true, not_false_iff, true_and, and_true, false_and, and_false, and_self, Bool.false_eq_true, eq_self, Decidable.not_not]
theorem hasEnded_eq {μ : Mm} {P : Pa} {t : Nat} {e : Ev} (hP : PC μ P) (h : RC μ t e) (hb : BdE e) : F_X2_hasEnded t μ = some (if 0 < eP e ∧ pN P ≤ eP e then kI 1 else kI 0, μ) := by
  have b1 := hb.1
  have hn := hP.n7
  unfold F_X2_hasEnded
  rw [if_pos h.1, hasBegun_eq h hb, bnd_some, h.2.2.1, hP.n]
  by_cases z : 0 < eP e
  · by_cases y : pN P ≤ eP e
    · simp (disch := omega) only [z, y, Nat.one_ne_zero, show ¬ eP e < pN P by omega, iI_lit, kI_add, kI_mul, kI_eq, kI_lt, kI_le, kI_neg1, neg1_kI, neg1_lt0, neg1_0le, kO_none, kO_some, nm_eq, bnd_some, rz_0, rz_1, zb_0, zb_1, rd_kI, wrI_kI, wrL_kI, dvI_kI, rmI_kI, if_true, if_false, ite_true, ite_false, reduceIte, Nat.lt_irrefl, Nat.le_refl, not_true, not_false_iff, true_and, and_true, false_and, and_false, and_self, Bool.false_eq_true, eq_self, Decidable.not_not]
    · simp (disch := omega) only [z, y, Nat.one_ne_zero, show eP e < pN P by omega, iI_lit, kI_add, kI_mul, kI_eq, kI_lt, kI_le, kI_neg1, neg1_kI, neg1_lt0, neg1_0le, kO_none, kO_some, nm_eq, bnd_some, rz_0, rz_1, zb_0, zb_1, rd_kI, wrI_kI, wrL_kI, dvI_kI, rmI_kI, if_true, if_false, ite_true, ite_false, reduceIte, Nat.lt_irrefl, Nat.le_refl, not_true, not_false_iff, true_and, and_true, false_and, and_false, and_self, Bool.false_eq_true, eq_self, Decidable.not_not]
  · simp (disch := omega) only [z, iI_lit, kI_add, kI_mul, kI_eq, kI_lt, kI_le, kI_neg1, neg1_kI, neg1_lt0, neg1_0le, kO_none, kO_some, nm_eq, bnd_some, rz_0, rz_1, zb_0, zb_1, rd_kI, wrI_kI, wrL_kI, dvI_kI, rmI_kI, if_true, if_false, ite_true, ite_false, reduceIte, Nat.lt_irrefl, Nat.le_refl, not_true, not_false_iff, true_and, and_true, false_and, and_false, and_self, Bool.false_eq_true, eq_self, Decidable.not_not]
def cA (P : Pa) (e : Ev) (k : Nat) : Bool := decide (eT e k < pM P)
theorem cA_iff {P : Pa} {e : Ev} {k : Nat} : cA P e k = true ↔ eT e k < pM P := by simp [cA]
def xcE (p k0 w q : Nat) (e : Ev) : Ev := (up (up (eO e) k0 (some q)) w (some p), up (eT e) w (eT e w + 1), eP e, eR e, eJ e, up (up (eH e) q (some k0)) p (some w), eA e, kI p, kI w, eN e + kI 1)
def xcM (μ : Mm) (t p k0 w q v : Nat) : Mm := pI (pI (pI (pI (pI (pI (pI (pI μ (t + 2) q (kI k0)) (t + 3) k0 (kI q)) (t + 4) w (kI (v + 1))) (t + 2) p (kI w)) (t + 3) w (kI p)) t 8 (kI p)) t 9 (kI w)) t 10 (gI μ t 10 + kI 1)
theorem exchange_eq {μ : Mm} {t p k0 w q : Nat} {e : Ev} (h : RC μ t e) (hp : p < 7) (hk : k0 < 7) (hw : w < 7) (hq : eO e w = some q) (hq7 : q < 7) : F_X2_exchange t (kI p) (kI k0) (kI w) μ = some ((), xcM μ t p k0 w q (eT e w)) := by
  obtain ⟨h0, ⟨h1, h2, h3⟩, -⟩ := h
  have e1 := h1 w hw
  rw [hq, kO_some] at e1
  have e2 := h2 w hw
  unfold F_X2_exchange F_X2_give xcM
  simp (disch := omega) only [if_pos h0, e1, Nat.not_lt_zero, iI_lit, kI_add, kI_mul, kI_eq, kI_lt, kI_le, kI_neg1, neg1_kI, neg1_lt0, neg1_0le, kO_none, kO_some, nm_eq, bnd_some, rz_0, rz_1, zb_0, zb_1, rd_kI, wrI_kI, wrL_kI, dvI_kI, rmI_kI, if_true, if_false, ite_true, ite_false, reduceIte, Nat.lt_irrefl, Nat.le_refl, not_true, not_false_iff, true_and, and_true, false_and, and_false, and_self, Bool.false_eq_true, eq_self, Decidable.not_not]
  simp [gI_pI, e2, kI_add]
theorem exchange_RC {μ : Mm} {t p k0 w q : Nat} {e : Ev} (h : RC μ t e) : RC (xcM μ t p k0 w q (eT e w)) t (xcE p k0 w q e) := by
  obtain ⟨h0, ⟨h1, h2, h3⟩, h4, h5, h6, h7, h8, h9, h10⟩ := h
  refine ⟨h0, ⟨fun x hx => ?_, fun x hx => ?_, fun x hx => ?_⟩, ?_, ?_, ?_, ?_, ?_, ?_, ?_⟩
  · show _ = kO (up (up (eO e) k0 (some q)) w (some p) x)
    by_cases z : x = w
    · simp [xcM, gI_pI, z, up_at, kO_some]
    · by_cases y : x = k0
      · have zq : k0 ≠ w := fun v => z (y.trans v)
        rw [y, up_ne zq, up_at, kO_some]
        simp [xcM, gI_pI, zq]
      · rw [up_ne z, up_ne y]
        simp [xcM, gI_pI, z, y, h1 x hx]
  · show _ = kI (up (eT e) w (eT e w + 1) x)
    by_cases z : x = w
    · simp [xcM, gI_pI, z, up_at]
    · simp [xcM, gI_pI, z, up_ne z, h2 x hx]
  · show _ = kO (up (up (eH e) q (some k0)) p (some w) x)
    by_cases z : x = p
    · simp [xcM, gI_pI, z, up_at, kO_some]
    · by_cases y : x = q
      · have zq : q ≠ p := fun v => z (y.trans v)
        rw [y, up_ne zq, up_at, kO_some]
        simp [xcM, gI_pI, zq]
      · rw [up_ne z, up_ne y]
        simp [xcM, gI_pI, z, y, h3 x hx]
  · show _ = kI (eP e)
    simp [xcM, gI_pI, h4]
  · show _ = kO (eR e)
    simp [xcM, gI_pI, h5]
  · show _ = kO (eJ e)
    simp [xcM, gI_pI, h6]
  · show _ = kI (eA e)
    simp [xcM, gI_pI, h7]
  · show _ = kI p
    simp [xcM, gI_pI]
  · show _ = kI w
    simp [xcM, gI_pI]
  · show _ = eN e + kI 1
    simp [xcM, gI_pI, h10]
theorem exchange_Fr {μ : Mm} {t p k0 w q v : Nat} : Fr (SE t) μ (xcM μ t p k0 w q v) := by
  have a0 : SE t t := Or.inl rfl
  have a2 : SE t (t + 2) := Or.inr (by omega)
  have a3 : SE t (t + 3) := Or.inr (by omega)
  have a4 : SE t (t + 4) := Or.inr (by omega)
  exact (((((((Fr.refl.put a2).put a3).put a4).put a2).put a3).put a0).put a0).put a0
def setA (e : Ev) : Ev := (eO e, eT e, eP e, eR e, eJ e, eH e, 1, eW e, eG e, eN e)
theorem setA_RC {μ : Mm} {t : Nat} {e : Ev} (h : RC μ t e) : RC (pI μ t 7 (kI 1)) t (setA e) := by
  obtain ⟨h0, ⟨h1, h2, h3⟩, h4, h5, h6, h7, h8, h9, h10⟩ := h
  refine ⟨h0, ⟨fun x hx => ?_, fun x hx => ?_, fun x hx => ?_⟩, ?_, ?_, ?_, ?_, ?_, ?_, ?_⟩
  · simp [gI_pI, h1 x hx]; rfl
  · simp [gI_pI, h2 x hx]; rfl
  · simp [gI_pI, h3 x hx]; rfl
  · simp [gI_pI, h4]; rfl
  · simp [gI_pI, h5]; rfl
  · simp [gI_pI, h6]; rfl
  · simp [gI_pI]; rfl
  · simp [gI_pI, h8]; rfl
  · simp [gI_pI, h9]; rfl
  · simp [gI_pI, h10]; rfl
/-- what the first one takes at the end -/
def agC (P : Pa) (lot : Nat → Nat) (e : Ev) : Option Nat := pk (cA P e) (fun k => kI (pW P (lot 0) k)) (eP e) 0 (kI (wo P (lot 0) (eH e (lot 0)))) none
def agE (P : Pa) (lot : Nat → Nat) (e : Ev) : Ev := match agC P lot e with
  | none => setA e
  | some w => xcE (lot 0) ((eH e (lot 0)).getD 0) w (own0 e w) (setA e)
theorem again_loop {μ : Mm} {P : Pa} {t p k0 : Nat} {e : Ev} (hP : PC μ P) (h : RC μ t e) (hb : BdE e) (hp : p < pN P) (ho : eP e ≤ pN P) (hk : k0 < 7) : ∀ c i g b f, (∀ w, b = some w → w < 7) → i + c = eP e → c < f → F_X2_chooseOnceMore_33 t f (kI p) (kI k0) g (kO b) (kI i) μ = match pk (cA P e) (fun k => kI (pW P p k)) c i g b with
    | none => some ((), μ)
    | some w => bnd (F_X2_exchange t (kI p) (kI k0) (kI w) μ) fun _ m2 => some ((), m2) := by
  have hn := hP.n7
  have h4 := h.2.2.1
  intro c
  induction c with
  | zero =>
    intro i g b f hbw hi hf
    obtain ⟨f, rfl⟩ : ∃ g, f = g + 1 := ⟨f - 1, by omega⟩
    have hi : i = eP e := by omega
    unfold F_X2_chooseOnceMore_33 pk
    cases b with
    | none => simp (disch := omega) only [h4, hi, iI_lit, kI_add, kI_mul, kI_eq, kI_lt, kI_le, kI_neg1, neg1_kI, neg1_lt0, neg1_0le, kO_none, kO_some, nm_eq, bnd_some, rz_0, rz_1, zb_0, zb_1, rd_kI, wrI_kI, wrL_kI, dvI_kI, rmI_kI, if_true, if_false, ite_true, ite_false, reduceIte, Nat.lt_irrefl, Nat.le_refl, not_true, not_false_iff, true_and, and_true, false_and, and_false, and_self, Bool.false_eq_true, eq_self, Decidable.not_not]
    | some w =>
      have := hbw w rfl
      simp (disch := omega) only [h4, hi, Nat.not_lt_zero, iI_lit, kI_add, kI_mul, kI_eq, kI_lt, kI_le, kI_neg1, neg1_kI, neg1_lt0, neg1_0le, kO_none, kO_some, nm_eq, bnd_some, rz_0, rz_1, zb_0, zb_1, rd_kI, wrI_kI, wrL_kI, dvI_kI, rmI_kI, if_true, if_false, ite_true, ite_false, reduceIte, Nat.lt_irrefl, Nat.le_refl, not_true, not_false_iff, true_and, and_true, false_and, and_false, and_self, Bool.false_eq_true, eq_self, Decidable.not_not]
  | succ c ih =>
    intro i g b f hbw hi hf
    obtain ⟨f, rfl⟩ : ∃ g, f = g + 1 := ⟨f - 1, by omega⟩
    have e1 := worthFor_n hP hp (show i < pN P by omega)
    have e2 := isSafe_eq hP h hb (show i < 7 by omega)
    have hM := hP.ok.2.2.2.2.2.1
    unfold F_X2_chooseOnceMore_33 F_X2_chooseOnceMore_77 pk
    by_cases hm : pM P ≤ eT e i
    · have hc : ¬ cA P e i = true := by rw [cA_iff]; omega
      have := ih (i + 1) g b f hbw (by omega) (by omega)
      simp (disch := omega) only [h4, e1, e2, hm, hc, show ¬ eP e ≤ i by omega, this, Nat.one_ne_zero, iI_lit, kI_add, kI_mul, kI_eq, kI_lt, kI_le, kI_neg1, neg1_kI, neg1_lt0, neg1_0le, kO_none, kO_some, nm_eq, bnd_some, rz_0, rz_1, zb_0, zb_1, rd_kI, wrI_kI, wrL_kI, dvI_kI, rmI_kI, if_true, if_false, ite_true, ite_false, reduceIte, Nat.lt_irrefl, Nat.le_refl, not_true, not_false_iff, true_and, and_true, false_and, and_false, and_self, Bool.false_eq_true, eq_self, Decidable.not_not]
    · have hc : cA P e i = true := by rw [cA_iff]; omega
      by_cases hg : g < kI (pW P p i)
      · have := ih (i + 1) (kI (pW P p i)) (some i) f (fun w q => by cases q; omega) (by omega) (by omega)
        rw [kO_some] at this
        simp (disch := omega) only [h4, e1, e2, hm, hc, hg, show ¬ eP e ≤ i by omega, le_not_lt (x := kI (pW P p i)) (y := g), this, iI_lit, kI_add, kI_mul, kI_eq, kI_lt, kI_le, kI_neg1, neg1_kI, neg1_lt0, neg1_0le, kO_none, kO_some, nm_eq, bnd_some, rz_0, rz_1, zb_0, zb_1, rd_kI, wrI_kI, wrL_kI, dvI_kI, rmI_kI, if_true, if_false, ite_true, ite_false, reduceIte, Nat.lt_irrefl, Nat.le_refl, not_true, not_false_iff, true_and, and_true, false_and, and_false, and_self, Bool.false_eq_true, eq_self, Decidable.not_not]
      · have := ih (i + 1) g b f hbw (by omega) (by omega)
        simp (disch := omega) only [h4, e1, e2, hm, hc, hg, show ¬ eP e ≤ i by omega, le_not_lt (x := kI (pW P p i)) (y := g), this, iI_lit, kI_add, kI_mul, kI_eq, kI_lt, kI_le, kI_neg1, neg1_kI, neg1_lt0, neg1_0le, kO_none, kO_some, nm_eq, bnd_some, rz_0, rz_1, zb_0, zb_1, rd_kI, wrI_kI, wrL_kI, dvI_kI, rmI_kI, if_true, if_false, ite_true, ite_false, reduceIte, Nat.lt_irrefl, Nat.le_refl, not_true, not_false_iff, true_and, and_true, false_and, and_false, and_self, Bool.false_eq_true, eq_self, Decidable.not_not]
theorem chooseOnce_eq {μ : Mm} {P : Pa} {t : Nat} {e : Ev} {lot : Nat → Nat} (hP : PC μ P) (h : RC μ t e) (hL : LotC μ t lot) (hl : LotOk (pN P) P lot) (hw : WfE (pN P) P lot e) (h1 : 0 < eP e) (h2 : eP e = pN P) : Wp (F_X2_chooseOnceMore t μ) fun _ μ' => RC μ' t (agE P lot e) ∧ Fr (SE t) μ μ' := by
  have hn := hP.n7
  have hb := hw.1
  have hp : lot 0 < pN P := hl.2.2 0 (by omega)
  have hR : eR e = none := by
    cases q : eR e with
    | none => rfl
    | some r => have := (hw.2.2.2.2.2.2.1 r q).1; omega
  obtain ⟨k0, hk0⟩ : ∃ k0, eH e (lot 0) = some k0 := by
    cases q : eH e (lot 0) with
    | none => exact absurd q (hw.2.2.2.2.2.2.2 0 (Or.inl h1) (by rw [hR]; intro z; cases z))
    | some k => exact ⟨k, rfl⟩
  have hk7 := hb.2.2.2.1 _ _ hk0
  have r1 := setA_RC h
  have f1 : Fr (SE t) μ (pI μ t 7 (kI 1)) := Fr.refl.put (Or.inl rfl)
  have hP1 : PC (pI μ t 7 (kI 1)) P := hP.sp h.1 (f1.mono fun _ q => Or.inl q)
  have eb : BdE (setA e) := ⟨hb.1, hb.2.1, hb.2.2.1, hb.2.2.2.1, hb.2.2.2.2.1, hb.2.2.2.2.2.1, Nat.le_refl _⟩
  have el : gI (pI μ t 7 (kI 1)) (t + 1) 0 = kI (lot 0) := by simp [gI_pI, hL.1 0]
  have eh : gI (pI μ t 7 (kI 1)) (t + 2) (lot 0) = kI k0 := by
    have := r1.2.1.2.2 (lot 0) (by omega)
    rw [this]
    show kO (eH e (lot 0)) = _
    rw [hk0, kO_some]
  have ew := worthFor_eq hP1 (p := lot 0) (o := some k0) (by omega) (fun _ q => by cases q; exact hk7)
  rw [kO_some] at ew
  have lp := again_loop (e := setA e) hP1 r1 eb hp (by show eP e ≤ pN P; omega) hk7 (eP e) 0 (kI (wo P (lot 0) (some k0))) none FU (fun w q => by cases q) (by show 0 + eP e = eP e; omega) (by unfold FU; omega)
  rw [kO_none] at lp
  have ea : agC P lot e = pk (cA P (setA e)) (fun k => kI (pW P (lot 0) k)) (eP e) 0 (kI (wo P (lot 0) (some k0))) none := by unfold agC; rw [hk0]; rfl
  rw [← ea] at lp
  unfold F_X2_chooseOnceMore
  rw [if_pos h.1]
  simp (disch := omega) only [el, eh, ew, iI_lit, kI_add, kI_mul, kI_eq, kI_lt, kI_le, kI_neg1, neg1_kI, neg1_lt0, neg1_0le, kO_none, kO_some, nm_eq, bnd_some, rz_0, rz_1, zb_0, zb_1, rd_kI, wrI_kI, wrL_kI, dvI_kI, rmI_kI, if_true, if_false, ite_true, ite_false, reduceIte, Nat.lt_irrefl, Nat.le_refl, not_true, not_false_iff, true_and, and_true, false_and, and_false, and_self, Bool.false_eq_true, eq_self, Decidable.not_not]
  rw [show kI 0 = iI 0 from rfl] at lp
  simp only [iI_lit] at lp
  rw [lp]
  unfold agE
  cases hc : agC P lot e with
  | none => exact ⟨_, _, rfl, r1, f1⟩
  | some w =>
    have hwb : w < eP e := by
      unfold agC at hc
      rcases pick_in _ _ _ _ _ hc with z | z
      · cases z
      · omega
    obtain ⟨o1, o2⟩ := own_of hw hwb
    have e1 := exchange_eq r1 (p := lot 0) (k0 := k0) (w := w) (q := own0 e w) (by omega) hk7 (by omega) o1 (by omega)
    show Wp (bnd (F_X2_exchange t (kI (lot 0)) (kI k0) (kI w) (pI μ t 7 (kI 1))) fun _ m2 => some ((), m2)) _
    rw [e1, bnd_some]
    refine ⟨_, _, rfl, ?_, f1.trans exchange_Fr⟩
    rw [hk0]
    exact exchange_RC r1
def clE (P : Pa) (lot : Nat → Nat) (e : Ev) : Ev := if pA P = 1 ∧ 0 < eP e ∧ pN P ≤ eP e then agE P lot e else e
theorem close_eq {μ : Mm} {P : Pa} {t : Nat} {e : Ev} {lot : Nat → Nat} (hP : PC μ P) (h : RC μ t e) (hL : LotC μ t lot) (hl : LotOk (pN P) P lot) (hw : WfE (pN P) P lot e) : Wp (F_X2_closeByLaw t μ) fun _ μ' => RC μ' t (clE P lot e) ∧ Fr (SE t) μ μ' := by
  have hn := hP.n7
  have hA := hP.ok.2.2.2.2.2.2
  have hen := hasEnded_eq hP h hw.1
  have hle := hw.2.1
  unfold F_X2_closeByLaw
  rw [if_pos h.1, hP.a]
  by_cases z : pA P = 1
  · by_cases y : 0 < eP e ∧ pN P ≤ eP e
    · obtain ⟨r, μ', a1, a2⟩ := chooseOnce_eq hP h hL hl hw y.1 (by omega)
      have ec : clE P lot e = agE P lot e := if_pos ⟨z, y⟩
      rw [ec]
      refine ⟨(), μ', ?_, a2⟩
      simp (disch := omega) only [z, y, hen, a1, Nat.one_ne_zero, iI_lit, kI_add, kI_mul, kI_eq, kI_lt, kI_le, kI_neg1, neg1_kI, neg1_lt0, neg1_0le, kO_none, kO_some, nm_eq, bnd_some, rz_0, rz_1, zb_0, zb_1, rd_kI, wrI_kI, wrL_kI, dvI_kI, rmI_kI, if_true, if_false, ite_true, ite_false, reduceIte, Nat.lt_irrefl, Nat.le_refl, not_true, not_false_iff, true_and, and_true, false_and, and_false, and_self, Bool.false_eq_true, eq_self, Decidable.not_not]
    · have ec : clE P lot e = e := if_neg (fun q => y q.2)
      rw [ec]
      refine ⟨(), μ, ?_, h, Fr.refl⟩
      simp (disch := omega) only [z, y, hen, iI_lit, kI_add, kI_mul, kI_eq, kI_lt, kI_le, kI_neg1, neg1_kI, neg1_lt0, neg1_0le, kO_none, kO_some, nm_eq, bnd_some, rz_0, rz_1, zb_0, zb_1, rd_kI, wrI_kI, wrL_kI, dvI_kI, rmI_kI, if_true, if_false, ite_true, ite_false, reduceIte, Nat.lt_irrefl, Nat.le_refl, not_true, not_false_iff, true_and, and_true, false_and, and_false, and_self, Bool.false_eq_true, eq_self, Decidable.not_not]
  · have ec : clE P lot e = e := if_neg (fun q => z q.1)
    rw [ec]
    refine ⟨(), μ, ?_, h, Fr.refl⟩
    simp (disch := omega) only [z, iI_lit, kI_add, kI_mul, kI_eq, kI_lt, kI_le, kI_neg1, neg1_kI, neg1_lt0, neg1_0le, kO_none, kO_some, nm_eq, bnd_some, rz_0, rz_1, zb_0, zb_1, rd_kI, wrI_kI, wrL_kI, dvI_kI, rmI_kI, if_true, if_false, ite_true, ite_false, reduceIte, Nat.lt_irrefl, Nat.le_refl, not_true, not_false_iff, true_and, and_true, false_and, and_false, and_self, Bool.false_eq_true, eq_self, Decidable.not_not]
/-- worths of what each has -/
def hW (P : Pa) (e : Ev) : Nat → Nat → Nat
  | 0, _ => 0
  | c + 1, i => wo P i (eH e i) + hW P e c (i + 1)
theorem wo_le {P : Pa} (h : PaOk P) (p : Nat) (o : Option Nat) : wo P p o ≤ 99 := by
  unfold wo
  cases o with
  | none => exact Nat.zero_le _
  | some k =>
    show (if _ then _ else _) ≤ 99
    split
    · exact h.2.1 p k
    · omega
theorem worths_loop {μ : Mm} {P : Pa} {t : Nat} {e : Ev} (hP : PC μ P) (h : RC μ t e) (hb : BdE e) : ∀ c i s f, i + c = pN P → c < f → s + 99 * c < 100000 → F_X2_worths_4 t f (kI s) (kI i) μ = some (kI (s + hW P e c i), μ) := by
  have hn := hP.n7
  have en := hP.n
  intro c
  induction c with
  | zero =>
    intro i s f hi hf hs
    obtain ⟨f, rfl⟩ : ∃ g, f = g + 1 := ⟨f - 1, by omega⟩
    unfold F_X2_worths_4 hW
    simp (disch := omega) only [en, show pN P ≤ i by omega, Nat.add_zero, iI_lit, kI_add, kI_mul, kI_eq, kI_lt, kI_le, kI_neg1, neg1_kI, neg1_lt0, neg1_0le, kO_none, kO_some, nm_eq, bnd_some, rz_0, rz_1, zb_0, zb_1, rd_kI, wrI_kI, wrL_kI, dvI_kI, rmI_kI, if_true, if_false, ite_true, ite_false, reduceIte, Nat.lt_irrefl, Nat.le_refl, not_true, not_false_iff, true_and, and_true, false_and, and_false, and_self, Bool.false_eq_true, eq_self, Decidable.not_not]
  | succ c ih =>
    intro i s f hi hf hs
    obtain ⟨f, rfl⟩ : ∃ g, f = g + 1 := ⟨f - 1, by omega⟩
    have e0 := h.2.1.2.2 i (by omega)
    have e1 := worthFor_eq hP (p := i) (o := eH e i) (by omega) (hb.2.2.2.1 i)
    have hw := wo_le hP.ok i (eH e i)
    have := ih (i + 1) (s + wo P i (eH e i)) f (by omega) (by omega) (by omega)
    unfold F_X2_worths_4 hW
    simp (disch := omega) only [en, e0, e1, show ¬ pN P ≤ i by omega, this, Nat.add_assoc, iI_lit, kI_add, kI_mul, kI_eq, kI_lt, kI_le, kI_neg1, neg1_kI, neg1_lt0, neg1_0le, kO_none, kO_some, nm_eq, bnd_some, rz_0, rz_1, zb_0, zb_1, rd_kI, wrI_kI, wrL_kI, dvI_kI, rmI_kI, if_true, if_false, ite_true, ite_false, reduceIte, Nat.lt_irrefl, Nat.le_refl, not_true, not_false_iff, true_and, and_true, false_and, and_false, and_self, Bool.false_eq_true, eq_self, Decidable.not_not]
theorem worths_eq {μ : Mm} {P : Pa} {t : Nat} {e : Ev} (hP : PC μ P) (h : RC μ t e) (hb : BdE e) : F_X2_worths t μ = some (kI (hW P e (pN P) 0), μ) := by
  have hn := hP.n7
  have := worths_loop hP h hb (pN P) 0 0 FU (by omega) (by unfold FU; omega) (by omega)
  unfold F_X2_worths
  rw [if_pos h.1]
  simp only [iI_lit]
  rw [this, Nat.zero_add]
/-- how many are safe -/
def cS (P : Pa) (e : Ev) : Nat → Nat → Nat
  | 0, _ => 0
  | c + 1, i => (if pM P ≤ eT e i then 1 else 0) + cS P e c (i + 1)
theorem countSafe_loop {μ : Mm} {P : Pa} {t : Nat} {e : Ev} (hP : PC μ P) (h : RC μ t e) (hb : BdE e) : ∀ c i s f, i + c = pN P → c < f → s + c < 1000 → F_X2_countSafe_4 t f (kI s) (kI i) μ = some (kI (s + cS P e c i), μ) := by
  have hn := hP.n7
  have en := hP.n
  intro c
  induction c with
  | zero =>
    intro i s f hi hf hs
    obtain ⟨f, rfl⟩ : ∃ g, f = g + 1 := ⟨f - 1, by omega⟩
    unfold F_X2_countSafe_4 cS
    simp (disch := omega) only [en, show pN P ≤ i by omega, Nat.add_zero, iI_lit, kI_add, kI_mul, kI_eq, kI_lt, kI_le, kI_neg1, neg1_kI, neg1_lt0, neg1_0le, kO_none, kO_some, nm_eq, bnd_some, rz_0, rz_1, zb_0, zb_1, rd_kI, wrI_kI, wrL_kI, dvI_kI, rmI_kI, if_true, if_false, ite_true, ite_false, reduceIte, Nat.lt_irrefl, Nat.le_refl, not_true, not_false_iff, true_and, and_true, false_and, and_false, and_self, Bool.false_eq_true, eq_self, Decidable.not_not]
  | succ c ih =>
    intro i s f hi hf hs
    obtain ⟨f, rfl⟩ : ∃ g, f = g + 1 := ⟨f - 1, by omega⟩
    have e1 := isSafe_eq hP h hb (k := i) (by omega)
    unfold F_X2_countSafe_4 F_X2_countSafe_24 cS
    by_cases z : pM P ≤ eT e i
    · have := ih (i + 1) (s + 1) f (by omega) (by omega) (by omega)
      simp (disch := omega) only [en, e1, z, show ¬ pN P ≤ i by omega, this, Nat.one_ne_zero, Nat.add_assoc, iI_lit, kI_add, kI_mul, kI_eq, kI_lt, kI_le, kI_neg1, neg1_kI, neg1_lt0, neg1_0le, kO_none, kO_some, nm_eq, bnd_some, rz_0, rz_1, zb_0, zb_1, rd_kI, wrI_kI, wrL_kI, dvI_kI, rmI_kI, if_true, if_false, ite_true, ite_false, reduceIte, Nat.lt_irrefl, Nat.le_refl, not_true, not_false_iff, true_and, and_true, false_and, and_false, and_self, Bool.false_eq_true, eq_self, Decidable.not_not]
    · have := ih (i + 1) s f (by omega) (by omega) (by omega)
      simp (disch := omega) only [en, e1, z, show ¬ pN P ≤ i by omega, this, Nat.zero_add, iI_lit, kI_add, kI_mul, kI_eq, kI_lt, kI_le, kI_neg1, neg1_kI, neg1_lt0, neg1_0le, kO_none, kO_some, nm_eq, bnd_some, rz_0, rz_1, zb_0, zb_1, rd_kI, wrI_kI, wrL_kI, dvI_kI, rmI_kI, if_true, if_false, ite_true, ite_false, reduceIte, Nat.lt_irrefl, Nat.le_refl, not_true, not_false_iff, true_and, and_true, false_and, and_false, and_self, Bool.false_eq_true, eq_self, Decidable.not_not]
theorem countSafe_eq {μ : Mm} {P : Pa} {t : Nat} {e : Ev} (hP : PC μ P) (h : RC μ t e) (hb : BdE e) : F_X2_countSafe t μ = some (kI (cS P e (pN P) 0), μ) := by
  have hn := hP.n7
  have := countSafe_loop hP h hb (pN P) 0 0 FU (by omega) (by unfold FU; omega) (by omega)
  unfold F_X2_countSafe
  rw [if_pos h.1]
  simp only [iI_lit]
  rw [this, Nat.zero_add]
theorem wf_wr {m : Nat} {P : Pa} {lot : Nat → Nat} {w g n : Int32} : WfE m P lot (wrE w g n) :=
  ⟨⟨Nat.zero_le _, fun _ => Nat.zero_le _, fun _ _ h => (by cases h), fun _ _ h => (by cases h), fun _ h => (by cases h), fun _ h => (by cases h), Nat.zero_le _⟩, Nat.zero_le _, fun _ h => absurd h (Nat.not_lt_zero _), fun _ _ => ⟨rfl, rfl⟩, fun p k => ⟨fun h => (by cases h), fun h => (by cases h)⟩, fun _ _ h => (by cases h), fun _ h => (by cases h), fun j hj _ => hj.elim (fun z => absurd z (Nat.not_lt_zero _)) (fun z => absurd rfl z.2)⟩
/-- an evening in thought, by a row of places -/
def evE (P : Pa) (lot : Nat → Nat) (w g : Int32) : Ev := clE P lot (plE P lot (pN P) 28 (wrE w g (kI 0))).1
theorem eveningBy_eq {μ : Mm} {P : Pa} {r : Nat} {lot : Nat → Nat} (hP : PC μ P) (hr : shp r = (1, 7)) (hd : r < 50 ∨ 54 < r) (hlt : ∀ j, j < 7 → gI μ r j = kI (lot j)) (hl7 : ∀ j, j < 7 → lot j < 4294967296) (hl : LotOk (pN P) P lot) : Wp (F_X7_eveningBy r μ) fun x μ' => x = 50 ∧ (∃ w g, RC μ' 50 (evE P lot w g)) ∧ Fr (fun a => SA 50 a ∨ SL a) μ μ' := by
  unfold F_X7_eveningBy
  rw [if_pos hr]
  simp (disch := omega) only [iI_lit, kI_add, kI_mul, kI_eq, kI_lt, kI_le, kI_neg1, neg1_kI, neg1_lt0, neg1_0le, kO_none, kO_some, nm_eq, bnd_some, rz_0, rz_1, zb_0, zb_1, rd_kI, wrI_kI, wrL_kI, dvI_kI, rmI_kI, if_true, if_false, ite_true, ite_false, reduceIte, Nat.lt_irrefl, Nat.le_refl, not_true, not_false_iff, true_and, and_true, false_and, and_false, and_self, Bool.false_eq_true, eq_self, Decidable.not_not]
  obtain ⟨_, m3, b1, b2, b3, b4⟩ := begin_eq (μ := μ) (t := 50) (r := r) sh50 hr hd
  simp (disch := omega) only [b1, iI_lit, kI_add, kI_mul, kI_eq, kI_lt, kI_le, kI_neg1, neg1_kI, neg1_lt0, neg1_0le, kO_none, kO_some, nm_eq, bnd_some, rz_0, rz_1, zb_0, zb_1, rd_kI, wrI_kI, wrL_kI, dvI_kI, rmI_kI, if_true, if_false, ite_true, ite_false, reduceIte, Nat.lt_irrefl, Nat.le_refl, not_true, not_false_iff, true_and, and_true, false_and, and_false, and_self, Bool.false_eq_true, eq_self, Decidable.not_not]
  have hP3 : PC m3 P := hP.fr b4 (fun a q => by unfold SA at q; omega)
  have hL3 : LotC m3 50 lot := ⟨fun j hj => by rw [b3 j hj]; exact hlt j hj, hl7⟩
  obtain ⟨m5, p1, p2, p3, p4, p5⟩ := play_eq hl hP3 b2 hL3 wf_wr
  rw [hP3.n, p1, bnd_some]
  have hP5 := hP3.sp sh50 p3
  have hL5 := hL3.sp sh50 sh50 p3
  obtain ⟨_, m7, c1, c2, c3⟩ := close_eq hP5 p2 hL5 hl p4
  rw [c1, bnd_some]
  refine ⟨_, _, rfl, rfl, ⟨_, _, c2⟩, ((b4.mono fun a q => Or.inl q).trans (p3.mono fun a q => ?_)).trans (c3.mono fun a q => ?_)⟩
  · rcases q with q | q
    · unfold SE at q
      refine Or.inl ?_
      unfold SA
      omega
    · exact Or.inr q
  · refine Or.inl ?_
    unfold SE at q
    unfold SA
    omega
