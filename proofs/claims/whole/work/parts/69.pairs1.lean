/-! MEND, OF, UNDO, REDO OF BOTH -/
theorem IDeed.pn {μ : Mm} {P : Pa} {lot : Nat → Nat} {e : Ev} {w num v : Nat} (h : IDeed μ P lot e) : IDeed μ (setP P w num v) lot e := h
theorem Oth.chg {μ μ1 : Mm} {n : Nat} {C : Nat → Nat → Prop} (h : Oth μ n) (hf : FrC C μ μ1) (hc : IChg μ1 n) (hs : ∀ a j, C a j → CChg a j ∨ (2 ≤ a ∧ a ≤ 5) ∨ CP a j) : Oth μ1 n := by
  obtain ⟨h4, h5, h6, h7, h8, h9⟩ := h
  refine ⟨hc, h5.fr hf (fun a j z q => ?_), h6.fr hf, h7.fr hf (fun a j z q => ?_), h8.fr hf (fun a j z q => ?_), h9.fr hf (fun a j z q => ?_)⟩
  all_goals (have z := hs a j z; unfold CChg CP at z)
  · unfold CTape at q; omega
  · unfold CImg at q; omega
  · unfold CBod at q; omega
  · unfold CShe at q; omega
/-- the parts of an invariant in which changes lie -/
theorem Inv.chgs {μ : Mm} {P : Pa} {lot : Nat → Nat} {e : Ev} {d a : Nat} {E : Nat → Chg} {μ0 : Mm} {C : Nat → Nat → Prop} (hO : Oth μ0 (pN P)) (hD : IDeed μ0 P lot e) (hn : pN P ≤ 7) (hf : FrC C μ0 μ) (hs : ∀ a j, C a j → CChg a j ∨ (2 ≤ a ∧ a ≤ 5) ∨ (114 ≤ a ∧ a ≤ 116) ∨ (a = 113 ∧ (j = 5 ∨ j = 6))) (hC : PC μ P) (hR : PR μ P) (h1 : d ≤ a) (h2 : a ≤ 40) (h3 : CC μ d a E) (h4 : CR μ d a E) (h5 : ∀ i, i < a → okC (pN P) (E i)) : Inv μ :=
  Inv.join ⟨hC, hR, hO.chg hf ⟨d, a, E, h1, h2, h3, h4, h5⟩ (fun a j q => (hs a j q).elim Or.inl (fun z => Or.inr (by unfold CP; omega)))⟩ (hD.fr hn hf (fun a j q z => by have := hs a j q; unfold CChg at this; unfold CDeed at z; omega))
theorem kcases (n : Nat) (x y : Int32) : (∃ w num at9, Kn n w num at9 ∧ y = kI w ∧ x = kI num) ∨ ∀ w num at9, Kn n w num at9 → y = kI w → x ≠ kI num := by
  by_cases h : ∃ w num at9, Kn n w num at9 ∧ y = kI w ∧ x = kI num
  · exact Or.inl h
  · exact Or.inr fun w num at9 h1 h2 h3 => h ⟨w, num, at9, h1, h2, h3⟩
theorem vcases (w : Nat) (x : Int32) : (∃ v, vOk w v ∧ x = kI v) ∨ ∀ v, vOk w v → x ≠ kI v := by
  by_cases h : ∃ v, vOk w v ∧ x = kI v
  · exact Or.inl h
  · exact Or.inr fun v h1 h2 => h ⟨v, h1, h2⟩
theorem tsw5_at {β : Type} {w : Nat} (hw : w ≤ 4) {a b c d e f : Option β} : tsw (kI w) 0 [a, b, c, d, e] f = [a, b, c, d, e].getD w f := tsw0_at (by show w < 5; omega) (by omega)
/-- the reference's mend where it changes -/
theorem mend9_yes {μ : Mm} {P : Pa} (hP : PR μ P) {w num at9 v : Nat} (hk : Kn (pN P) w num at9) (hv : vOk w v) : F_X9_mend (kI num) (kI w) (kI v) μ = bnd (F_X9_changes (kI w) (kI at9) (kI v) μ) fun r m => some (r, m) := by
  have hn := hP.n7
  have hw4 := (kn_num hn hk).1
  have hv' := (vOk_iff hw4).mp hv
  unfold F_X9_mend
  rw [tsw5_at hw4]
  rcases hk with ⟨rfl, p, k, q2, q3, rfl, rfl⟩ | ⟨rfl, p, k, q2, q3, q4, rfl, rfl⟩ | ⟨rfl, q2, rfl⟩ | ⟨rfl, rfl, rfl⟩ | ⟨rfl, rfl, rfl⟩
  all_goals simp only [List.getD_cons_zero, List.getD_cons_succ]
  · have := in_yes (μ := μ) (k := v) (a := 0) (b := 99) (by omega) (by exact hv'.2) (by omega)
    have pe := place_eq (μ := μ) (p := p) (k := k) (by omega) (by omega)
    rw [bnd_eq (areBoth_yes hP q2 q3)]
    simp (disch := omega) only [this, pe, Nat.one_ne_zero, iI_lit, kI_add, kI_mul, kI_eq, kI_lt, kI_le, kI_neg1, neg1_kI, neg1_lt0, neg1_0le, kO_none, kO_some, nm_eq, bnd_some, rz_0, rz_1, zb_0, zb_1, rd_kI, wrI_kI, wrL_kI, dvI_kI, rmI_kI, if_true, if_false, ite_true, ite_false, reduceIte, Nat.lt_irrefl, Nat.le_refl, not_true, not_false_iff, true_and, and_true, false_and, and_false, and_self, Bool.false_eq_true, eq_self, Decidable.not_not]
  · have := in_yes (μ := μ) (k := v) (a := 0) (b := 9) (by omega) (by exact hv'.2) (by omega)
    have pe := place_eq (μ := μ) (p := p) (k := k) (by omega) (by omega)
    rw [bnd_eq (areBoth_yes hP q2 q3)]
    simp (disch := omega) only [show (10 * p + k) / 10 = p by omega, show (10 * p + k) % 10 = k by omega, q4, this, pe, Nat.one_ne_zero, iI_lit, kI_add, kI_mul, kI_eq, kI_lt, kI_le, kI_neg1, neg1_kI, neg1_lt0, neg1_0le, kO_none, kO_some, nm_eq, bnd_some, rz_0, rz_1, zb_0, zb_1, rd_kI, wrI_kI, wrL_kI, dvI_kI, rmI_kI, if_true, if_false, ite_true, ite_false, reduceIte, Nat.lt_irrefl, Nat.le_refl, not_true, not_false_iff, true_and, and_true, false_and, and_false, and_self, Bool.false_eq_true, eq_self, Decidable.not_not]
  · have := in_yes (μ := μ) (k := v) (a := 0) (b := 2) (by omega) (by exact hv'.2) (by omega)
    rw [bnd_eq (isPerson_yes hP q2)]
    simp (disch := omega) only [this, Nat.one_ne_zero, iI_lit, kI_add, kI_mul, kI_eq, kI_lt, kI_le, kI_neg1, neg1_kI, neg1_lt0, neg1_0le, kO_none, kO_some, nm_eq, bnd_some, rz_0, rz_1, zb_0, zb_1, rd_kI, wrI_kI, wrL_kI, dvI_kI, rmI_kI, if_true, if_false, ite_true, ite_false, reduceIte, Nat.lt_irrefl, Nat.le_refl, not_true, not_false_iff, true_and, and_true, false_and, and_false, and_self, Bool.false_eq_true, eq_self, Decidable.not_not]
  · have := in_yes (μ := μ) (k := v) (a := 1) (b := 3) (by exact hv'.1) (by exact hv'.2) (by omega)
    simp (disch := omega) only [this, Nat.one_ne_zero, iI_lit, kI_add, kI_mul, kI_eq, kI_lt, kI_le, kI_neg1, neg1_kI, neg1_lt0, neg1_0le, kO_none, kO_some, nm_eq, bnd_some, rz_0, rz_1, zb_0, zb_1, rd_kI, wrI_kI, wrL_kI, dvI_kI, rmI_kI, if_true, if_false, ite_true, ite_false, reduceIte, Nat.lt_irrefl, Nat.le_refl, not_true, not_false_iff, true_and, and_true, false_and, and_false, and_self, Bool.false_eq_true, eq_self, Decidable.not_not]
  · have := in_yes (μ := μ) (k := v) (a := 0) (b := 1) (by omega) (by exact hv'.2) (by omega)
    simp (disch := omega) only [this, Nat.one_ne_zero, iI_lit, kI_add, kI_mul, kI_eq, kI_lt, kI_le, kI_neg1, neg1_kI, neg1_lt0, neg1_0le, kO_none, kO_some, nm_eq, bnd_some, rz_0, rz_1, zb_0, zb_1, rd_kI, wrI_kI, wrL_kI, dvI_kI, rmI_kI, if_true, if_false, ite_true, ite_false, reduceIte, Nat.lt_irrefl, Nat.le_refl, not_true, not_false_iff, true_and, and_true, false_and, and_false, and_self, Bool.false_eq_true, eq_self, Decidable.not_not]
/-- .. and where it refuses -/
theorem mend9_no {μ : Mm} {P : Pa} (hP : PR μ P) {x y z : Int32} (h : ∀ w num at9 v, Kn (pN P) w num at9 → vOk w v → y = kI w → z = kI v → x ≠ kI num) : F_X9_mend x y z μ = some (iI (-1), μ) := by
  have hn := hP.n7
  unfold F_X9_mend
  rcases per_cases 5 y with ⟨w, w5, rfl⟩ | hy
  · rw [tsw5_at (by omega)]
    have hw : w = 0 ∨ w = 1 ∨ w = 2 ∨ w = 3 ∨ w = 4 := by omega
    rcases hw with rfl | rfl | rfl | rfl | rfl
    all_goals simp only [List.getD_cons_zero, List.getD_cons_succ]
    · rcases pair_cases (pN P) x with ⟨p, k, hp, hk, rfl⟩ | hx
      · have := in_no (μ := μ) (x := z) (a := 0) (b := 99) (by omega) (by omega) (fun v _ hv e => h 0 _ _ v (Or.inl ⟨rfl, p, k, hp, hk, rfl, rfl⟩) (Or.inl ⟨rfl, hv⟩) rfl e rfl)
        rw [bnd_eq (areBoth_yes hP hp hk)]
        simp (disch := omega) only [this, Nat.one_ne_zero, iI_lit, kI_add, kI_mul, kI_eq, kI_lt, kI_le, kI_neg1, neg1_kI, neg1_lt0, neg1_0le, kO_none, kO_some, nm_eq, bnd_some, rz_0, rz_1, zb_0, zb_1, rd_kI, wrI_kI, wrL_kI, dvI_kI, rmI_kI, if_true, if_false, ite_true, ite_false, reduceIte, Nat.lt_irrefl, Nat.le_refl, not_true, not_false_iff, true_and, and_true, false_and, and_false, and_self, Bool.false_eq_true, eq_self, Decidable.not_not]
      · rw [bnd_eq (areBoth_no hP hx)]
        rfl
    · rcases pair_cases (pN P) x with ⟨p, k, hp, hk, rfl⟩ | hx
      · rw [bnd_eq (areBoth_yes hP hp hk)]
        by_cases hpk : p = k
        · subst hpk
          simp (disch := omega) only [show (10 * p + p) / 10 = p by omega, show (10 * p + p) % 10 = p by omega, Nat.one_ne_zero, iI_lit, kI_add, kI_mul, kI_eq, kI_lt, kI_le, kI_neg1, neg1_kI, neg1_lt0, neg1_0le, kO_none, kO_some, nm_eq, bnd_some, rz_0, rz_1, zb_0, zb_1, rd_kI, wrI_kI, wrL_kI, dvI_kI, rmI_kI, if_true, if_false, ite_true, ite_false, reduceIte, Nat.lt_irrefl, Nat.le_refl, not_true, not_false_iff, true_and, and_true, false_and, and_false, and_self, Bool.false_eq_true, eq_self, Decidable.not_not]
        · have := in_no (μ := μ) (x := z) (a := 0) (b := 9) (by omega) (by omega) (fun v _ hv e => h 1 _ _ v (Or.inr (Or.inl ⟨rfl, p, k, hp, hk, hpk, rfl, rfl⟩)) (Or.inr (Or.inl ⟨rfl, hv⟩)) rfl e rfl)
          simp (disch := omega) only [show (10 * p + k) / 10 = p by omega, show (10 * p + k) % 10 = k by omega, hpk, this, Nat.one_ne_zero, iI_lit, kI_add, kI_mul, kI_eq, kI_lt, kI_le, kI_neg1, neg1_kI, neg1_lt0, neg1_0le, kO_none, kO_some, nm_eq, bnd_some, rz_0, rz_1, zb_0, zb_1, rd_kI, wrI_kI, wrL_kI, dvI_kI, rmI_kI, if_true, if_false, ite_true, ite_false, reduceIte, Nat.lt_irrefl, Nat.le_refl, not_true, not_false_iff, true_and, and_true, false_and, and_false, and_self, Bool.false_eq_true, eq_self, Decidable.not_not]
      · rw [bnd_eq (areBoth_no hP hx)]
        rfl
    · rcases per_cases (pN P) x with ⟨k, hk, rfl⟩ | hx
      · have := in_no (μ := μ) (x := z) (a := 0) (b := 2) (by omega) (by omega) (fun v _ hv e => h 2 _ _ v (Or.inr (Or.inr (Or.inl ⟨rfl, hk, rfl⟩))) (Or.inr (Or.inr (Or.inl ⟨rfl, hv⟩))) rfl e rfl)
        rw [bnd_eq (isPerson_yes hP hk)]
        simp (disch := omega) only [this, Nat.one_ne_zero, iI_lit, kI_add, kI_mul, kI_eq, kI_lt, kI_le, kI_neg1, neg1_kI, neg1_lt0, neg1_0le, kO_none, kO_some, nm_eq, bnd_some, rz_0, rz_1, zb_0, zb_1, rd_kI, wrI_kI, wrL_kI, dvI_kI, rmI_kI, if_true, if_false, ite_true, ite_false, reduceIte, Nat.lt_irrefl, Nat.le_refl, not_true, not_false_iff, true_and, and_true, false_and, and_false, and_self, Bool.false_eq_true, eq_self, Decidable.not_not]
      · rw [bnd_eq (isPerson_no hP hx)]
        rfl
    · by_cases x0 : x = iI 0
      · have := in_no (μ := μ) (x := z) (a := 1) (b := 3) (by omega) (by omega) (fun v h1 hv e => h 3 _ _ v (Or.inr (Or.inr (Or.inr (Or.inl ⟨rfl, rfl, rfl⟩)))) (Or.inr (Or.inr (Or.inr (Or.inl ⟨rfl, h1, hv⟩)))) rfl e x0)
        rw [if_pos x0]
        simp (disch := omega) only [this, iI_lit, kI_add, kI_mul, kI_eq, kI_lt, kI_le, kI_neg1, neg1_kI, neg1_lt0, neg1_0le, kO_none, kO_some, nm_eq, bnd_some, rz_0, rz_1, zb_0, zb_1, rd_kI, wrI_kI, wrL_kI, dvI_kI, rmI_kI, if_true, if_false, ite_true, ite_false, reduceIte, Nat.lt_irrefl, Nat.le_refl, not_true, not_false_iff, true_and, and_true, false_and, and_false, and_self, Bool.false_eq_true, eq_self, Decidable.not_not]
      · rw [if_neg x0]
    · by_cases x0 : x = iI 0
      · have := in_no (μ := μ) (x := z) (a := 0) (b := 1) (by omega) (by omega) (fun v h1 hv e => h 4 _ _ v (Or.inr (Or.inr (Or.inr (Or.inr ⟨rfl, rfl, rfl⟩)))) (Or.inr (Or.inr (Or.inr (Or.inr ⟨rfl, hv⟩)))) rfl e x0)
        rw [if_pos x0]
        simp (disch := omega) only [this, iI_lit, kI_add, kI_mul, kI_eq, kI_lt, kI_le, kI_neg1, neg1_kI, neg1_lt0, neg1_0le, kO_none, kO_some, nm_eq, bnd_some, rz_0, rz_1, zb_0, zb_1, rd_kI, wrI_kI, wrL_kI, dvI_kI, rmI_kI, if_true, if_false, ite_true, ite_false, reduceIte, Nat.lt_irrefl, Nat.le_refl, not_true, not_false_iff, true_and, and_true, false_and, and_false, and_self, Bool.false_eq_true, eq_self, Decidable.not_not]
      · rw [if_neg x0]
  · rw [tsw5_out hy]
theorem nE_ok {n d : Nat} {a : Nat} {E : Nat → Chg} (h : ∀ i, i < a → okC n (E i)) (hd : d ≤ a) (ha : a ≤ 40) {c : Chg} (hc : okC n c) : ∀ i, i < nD d + 1 → okC n (up (nE d E) (nD d) c i) := by
  intro i hi
  by_cases z : i = nD d
  · rw [z, up_at]; exact hc
  · rw [up_ne z]
    unfold nE
    unfold nD at hi z
    split
    · next q => rw [if_pos q] at hi z; exact h i (by omega)
    · next q => rw [if_neg q] at hi z; exact h (i + 1) (by omega)
theorem g_mend (x y z : Int32) : Good (F_X8_mend x y z) (F_X9_mend x y z) := by
  intro μ hI
  obtain ⟨P, lot, e, hR, hD⟩ := hI.split
  have hn := hR.1.n7
  rcases kcases (pN P) x y with ⟨w, num, at9, hk, rfl, rfl⟩ | hx
  · have hw4 := (kn_num hn hk).1
    have kn := knows_yes hR.1 hk
    rcases vcases w z with ⟨v, hv, rfl⟩ | hz
    · have al := allows_yes (μ := μ) hw4 hv
      have va := value_eq hR.1 hk
      have vok := val_ok hR.1.ok hk
      have v1 := (vOk_iff hw4).mp vok
      have v2 := (vOk_iff hw4).mp hv
      have hhi : hiV w ≤ 99 := by unfold hiV; split <;> (try split) <;> (try split) <;> (try split) <;> omega
      obtain ⟨d, a, E, c1, c2, c3, c4, c5⟩ := hR.oth.1
      by_cases hs : valP P w num = v
      · subst hs
        obtain ⟨_, m1, b1, b2, b3⟩ := become4_eq hR.1 hk hv
        rw [set_same hk] at b2
        have f1 : FrC (fun a j => 2 ≤ a ∧ a ≤ 5) μ m1 := b3
        have hP1 : PR m1 P := hR.2.1.fr f1 (fun a j q z => by unfold CP at z; omega)
        have ev := valueAt_eq hP1 hk
        refine ⟨kI (valP P w num), m1, m1, ?_, ?_, Inv.chgs hR.oth hD hn f1 (fun a j q => by omega) b2 hP1 c1 c2 (c3.fr f1 (fun a j q => by omega)) (c4.fr f1 (fun a j q => by omega)) c5⟩
        · unfold F_X8_mend
          rw [bnd_eq kn, if_neg (by rw [iI_lit, kI_eq (by omega) (by omega)]; omega), bnd_eq al, if_neg (by rw [iI_lit, kI_eq (by omega) (by omega)]; omega), bnd_eq va, bnd_eq note_same, bnd_eq b1]
        · rw [mend9_yes hP1 hk hv]
          unfold F_X9_changes
          rw [bnd_eq ev, if_pos rfl, bnd_some]
      · obtain ⟨_, m1, n1, n2, n3⟩ := note_eq (num := num) (w := w) (at9 := at9) c3 c1 c2 (show valP P w num < 1000 by omega) (show v < 1000 by omega) hs
        have hC1 : PC m1 P := hR.1.frC n3 (fun a j q => by unfold CPc; omega)
        obtain ⟨_, m2, b1, b2, b3⟩ := become4_eq hC1 hk hv
        have f2 : FrC (fun a j => CChg a j ∨ (2 ≤ a ∧ a ≤ 5)) μ m2 := (n3.mono fun a j q => by unfold CChg; omega).trans (b3.mono fun a j q => by omega)
        have fa : FrC (fun a _ => 2 ≤ a ∧ a ≤ 15) μ m2 := (n3.mono fun a j q => by omega).trans (b3.mono fun a j q => by omega)
        have hP2 : PR m2 P := hR.2.1.fr fa (fun a j q z => by unfold CP at z; omega)
        have c4' : CR m2 d a E := c4.fr fa (fun a j q => by omega)
        obtain ⟨r, m3, g1, rfl, g3, g4, g5⟩ := changes_eq hP2 c4' c1 c2 hk hv hs
        have f3 : FrC (fun a j => CChg a j ∨ (2 ≤ a ∧ a ≤ 5) ∨ (114 ≤ a ∧ a ≤ 116) ∨ (a = 113 ∧ (j = 5 ∨ j = 6))) μ m3 := (f2.mono fun a j q => q.elim Or.inl (fun z => Or.inr (Or.inl z))).trans (g5.mono fun a j q => by unfold CChg; omega)
        have hnd : nD d + 1 ≤ 40 := by unfold nD; split <;> omega
        refine ⟨kI (valP P w num), m2, m3, ?_, ?_, Inv.chgs (P := setP P w num v) hR.oth hD.pn hn f3 (fun a j q => q) (b2.frC g5 (fun a j q => by unfold CPc; omega)) g4 (Nat.le_refl _) hnd ((n2.fr b3 (fun a j q => by omega)).fr g5 (fun a j q => by omega)) g3 (nE_ok c5 c1 c2 ⟨hk, vok, hv⟩)⟩
        · unfold F_X8_mend
          rw [bnd_eq kn, if_neg (by rw [iI_lit, kI_eq (by omega) (by omega)]; omega), bnd_eq al, if_neg (by rw [iI_lit, kI_eq (by omega) (by omega)]; omega), bnd_eq va, bnd_eq n1, bnd_eq b1]
        · rw [mend9_yes hP2 hk hv, bnd_eq g1]
    · have al := allows_no (μ := μ) hw4 hz
      refine Good.bad (v := iI (-1)) hI ?_ (mend9_no hR.2.1 (fun w' num' at9' v h1 h2 h3 h4 _ => ?_))
      · unfold F_X8_mend
        rw [bnd_eq kn, if_neg (by rw [iI_lit, kI_eq (by omega) (by omega)]; omega), bnd_eq al]
        rfl
      · have hw4' := (kn_num hn h1).1
        rw [kI_eq (by omega) (by omega)] at h3
        subst h3
        exact hz v h2 h4
  · refine Good.bad (v := iI (-1)) hI ?_ (mend9_no hR.2.1 (fun w num at9 v h1 _ h3 _ => hx w num at9 h1 h3))
    unfold F_X8_mend
    rw [bnd_eq (knows_no hR.1 hx)]
    rfl
