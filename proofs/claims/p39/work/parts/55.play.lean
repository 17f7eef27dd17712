/-! THE CLASS'S PLAY -/
theorem own_of {m : Nat} {P : Pa} {lot : Nat → Nat} {e : Ev} {k : Nat} (h : WfE m P lot e) (hk : k < eP e) : eO e k = some (own0 e k) ∧ own0 e k < pN P := by
  obtain ⟨q, q1, q2⟩ := h.2.2.1 k hk
  have : own0 e k = q := by simp [own0, q2]
  rw [this]
  exact ⟨q2, q1⟩
def SP (t a : Nat) : Prop := SE t a ∨ SL a
theorem PC.sp {μ μ' : Mm} {P : Pa} {t : Nat} (h : PC μ P) (ht : shp t = (9, 2)) (hf : Fr (SP t) μ μ') : PC μ' P := h.fr hf (fun a q => by have := shE ht; unfold SP SE SL at q; omega)
theorem LotC.sp {μ μ' : Mm} {t u : Nat} {lot : Nat → Nat} (h : LotC μ t lot) (ht : shp t = (9, 2)) (hu : shp u = (9, 2)) (hf : Fr (SP u) μ μ') : LotC μ' t lot := h.fr hf (fun a q => by have := shE ht; have := shE2 ht hu; unfold SP SE SL at q; omega)
/-- one turn -/
theorem turn_eq {m : Nat} {P : Pa} {lot : Nat → Nat} {e : Ev} {p t : Nat} {μ : Mm} (hP : PC μ P) (h : RC μ t e) (hL : LotC μ t lot) (hl : LotOk m P lot) (hw : WfE m P lot e) (hm : eP e < m) (hc : cu P lot e = some p) : ∀ (k : Int32 → Int32 → Int32 → Mm → Option (Int32 × Mm)) (a1 a2 : Int32), ∃ μ', (nm (gI μ 5 p) fun v2 => (if v2 = iI 2 then bnd (F_X2_byTheLaw t (kI p) μ) fun v7 m8 => F_X2_playTill_76 k t a1 a2 (kI p) v7 m8 else (if v2 = iI 1 then bnd (F_X2_fromWhomItLikesLeast t (kI p) μ) fun v5 m6 => F_X2_playTill_76 k t a1 a2 (kI p) v5 m6 else bnd (F_X2_ofMostWorth t (kI p) μ) fun v3 m4 => F_X2_playTill_76 k t a1 a2 (kI p) v3 m4))) = k a1 (a2 + kI 1) (cI (cu P lot (stE P e p))) μ' ∧ RC μ' t (stE P e p) ∧ Fr (SP t) μ μ' := by
  intro k a1 a2
  obtain ⟨p1, -, -, -⟩ := cu_free hP.ok hl hw hm hc
  have hn := hP.n7
  have hmn := hl.1
  have ho : eP e ≤ pN P := by omega
  have hb := hw.1
  have hwy := wf_st hP.ok hl hw hm hc
  -- behind the choice
  have act : ∀ μ2, PC μ2 P → RC μ2 t e → LotC μ2 t lot → Fr (SP t) μ μ2 → ∃ μ', F_X2_playTill_76 k t a1 a2 (kI p) (kO (ch P e p)) μ2 = k a1 (a2 + kI 1) (cI (cu P lot (stE P e p))) μ' ∧ RC μ' t (stE P e p) ∧ Fr (SP t) μ μ' := by
    intro μ2 hP2 h2 hL2 hf2
    unfold F_X2_playTill_76 F_X2_playTill_103
    cases hk : ch P e p with
    | none =>
      have e1 := unwrap_eq h2 (p := p) (by omega) (by omega)
      have r1 := unwrap_RC (p := p) h2
      have f1 : Fr (SP t) μ2 (opM μ2 t p (eP e)) := unwrap_Fr.mono (fun _ q => Or.inl q)
      have es : stE P e p = opE p e := by unfold stE; rw [hk]
      rw [es] at hwy ⊢
      have e2 := whose_eq (hP2.sp h2.1 f1) r1 (hL2.sp h2.1 h2.1 f1) hwy.1
      refine ⟨_, ?_, r1, hf2.trans f1⟩
      simp (disch := omega) only [e1, e2, iI_lit, kI_add, kI_mul, kI_eq, kI_lt, kI_le, kI_neg1, neg1_kI, neg1_lt0, neg1_0le, kO_none, kO_some, nm_eq, bnd_some, rz_0, rz_1, zb_0, zb_1, rd_kI, wrI_kI, wrL_kI, dvI_kI, rmI_kI, if_true, if_false, ite_true, ite_false, reduceIte, Nat.lt_irrefl, Nat.le_refl, not_true, not_false_iff, true_and, and_true, false_and, and_false, and_self, Bool.false_eq_true, eq_self, Decidable.not_not]
    | some j =>
      obtain ⟨k1, k2, k3⟩ := mayB_iff.mp (ch_may hk)
      obtain ⟨o1, o2⟩ := own_of hw k1
      have e1 := rob_eq h2 (p := p) (by omega) (show j < 7 by omega) o1 (by omega)
      have r1 := rob_RC (p := p) (k := j) (q := own0 e j) h2
      have f1 : Fr (SP t) μ2 (rbM μ2 t p j (own0 e j) (eT e j)) := rob_Fr.mono (fun _ q => Or.inl q)
      have es : stE P e p = rbE p j (own0 e j) e := by unfold stE; rw [hk]
      rw [es] at hwy ⊢
      have e2 := whose_eq (hP2.sp h2.1 f1) r1 (hL2.sp h2.1 h2.1 f1) hwy.1
      refine ⟨_, ?_, r1, hf2.trans f1⟩
      simp (disch := omega) only [e1, e2, iI_lit, kI_add, kI_mul, kI_eq, kI_lt, kI_le, kI_neg1, neg1_kI, neg1_lt0, neg1_0le, kO_none, kO_some, nm_eq, bnd_some, rz_0, rz_1, zb_0, zb_1, rd_kI, wrI_kI, wrL_kI, dvI_kI, rmI_kI, if_true, if_false, ite_true, ite_false, reduceIte, Nat.lt_irrefl, Nat.le_refl, not_true, not_false_iff, true_and, and_true, false_and, and_false, and_self, Bool.false_eq_true, eq_self, Decidable.not_not]
  have ey := hP.y (p := p) (by omega)
  have hy := hP.ok.2.2.2.1 p
  have hq : ∀ k, k < eP e → ∃ q, q < pN P ∧ eO e k = some q := hw.2.2.1
  by_cases y2 : pY P p = 2
  · obtain ⟨μ2, g1, g2⟩ := byLaw_eq hP h hb p1 ho hq
    have g2' : Fr (SP t) μ μ2 := g2.mono (fun _ q => Or.inr q)
    obtain ⟨μ', a1', a2', a3'⟩ := act μ2 (hP.sl g2) (h.sl g2) (hL.sp h.1 h.1 g2') g2'
    refine ⟨μ', ?_, a2', a3'⟩
    have ec : ch P e p = pk (mayB P e) (nmb P e p) (eP e) 0 (nmb0 P e p) none := if_pos y2
    rw [← ec] at g1
    simp (disch := omega) only [ey, y2, g1, a1', iI_lit, kI_add, kI_mul, kI_eq, kI_lt, kI_le, kI_neg1, neg1_kI, neg1_lt0, neg1_0le, kO_none, kO_some, nm_eq, bnd_some, rz_0, rz_1, zb_0, zb_1, rd_kI, wrI_kI, wrL_kI, dvI_kI, rmI_kI, if_true, if_false, ite_true, ite_false, reduceIte, Nat.lt_irrefl, Nat.le_refl, not_true, not_false_iff, true_and, and_true, false_and, and_false, and_self, Bool.false_eq_true, eq_self, Decidable.not_not]
  · by_cases y1 : pY P p = 1
    · have g1 := like_eq hP h hb p1 ho hq
      obtain ⟨μ', a1', a2', a3'⟩ := act μ hP h hL Fr.refl
      refine ⟨μ', ?_, a2', a3'⟩
      have ec : ch P e p = pk (c1 P e p) (s1 P e p) (eP e) 0 (iI (-1000)) none := by unfold ch; rw [if_neg y2, if_pos y1]
      rw [← ec] at g1
      simp (disch := omega) only [ey, y1, g1, a1', show ¬ 1 = 2 by omega, iI_lit, kI_add, kI_mul, kI_eq, kI_lt, kI_le, kI_neg1, neg1_kI, neg1_lt0, neg1_0le, kO_none, kO_some, nm_eq, bnd_some, rz_0, rz_1, zb_0, zb_1, rd_kI, wrI_kI, wrL_kI, dvI_kI, rmI_kI, if_true, if_false, ite_true, ite_false, reduceIte, Nat.lt_irrefl, Nat.le_refl, not_true, not_false_iff, true_and, and_true, false_and, and_false, and_self, Bool.false_eq_true, eq_self, Decidable.not_not]
    · have g1 := most_eq hP h hb p1 ho
      obtain ⟨μ', a1', a2', a3'⟩ := act μ hP h hL Fr.refl
      refine ⟨μ', ?_, a2', a3'⟩
      have ec : ch P e p = pk (mayB P e) (fun k => kI (pW P p k)) (eP e) 0 (kI (gu P e p)) none := by unfold ch; rw [if_neg y2, if_neg y1]
      rw [← ec] at g1
      simp (disch := omega) only [ey, y1, y2, g1, a1', iI_lit, kI_add, kI_mul, kI_eq, kI_lt, kI_le, kI_neg1, neg1_kI, neg1_lt0, neg1_0le, kO_none, kO_some, nm_eq, bnd_some, rz_0, rz_1, zb_0, zb_1, rd_kI, wrI_kI, wrL_kI, dvI_kI, rmI_kI, if_true, if_false, ite_true, ite_false, reduceIte, Nat.lt_irrefl, Nat.le_refl, not_true, not_false_iff, true_and, and_true, false_and, and_false, and_self, Bool.false_eq_true, eq_self, Decidable.not_not]
theorem RC.sp {μ μ' : Mm} {t u : Nat} {e : Ev} (h : RC μ t e) (hu : shp u = (9, 2)) (hne : t ≠ u) (hf : Fr (SP u) μ μ') : RC μ' t e := h.fr hf (fun a q => by have := shE h.1; have := shE2 h.1 hu; unfold SP SE SL at q; omega)
theorem cu_some {m : Nat} {P : Pa} {lot : Nat → Nat} {e : Ev} (hl : LotOk m P lot) (hm : eP e < m) : ∃ p, cu P lot e = some p := by
  unfold cu
  cases eR e with
  | some r => exact ⟨r, rfl⟩
  | none => exact ⟨lot (eP e), if_pos (by have := hl.1; omega)⟩
theorem cI_neg (P : Pa) (lot : Nat → Nat) (e : Ev) : (cI none < kI 0) = True := by
  rw [cI_none, Int32.lt_iff_toInt_lt, iI_toInt (z := -2) (by omega) (by omega), kI_toInt (by omega)]
  simp
theorem play_loop {m : Nat} {P : Pa} {lot : Nat → Nat} {t : Nat} (hl : LotOk m P lot) : ∀ g e c f (μ : Mm), left P e ≤ g → g < f → c + g < 100 → PC μ P → RC μ t e → LotC μ t lot → WfE m P lot e → ∃ μ', F_X2_playTill_9 t f (kI m) (kI c) (cI (cu P lot e)) μ = some (kI (c + (plE P lot m g e).2), μ') ∧ RC μ' t (plE P lot m g e).1 ∧ Fr (SP t) μ μ' ∧ WfE m P lot (plE P lot m g e).1 ∧ eP (plE P lot m g e).1 = m ∧ (plE P lot m g e).2 ≤ g := by
  intro g
  induction g with
  | zero =>
    intro e c f μ hg hf hc hP h hL hw
    obtain ⟨f, rfl⟩ : ∃ g, f = g + 1 := ⟨f - 1, by omega⟩
    have hmn := hl.1
    have hn := hP.n7
    have he : eP e = m := by
      have h1 := hw.2.1
      have h2 : (pN P - eP e) * (1 + pM P) = 0 := by unfold left at hg; omega
      rcases Nat.mul_eq_zero.mp h2 with h3 | h3 <;> omega
    have h4 := h.2.2.1
    refine ⟨μ, ?_, h, Fr.refl, hw, he, Nat.le_refl _⟩
    have e0 : (plE P lot m 0 e).2 = 0 := rfl
    unfold F_X2_playTill_9
    rw [e0]
    by_cases z : cI (cu P lot e) < kI 0
    · simp (disch := omega) only [z, show ¬ 100 ≤ c by omega, Nat.add_zero, iI_lit, kI_add, kI_mul, kI_eq, kI_lt, kI_le, kI_neg1, neg1_kI, neg1_lt0, neg1_0le, kO_none, kO_some, nm_eq, bnd_some, rz_0, rz_1, zb_0, zb_1, rd_kI, wrI_kI, wrL_kI, dvI_kI, rmI_kI, if_true, if_false, ite_true, ite_false, reduceIte, Nat.lt_irrefl, Nat.le_refl, not_true, not_false_iff, true_and, and_true, false_and, and_false, and_self, Bool.false_eq_true, eq_self, Decidable.not_not]
    · simp (disch := omega) only [h4, he, z, show ¬ 100 ≤ c by omega, Nat.add_zero, iI_lit, kI_add, kI_mul, kI_eq, kI_lt, kI_le, kI_neg1, neg1_kI, neg1_lt0, neg1_0le, kO_none, kO_some, nm_eq, bnd_some, rz_0, rz_1, zb_0, zb_1, rd_kI, wrI_kI, wrL_kI, dvI_kI, rmI_kI, if_true, if_false, ite_true, ite_false, reduceIte, Nat.lt_irrefl, Nat.le_refl, not_true, not_false_iff, true_and, and_true, false_and, and_false, and_self, Bool.false_eq_true, eq_self, Decidable.not_not]
  | succ g ih =>
    intro e c f μ hg hf hc hP h hL hw
    obtain ⟨f, rfl⟩ : ∃ g, f = g + 1 := ⟨f - 1, by omega⟩
    have hmn := hl.1
    have hn := hP.n7
    have h4 := h.2.2.1
    by_cases hm : m ≤ eP e
    · have he : eP e = m := by have := hw.2.1; omega
      have ep : plE P lot m (g + 1) e = (e, 0) := by unfold plE; rw [if_pos hm]
      rw [ep]
      refine ⟨μ, ?_, h, Fr.refl, hw, he, Nat.zero_le _⟩
      unfold F_X2_playTill_9
      by_cases z : cI (cu P lot e) < kI 0
      · simp (disch := omega) only [z, show ¬ 100 ≤ c by omega, Nat.add_zero, iI_lit, kI_add, kI_mul, kI_eq, kI_lt, kI_le, kI_neg1, neg1_kI, neg1_lt0, neg1_0le, kO_none, kO_some, nm_eq, bnd_some, rz_0, rz_1, zb_0, zb_1, rd_kI, wrI_kI, wrL_kI, dvI_kI, rmI_kI, if_true, if_false, ite_true, ite_false, reduceIte, Nat.lt_irrefl, Nat.le_refl, not_true, not_false_iff, true_and, and_true, false_and, and_false, and_self, Bool.false_eq_true, eq_self, Decidable.not_not]
      · simp (disch := omega) only [h4, he, z, show ¬ 100 ≤ c by omega, Nat.add_zero, iI_lit, kI_add, kI_mul, kI_eq, kI_lt, kI_le, kI_neg1, neg1_kI, neg1_lt0, neg1_0le, kO_none, kO_some, nm_eq, bnd_some, rz_0, rz_1, zb_0, zb_1, rd_kI, wrI_kI, wrL_kI, dvI_kI, rmI_kI, if_true, if_false, ite_true, ite_false, reduceIte, Nat.lt_irrefl, Nat.le_refl, not_true, not_false_iff, true_and, and_true, false_and, and_false, and_self, Bool.false_eq_true, eq_self, Decidable.not_not]
    · have hm : eP e < m := by omega
      obtain ⟨p, hp⟩ := cu_some hl hm
      obtain ⟨p1, -, -, -⟩ := cu_free hP.ok hl hw hm hp
      obtain ⟨μ2, t1, t2, t3⟩ := turn_eq hP h hL hl hw hm hp (F_X2_playTill_9 t f) (kI m) (kI c)
      have hls := left_st (p := p) hmn hw hm
      obtain ⟨μ3, i1, i2, i3, i4, i5, i6⟩ := ih (stE P e p) (c + 1) f μ2 (by omega) (by omega) (by omega) (hP.sp h.1 t3) t2 (hL.sp h.1 h.1 t3) (wf_st hP.ok hl hw hm hp)
      have ep : plE P lot m (g + 1) e = ((plE P lot m g (stE P e p)).1, (plE P lot m g (stE P e p)).2 + 1) := by
        rw [plE, if_neg (show ¬ m ≤ eP e by omega), hp]
      rw [ep]
      refine ⟨μ3, ?_, i2, t3.trans i3, i4, i5, ?_⟩
      · unfold F_X2_playTill_9
        rw [hp, cI_some]
        rw [kI_add] at t1
        simp (disch := omega) only [h4, show ¬ 100 ≤ c by omega, show ¬ m ≤ eP e by omega, Nat.not_lt_zero, iI_lit, kI_add, kI_mul, kI_eq, kI_lt, kI_le, kI_neg1, neg1_kI, neg1_lt0, neg1_0le, kO_none, kO_some, nm_eq, bnd_some, rz_0, rz_1, zb_0, zb_1, rd_kI, wrI_kI, wrL_kI, dvI_kI, rmI_kI, if_true, if_false, ite_true, ite_false, reduceIte, Nat.lt_irrefl, Nat.le_refl, not_true, not_false_iff, true_and, and_true, false_and, and_false, and_self, Bool.false_eq_true, eq_self, Decidable.not_not] at t1 ⊢
        rw [t1, i1]
        simp only [Nat.add_assoc, Nat.add_comm 1]
      · show (plE P lot m g (stE P e p)).2 + 1 ≤ g + 1
        omega
theorem play_eq {m : Nat} {P : Pa} {lot : Nat → Nat} {t : Nat} {e : Ev} {μ : Mm} (hl : LotOk m P lot) (hP : PC μ P) (h : RC μ t e) (hL : LotC μ t lot) (hw : WfE m P lot e) : ∃ μ', F_X2_playTill t (kI m) μ = some (kI (plE P lot m 28 e).2, μ') ∧ RC μ' t (plE P lot m 28 e).1 ∧ Fr (SP t) μ μ' ∧ WfE m P lot (plE P lot m 28 e).1 ∧ eP (plE P lot m 28 e).1 = m := by
  have hlf := left_le hP.ok (e := e) (by have := hw.2.1; have := hl.1; omega)
  obtain ⟨μ', i1, i2, i3, i4, i5, -⟩ := play_loop hl 28 e 0 FU μ hlf (by unfold FU; omega) (by omega) hP h hL hw
  refine ⟨μ', ?_, i2, i3, i4, i5⟩
  unfold F_X2_playTill
  rw [if_pos h.1, whose_eq hP h hL hw.1, bnd_some, iI_lit, i1, Nat.zero_add]
