/-! UNDO, REDO, OF, COUNT, FEED, BODY, TRACE OF BOTH -/
theorem g_undo : Good F_X8_undo F_X9_undo := by
  intro μ hI
  obtain ⟨P, lot, e, hR, hD⟩ := hI.split
  have hn := hR.1.n7
  obtain ⟨d, a, E, c1, c2, c3, c4, c5⟩ := hR.oth.1
  by_cases d0 : d = 0
  · refine Good.bad (v := iI (-5)) hI ?_ ?_
    · unfold F_X8_undo
      simp (disch := omega) only [c3.1, d0, Nat.lt_irrefl, iI_lit, kI_add, kI_mul, kI_eq, kI_lt, kI_le, kI_neg1, neg1_kI, neg1_lt0, neg1_0le, kO_none, kO_some, nm_eq, bnd_some, rz_0, rz_1, zb_0, zb_1, rd_kI, wrI_kI, wrL_kI, dvI_kI, rmI_kI, if_true, if_false, ite_true, ite_false, reduceIte, Nat.lt_irrefl, Nat.le_refl, not_true, not_false_iff, true_and, and_true, false_and, and_false, and_self, Bool.false_eq_true, eq_self, Decidable.not_not]
    · unfold F_X9_undo
      simp (disch := omega) only [c4.1, d0, iI_lit, kI_add, kI_mul, kI_eq, kI_lt, kI_le, kI_neg1, neg1_kI, neg1_lt0, neg1_0le, kO_none, kO_some, nm_eq, bnd_some, rz_0, rz_1, zb_0, zb_1, rd_kI, wrI_kI, wrL_kI, dvI_kI, rmI_kI, if_true, if_false, ite_true, ite_false, reduceIte, Nat.lt_irrefl, Nat.le_refl, not_true, not_false_iff, true_and, and_true, false_and, and_false, and_self, Bool.false_eq_true, eq_self, Decidable.not_not]
  · obtain ⟨k1, k2, k3⟩ := c5 (d - 1) (by omega)
    obtain ⟨e1, e2, e3, -⟩ := c3.2.2 (d - 1) (by omega)
    obtain ⟨r1, r2, r3, -⟩ := c4.2.2 (d - 1) (by omega)
    generalize E (d - 1) = ch at k1 k2 k3 e1 e2 e3 r1 r2 r3
    obtain ⟨num, w, at9, b, f⟩ := ch
    have f1 : FrC (fun a j => a = 11 ∧ j = 4) μ (pI μ 11 4 (kI (d - 1))) := FrC.put (C := fun a j => a = 11 ∧ j = 4) FrC.refl (by omega)
    have hC1 : PC (pI μ 11 4 (kI (d - 1))) P := hR.1.frC f1 (fun a j q => by unfold CPc; omega)
    obtain ⟨_, m1, b1, b2, b3⟩ := become4_eq hC1 k1 k2
    have b3' : FrC (fun a j => 2 ≤ a ∧ a ≤ 5) (pI μ 11 4 (kI (d - 1))) m1 := b3
    have fa : FrC (fun a j => (2 ≤ a ∧ a ≤ 5) ∨ (a = 11 ∧ j = 4)) μ m1 := (f1.mono fun a j q => Or.inr q).trans (b3'.mono fun a j q => Or.inl q)
    have g2 : FrC (fun a j => a = 113 ∧ (j = 20 ∨ j = 21)) m1 (pI (pI m1 113 20 (kI (d - 1))) 113 21 (kI (a - (d - 1)))) := (FrC.put (C := fun a j => a = 113 ∧ (j = 20 ∨ j = 21)) FrC.refl (by omega)).put (by omega)
    have hP2 : PR (pI (pI m1 113 20 (kI (d - 1))) 113 21 (kI (a - (d - 1)))) P := (hR.2.1.fr fa (fun a j q z => by unfold CP at z; omega)).fr g2 (fun a j q z => by unfold CP at z; omega)
    obtain ⟨_, m2, l1, l2, l3⟩ := lays_eq hP2 k1 k2
    have cc1 : CC m1 (d - 1) a E := ⟨by rw [b3'.1 11 4 (by omega)]; simp [gI_pI], by rw [fa.1 11 5 (by omega)]; exact c3.2.1, fun i hi => by rw [fa.1 12 i (by omega), fa.1 13 i (by omega), fa.1 14 i (by omega), fa.1 15 i (by omega)]; exact c3.2.2 i hi⟩
    have cr1 : CR m1 d a E := c4.fr fa (fun a j q => by omega)
    have cr2 : CR (pI (pI m1 113 20 (kI (d - 1))) 113 21 (kI (a - (d - 1)))) (d - 1) a E := ⟨by simp [gI_pI], by simp [gI_pI], fun i hi => cr1.2.2 i hi⟩
    have fall : FrC (fun a j => CChg a j ∨ (2 ≤ a ∧ a ≤ 5) ∨ (114 ≤ a ∧ a ≤ 116) ∨ (a = 113 ∧ (j = 5 ∨ j = 6))) μ m2 := ((fa.mono fun a j q => by unfold CChg; omega).trans (g2.mono fun a j q => by unfold CChg; omega)).trans (l3.mono fun a j q => by omega)
    refine ⟨kI (d - 1), m1, m2, ?_, ?_, Inv.chgs (P := setP P w num b) hR.oth hD.pn hn fall (fun a j q => q) ((b2.frC g2 (fun a j q => by unfold CPc; omega)).frC l3 (fun a j q => by unfold CPc; omega)) l2 (show d - 1 ≤ a by omega) c2 ((cc1.fr g2 (fun a j q => by omega)).fr l3 (fun a j q => by omega)) (cr2.fr l3 (fun a j q => by omega)) c5⟩
    · have e1 : gI μ 12 (d - 1) = kI num := e1
      have e2 : gI μ 13 (d - 1) = kI w := e2
      have e3 : gI μ 14 (d - 1) = kI b := e3
      unfold F_X8_undo F_X1_stepBack
      rw [c3.1, if_pos (by rw [iI_lit, kI_lt (by omega) (by omega)]; omega), if_neg (by rw [iI_lit, kI_le (by omega) (by omega)]; omega), if_neg (by rw [iI_lit, kI_lt (by omega) (by omega)]; omega), iI_lit, kI_sub (by omega), nm_eq]
      have q4 : gI (pI μ 11 4 (kI (d - 1))) 11 4 = kI (d - 1) := by simp [gI_pI]
      have q1 : gI (pI μ 11 4 (kI (d - 1))) 12 (d - 1) = kI num := by simp [gI_pI, e1]
      have q2 : gI (pI μ 11 4 (kI (d - 1))) 13 (d - 1) = kI w := by simp [gI_pI, e2]
      have q3 : gI (pI μ 11 4 (kI (d - 1))) 14 (d - 1) = kI b := by simp [gI_pI, e3]
      rw [q4, rd_kI (by omega) (by omega), rd_kI (by omega) (by omega), rd_kI (by omega) (by omega), q1, q2, q3, bnd_eq b1, bnd_some, cc1.1]
    · have r1 : gI μ 125 (d - 1) = kI w := r1
      have r2 : gI μ 126 (d - 1) = kI at9 := r2
      have r3 : gI μ 127 (d - 1) = kI b := r3
      unfold F_X9_undo
      rw [cr1.1, if_neg (by rw [iI_lit, kI_eq (by omega) (by omega)]; omega), iI_lit, kI_sub (by omega), nm_eq, nm_eq]
      have q0 : gI (pI m1 113 20 (kI (d - 1))) 113 21 + kI 1 = kI (a - (d - 1)) := by
        simp [gI_pI, cr1.2.1, kI_add]
        congr 1
        omega
      have q4 : gI (pI (pI m1 113 20 (kI (d - 1))) 113 21 (kI (a - (d - 1)))) 113 20 = kI (d - 1) := by simp [gI_pI]
      have q1 : gI (pI (pI m1 113 20 (kI (d - 1))) 113 21 (kI (a - (d - 1)))) 125 (d - 1) = kI w := by rw [g2.1 125 _ (by omega), fa.1 125 _ (by omega)]; exact r1
      have q2 : gI (pI (pI m1 113 20 (kI (d - 1))) 113 21 (kI (a - (d - 1)))) 126 (d - 1) = kI at9 := by rw [g2.1 126 _ (by omega), fa.1 126 _ (by omega)]; exact r2
      have q3 : gI (pI (pI m1 113 20 (kI (d - 1))) 113 21 (kI (a - (d - 1)))) 127 (d - 1) = kI b := by rw [g2.1 127 _ (by omega), fa.1 127 _ (by omega)]; exact r3
      rw [q0, q4, rd_kI (by omega) (by omega), rd_kI (by omega) (by omega), rd_kI (by omega) (by omega), q1, q2, q3, bnd_eq l1, l3.1 113 20 (by omega), q4]
theorem g_redo : Good F_X8_redo F_X9_redo := by
  intro μ hI
  obtain ⟨P, lot, e, hR, hD⟩ := hI.split
  have hn := hR.1.n7
  obtain ⟨d, a, E, c1, c2, c3, c4, c5⟩ := hR.oth.1
  by_cases d0 : d = a
  · refine Good.bad (v := iI (-5)) hI ?_ ?_
    · unfold F_X8_redo
      simp (disch := omega) only [c3.1, c3.2.1, d0, Nat.lt_irrefl, iI_lit, kI_add, kI_mul, kI_eq, kI_lt, kI_le, kI_neg1, neg1_kI, neg1_lt0, neg1_0le, kO_none, kO_some, nm_eq, bnd_some, rz_0, rz_1, zb_0, zb_1, rd_kI, wrI_kI, wrL_kI, dvI_kI, rmI_kI, if_true, if_false, ite_true, ite_false, reduceIte, Nat.lt_irrefl, Nat.le_refl, not_true, not_false_iff, true_and, and_true, false_and, and_false, and_self, Bool.false_eq_true, eq_self, Decidable.not_not]
    · unfold F_X9_redo
      simp (disch := omega) only [c4.2.1, d0, Nat.sub_self, iI_lit, kI_add, kI_mul, kI_eq, kI_lt, kI_le, kI_neg1, neg1_kI, neg1_lt0, neg1_0le, kO_none, kO_some, nm_eq, bnd_some, rz_0, rz_1, zb_0, zb_1, rd_kI, wrI_kI, wrL_kI, dvI_kI, rmI_kI, if_true, if_false, ite_true, ite_false, reduceIte, Nat.lt_irrefl, Nat.le_refl, not_true, not_false_iff, true_and, and_true, false_and, and_false, and_self, Bool.false_eq_true, eq_self, Decidable.not_not]
  · obtain ⟨k1, k2, k3⟩ := c5 d (by omega)
    obtain ⟨e1, e2, -, e3⟩ := c3.2.2 d (by omega)
    obtain ⟨r1, r2, -, r3⟩ := c4.2.2 d (by omega)
    generalize E d = ch at k1 k2 k3 e1 e2 e3 r1 r2 r3
    obtain ⟨num, w, at9, b, f⟩ := ch
    obtain ⟨_, m0, b1, b2, b3⟩ := become4_eq hR.1 k1 k3
    have b3' : FrC (fun a j => 2 ≤ a ∧ a ≤ 5) μ m0 := b3
    have f1 : FrC (fun a j => a = 11 ∧ j = 4) m0 (pI m0 11 4 (kI (d + 1))) := FrC.put (C := fun a j => a = 11 ∧ j = 4) FrC.refl (by omega)
    have fa : FrC (fun a j => (2 ≤ a ∧ a ≤ 5) ∨ (a = 11 ∧ j = 4)) μ (pI m0 11 4 (kI (d + 1))) := (b3'.mono fun a j q => Or.inl q).trans (f1.mono fun a j q => Or.inr q)
    have hP1 : PR (pI m0 11 4 (kI (d + 1))) P := hR.2.1.fr fa (fun a j q z => by unfold CP at z; omega)
    obtain ⟨_, m2, l1, l2, l3⟩ := lays_eq hP1 k1 k3
    have g2 : FrC (fun a j => a = 113 ∧ (j = 20 ∨ j = 21)) m2 (pI (pI m2 113 20 (kI (d + 1))) 113 21 (kI (a - (d + 1)))) := (FrC.put (C := fun a j => a = 113 ∧ (j = 20 ∨ j = 21)) FrC.refl (by omega)).put (by omega)
    have cc1 : CC (pI m0 11 4 (kI (d + 1))) (d + 1) a E := ⟨by simp [gI_pI], by rw [fa.1 11 5 (by omega)]; exact c3.2.1, fun i hi => by rw [fa.1 12 i (by omega), fa.1 13 i (by omega), fa.1 14 i (by omega), fa.1 15 i (by omega)]; exact c3.2.2 i hi⟩
    have cr1 : CR (pI m0 11 4 (kI (d + 1))) d a E := c4.fr fa (fun a j q => by omega)
    have cr2 : CR m2 d a E := cr1.fr l3 (fun a j q => by omega)
    have cr3 : CR (pI (pI m2 113 20 (kI (d + 1))) 113 21 (kI (a - (d + 1)))) (d + 1) a E := ⟨by simp [gI_pI], by simp [gI_pI], fun i hi => cr2.2.2 i hi⟩
    have fall : FrC (fun a j => CChg a j ∨ (2 ≤ a ∧ a ≤ 5) ∨ (114 ≤ a ∧ a ≤ 116) ∨ (a = 113 ∧ (j = 5 ∨ j = 6))) μ (pI (pI m2 113 20 (kI (d + 1))) 113 21 (kI (a - (d + 1)))) := ((fa.mono fun a j q => by unfold CChg; omega).trans (l3.mono fun a j q => by omega)).trans (g2.mono fun a j q => by unfold CChg; omega)
    refine ⟨kI (a - (d + 1)), pI m0 11 4 (kI (d + 1)), _, ?_, ?_, Inv.chgs (P := setP P w num f) hR.oth hD.pn hn fall (fun a j q => q) (((b2.frC f1 (fun a j q => by unfold CPc; omega)).frC l3 (fun a j q => by unfold CPc; omega)).frC g2 (fun a j q => by unfold CPc; omega)) (l2.fr g2 (fun a j q z => by unfold CP at z; omega)) (show d + 1 ≤ a by omega) c2 ((cc1.fr l3 (fun a j q => by omega)).fr g2 (fun a j q => by omega)) cr3 c5⟩
    · have e1 : gI μ 12 d = kI num := e1
      have e2 : gI μ 13 d = kI w := e2
      have e3 : gI μ 15 d = kI f := e3
      unfold F_X8_redo F_X1_stepOn
      rw [c3.1, c3.2.1, if_pos (by rw [kI_lt (by omega) (by omega)]; omega), if_neg (by rw [iI_lit, kI_lt (by omega) (by omega)]; omega), if_neg (by rw [kI_le (by omega) (by omega)]; omega), if_neg (by rw [iI_lit, kI_le (by omega) (by omega)]; omega), rd_kI (by omega) (by omega), rd_kI (by omega) (by omega), rd_kI (by omega) (by omega), e1, e2, e3, bnd_eq b1, nm_eq, b3'.1 11 4 (by omega), c3.1, iI_lit, kI_add, bnd_some, cc1.1, cc1.2.1, kI_sub (by omega)]
    · have r1 : gI (pI m0 11 4 (kI (d + 1))) 125 d = kI w := by rw [fa.1 125 _ (by omega)]; exact r1
      have r2 : gI (pI m0 11 4 (kI (d + 1))) 126 d = kI at9 := by rw [fa.1 126 _ (by omega)]; exact r2
      have r3 : gI (pI m0 11 4 (kI (d + 1))) 128 d = kI f := by rw [fa.1 128 _ (by omega)]; exact r3
      have q0 : gI (pI m2 113 20 (kI (d + 1))) 113 21 - kI 1 = kI (a - (d + 1)) := by
        rw [show gI (pI m2 113 20 (kI (d + 1))) 113 21 = kI (a - d) by simp [gI_pI, cr2.2.1], kI_sub (by omega)]
        congr 1
      unfold F_X9_redo
      rw [cr1.2.1, if_neg (by rw [iI_lit, kI_eq (by omega) (by omega)]; omega), cr1.1, rd_kI (by omega) (by omega), rd_kI (by omega) (by omega), rd_kI (by omega) (by omega), r1, r2, r3, bnd_eq l1, nm_eq, cr2.1, iI_lit, kI_add, nm_eq, q0, cr3.2.1]
theorem tsw10_at {β : Type} {k : Nat} (hk : k < 4) {a b c d e : Option β} : tsw (kI (10 + k)) 10 [a, b, c, d] e = [a, b, c, d].getD k e := by
  unfold tsw
  rw [kI_toInt (by omega)]
  have h : (10 : Int) ≤ ((10 + k : Nat) : Int) ∧ ((10 + k : Nat) : Int) < 10 + (([a, b, c, d] : List (Option β)).length : Int) := by
    show (10 : Int) ≤ ((10 + k : Nat) : Int) ∧ ((10 + k : Nat) : Int) < 10 + ((4 : Nat) : Int)
    omega
  rw [if_pos h]
  congr 1
  omega
theorem tsw10_out {β : Type} {x : Int32} (hx : ∀ k, k < 4 → x ≠ kI (10 + k)) {a b c d e : Option β} : tsw x 10 [a, b, c, d] e = e := by
  unfold tsw
  rw [if_neg]
  intro h
  have h2 : x.toInt < 10 + ((4 : Nat) : Int) := h.2
  rcases i32_cases x with q | ⟨k, k1, rfl⟩
  · have := h.1; omega
  · rw [kI_toInt k1] at h h2
    have h1 := h.1
    exact hx (k - 10) (by omega) (by congr 1; omega)
theorem of9_yes {μ : Mm} {P : Pa} (hP : PR μ P) {w num at9 : Nat} (hk : Kn (pN P) w num at9) : F_X9_of (kI num) (kI w) μ = some (kI (valP P w num), μ) := by
  have hn := hP.n7
  unfold F_X9_of
  rcases hk with ⟨rfl, p, k, q2, q3, rfl, rfl⟩ | ⟨rfl, p, k, q2, q3, q4, rfl, rfl⟩ | ⟨rfl, q2, rfl⟩ | ⟨rfl, rfl, rfl⟩ | ⟨rfl, rfl, rfl⟩
  all_goals (rw [tsw0_at (by show _ < 14; omega) (by omega)]; simp only [List.getD_cons_zero, List.getD_cons_succ])
  · have pe := place_eq (μ := μ) (p := p) (k := k) (by omega) (by omega)
    have e := hP.w (p := p) (k := k) (by omega) (by omega)
    rw [bnd_eq (areBoth_yes hP q2 q3)]
    simp (disch := omega) only [pe, e, Nat.one_ne_zero, iI_lit, kI_add, kI_mul, kI_eq, kI_lt, kI_le, kI_neg1, neg1_kI, neg1_lt0, neg1_0le, kO_none, kO_some, nm_eq, bnd_some, rz_0, rz_1, zb_0, zb_1, rd_kI, wrI_kI, wrL_kI, dvI_kI, rmI_kI, if_true, if_false, ite_true, ite_false, reduceIte, Nat.lt_irrefl, Nat.le_refl, not_true, not_false_iff, true_and, and_true, false_and, and_false, and_self, Bool.false_eq_true, eq_self, Decidable.not_not]
    show some (kI (pW P p k), μ) = some (kI (pW P ((10 * p + k) / 10) ((10 * p + k) % 10)), μ)
    rw [show (10 * p + k) / 10 = p by omega, show (10 * p + k) % 10 = k by omega]
  · have pe := place_eq (μ := μ) (p := p) (k := k) (by omega) (by omega)
    have e := hP.k (p := p) (k := k) (by omega) (by omega)
    rw [bnd_eq (areBoth_yes hP q2 q3)]
    simp (disch := omega) only [show (10 * p + k) / 10 = p by omega, show (10 * p + k) % 10 = k by omega, q4, pe, e, Nat.one_ne_zero, iI_lit, kI_add, kI_mul, kI_eq, kI_lt, kI_le, kI_neg1, neg1_kI, neg1_lt0, neg1_0le, kO_none, kO_some, nm_eq, bnd_some, rz_0, rz_1, zb_0, zb_1, rd_kI, wrI_kI, wrL_kI, dvI_kI, rmI_kI, if_true, if_false, ite_true, ite_false, reduceIte, Nat.lt_irrefl, Nat.le_refl, not_true, not_false_iff, true_and, and_true, false_and, and_false, and_self, Bool.false_eq_true, eq_self, Decidable.not_not]
    show some (kI (pK P p k), μ) = some (kI (pK P ((10 * p + k) / 10) ((10 * p + k) % 10)), μ)
    rw [show (10 * p + k) / 10 = p by omega, show (10 * p + k) % 10 = k by omega]
  · have e := hP.y (p := at9) (by omega)
    rw [bnd_eq (isPerson_yes hP q2)]
    simp (disch := omega) only [e, Nat.one_ne_zero, iI_lit, kI_add, kI_mul, kI_eq, kI_lt, kI_le, kI_neg1, neg1_kI, neg1_lt0, neg1_0le, kO_none, kO_some, nm_eq, bnd_some, rz_0, rz_1, zb_0, zb_1, rd_kI, wrI_kI, wrL_kI, dvI_kI, rmI_kI, if_true, if_false, ite_true, ite_false, reduceIte, Nat.lt_irrefl, Nat.le_refl, not_true, not_false_iff, true_and, and_true, false_and, and_false, and_self, Bool.false_eq_true, eq_self, Decidable.not_not]
    rfl
  · rw [if_pos (show kI 0 = iI 0 from rfl), hP.m]
    rfl
  · rw [if_pos (show kI 0 = iI 0 from rfl), hP.a]
    rfl
theorem of9_no {μ : Mm} {P : Pa} (hP : PR μ P) {x : Int32} {w : Nat} (hw : w ≤ 4) (h : ∀ num at9, Kn (pN P) w num at9 → x ≠ kI num) : F_X9_of x (kI w) μ = some (iI (-1), μ) := by
  have hn := hP.n7
  unfold F_X9_of
  have hw : w = 0 ∨ w = 1 ∨ w = 2 ∨ w = 3 ∨ w = 4 := by omega
  rcases hw with rfl | rfl | rfl | rfl | rfl
  all_goals (rw [tsw0_at (by show _ < 14; omega) (by omega)]; simp only [List.getD_cons_zero, List.getD_cons_succ])
  · rw [bnd_eq (areBoth_no hP (fun p k hp hk => h _ _ (Or.inl ⟨rfl, p, k, hp, hk, rfl, rfl⟩)))]
    rfl
  · rcases pair_cases (pN P) x with ⟨p, k, hp, hk, rfl⟩ | hx
    · rw [bnd_eq (areBoth_yes hP hp hk)]
      have hpk : p = k := by
        by_cases z : p = k
        · exact z
        · exact absurd rfl (h _ _ (Or.inr (Or.inl ⟨rfl, p, k, hp, hk, z, rfl, rfl⟩)))
      subst hpk
      simp (disch := omega) only [show (10 * p + p) / 10 = p by omega, show (10 * p + p) % 10 = p by omega, Nat.one_ne_zero, iI_lit, kI_add, kI_mul, kI_eq, kI_lt, kI_le, kI_neg1, neg1_kI, neg1_lt0, neg1_0le, kO_none, kO_some, nm_eq, bnd_some, rz_0, rz_1, zb_0, zb_1, rd_kI, wrI_kI, wrL_kI, dvI_kI, rmI_kI, if_true, if_false, ite_true, ite_false, reduceIte, Nat.lt_irrefl, Nat.le_refl, not_true, not_false_iff, true_and, and_true, false_and, and_false, and_self, Bool.false_eq_true, eq_self, Decidable.not_not]
    · rw [bnd_eq (areBoth_no hP hx)]
      rfl
  · rw [bnd_eq (isPerson_no hP (fun k hk => h _ _ (Or.inr (Or.inr (Or.inl ⟨rfl, hk, rfl⟩)))))]
    rfl
  · rw [if_neg (show ¬ x = iI 0 from h _ _ (Or.inr (Or.inr (Or.inr (Or.inl ⟨rfl, rfl, rfl⟩)))))]
  · rw [if_neg (show ¬ x = iI 0 from h _ _ (Or.inr (Or.inr (Or.inr (Or.inr ⟨rfl, rfl, rfl⟩)))))]
theorem g_of (x y : Int32) : Good (F_X8_of x y) (F_X9_of x y) := by
  intro μ hI
  obtain ⟨P, lot, e, hR, hD⟩ := hI.split
  have hn := hR.1.n7
  have hw := hD.2.2.2.1
  have hb := hw.1
  have f35 : ∀ {r}, F_X8_of_35 x y μ = r → (∀ k, k < 5 → y ≠ kI k) → F_X8_of x y μ = r := fun {r} h hy => by
    unfold F_X8_of
    rcases i32_cases y with q | ⟨k, k1, rfl⟩
    · rw [if_pos (by rw [iI_lit, neg_lt q (by omega)]; trivial)]; exact h
    · rw [if_neg (by rw [iI_lit, kI_lt (by omega) (by omega)]; omega), if_pos (by
        rw [iI_lit, kI_lt (by omega) (by omega)]
        rcases Nat.lt_or_ge k 5 with z | z
        · exact absurd rfl (hy k z)
        · omega)]
      exact h
  rcases per_cases 5 y with ⟨w, w5, rfl⟩ | hy
  · rcases kcases (pN P) x (kI w) with ⟨w', num, at9, hk, hw', rfl⟩ | hx
    · have := (kn_num hn hk).1
      rw [kI_eq (by omega) (by omega)] at hw'
      subst hw'
      refine Good.bad (v := kI (valP P w num)) hI ?_ (of9_yes hR.2.1 hk)
      unfold F_X8_of
      rw [if_neg (by rw [iI_lit, kI_lt (by omega) (by omega)]; omega), if_neg (by rw [iI_lit, kI_lt (by omega) (by omega)]; omega), bnd_eq (knows_yes hR.1 hk), if_neg (by rw [iI_lit, kI_eq (by omega) (by omega)]; omega), bnd_eq (value_eq hR.1 hk)]
    · refine Good.bad (v := iI (-1)) hI ?_ (of9_no hR.2.1 (by omega) (fun num at9 h => hx w num at9 h rfl))
      unfold F_X8_of
      rw [if_neg (by rw [iI_lit, kI_lt (by omega) (by omega)]; omega), if_neg (by rw [iI_lit, kI_lt (by omega) (by omega)]; omega), bnd_eq (knows_no hR.1 hx)]
      rfl
  · rcases per_cases 14 y with ⟨w, w14, rfl⟩ | hy14
    · by_cases w10 : w < 10
      · have hw5 : w = 5 ∨ w = 6 ∨ w = 7 ∨ w = 8 ∨ w = 9 := by
          rcases Nat.lt_or_ge w 5 with z | z
          · exact absurd rfl (hy w z)
          · omega
        refine Good.bad (v := iI (-1)) hI (f35 ?_ hy) ?_
        · unfold F_X8_of_35
          rcases per_cases (pN P) x with ⟨k, hk, rfl⟩ | hx
          · rw [bnd_eq (isOne_yes hR.1 hk), if_neg (by rw [iI_lit, kI_eq (by omega) (by omega)]; omega), tsw10_out (fun k hk => by rw [ne_eq, kI_eq (by omega) (by omega)]; omega)]
          · rw [bnd_eq (isOne_no hR.1 hx)]
            rfl
        · unfold F_X9_of
          rw [tsw0_at (by show w < 14; omega) (by omega)]
          rcases hw5 with rfl | rfl | rfl | rfl | rfl <;> rfl
      · rcases per_cases (pN P) x with ⟨k, hk, rfl⟩ | hx
        · have i1 := isOne_yes hR.1 hk
          have i2 := isPerson_yes hR.2.1 hk
          obtain ⟨z, z4, rfl⟩ : ∃ z, z < 4 ∧ w = 10 + z := ⟨w - 10, by omega, by omega⟩
          have cl : ∀ {r}, [rd 7 (kI k) fun j3 => some (gI μ 24 j3, μ), rd 7 (kI k) fun j4 => (if iI 0 ≤ gI μ 25 j4 then rd 7 (kI k) fun j5 => some (gI μ 25 j5, μ) else some (iI (-2), μ)), rd 7 (kI k) fun j6 => some (gI μ 27 j6, μ), (if kI k < gI μ 23 4 then some (iI 0, μ) else some (iI 1, μ))].getD z (some (iI (-1), μ)) = r → F_X8_of (kI k) (kI (10 + z)) μ = r := fun {r} h => f35 (by
            unfold F_X8_of_35
            rw [bnd_eq i1, if_neg (by rw [iI_lit, kI_eq (by omega) (by omega)]; omega), tsw10_at z4]
            exact h) hy
          have hz : z = 0 ∨ z = 1 ∨ z = 2 ∨ z = 3 := by omega
          have l1 := hD.2.1.1 k (by omega)
          have l2 := hD.2.2.2.2.2.1.2.2.2.2.2.2.2.2 k hk
          have h1 := hD.1.2.1.2.2 k (by omega)
          have t1 := hD.1.2.1.2.1 k (by omega)
          have t2 := hD.2.2.2.2.2.1.2.2.1 k hk
          have o1 := hD.1.2.2.1
          have o2 := hD.2.2.2.2.2.1.2.2.2.1
          have hh := hasIn_eq (x := 0) hR.2.1 hD.2.2.2.2.2.1 hw (p := k) (by omega)
          have hwn := hw.2.1
          have bt := bit_eq (μ := μ) hn hwn (show k < 8 by omega)
          rcases hz with rfl | rfl | rfl | rfl
          · refine Good.bad (v := kI (lot k)) hI (cl ?_) ?_
            · simp (disch := omega) only [List.getD_cons_zero, l1, iI_lit, kI_add, kI_mul, kI_eq, kI_lt, kI_le, kI_neg1, neg1_kI, neg1_lt0, neg1_0le, kO_none, kO_some, nm_eq, bnd_some, rz_0, rz_1, zb_0, zb_1, rd_kI, wrI_kI, wrL_kI, dvI_kI, rmI_kI, if_true, if_false, ite_true, ite_false, reduceIte, Nat.lt_irrefl, Nat.le_refl, not_true, not_false_iff, true_and, and_true, false_and, and_false, and_self, Bool.false_eq_true, eq_self, Decidable.not_not]
            · unfold F_X9_of
              rw [tsw0_at (by show _ < 14; omega) (by omega)]
              simp only [List.getD_cons_zero, List.getD_cons_succ]
              rw [bnd_eq i2]
              simp (disch := omega) only [l2, Nat.one_ne_zero, iI_lit, kI_add, kI_mul, kI_eq, kI_lt, kI_le, kI_neg1, neg1_kI, neg1_lt0, neg1_0le, kO_none, kO_some, nm_eq, bnd_some, rz_0, rz_1, zb_0, zb_1, rd_kI, wrI_kI, wrL_kI, dvI_kI, rmI_kI, if_true, if_false, ite_true, ite_false, reduceIte, Nat.lt_irrefl, Nat.le_refl, not_true, not_false_iff, true_and, and_true, false_and, and_false, and_self, Bool.false_eq_true, eq_self, Decidable.not_not]
          · refine Good.bad (v := cI (eH e k)) hI (cl ?_) ?_
            · simp only [List.getD_cons_zero, List.getD_cons_succ]
              rw [rd_kI (by omega) (by omega), rd_kI (by omega) (by omega), h1]
              cases hx : eH e k with
              | none => rfl
              | some j =>
                have := hb.2.2.2.1 k j hx
                simp (disch := omega) only [cI_some, Nat.zero_le, iI_lit, kI_add, kI_mul, kI_eq, kI_lt, kI_le, kI_neg1, neg1_kI, neg1_lt0, neg1_0le, kO_none, kO_some, nm_eq, bnd_some, rz_0, rz_1, zb_0, zb_1, rd_kI, wrI_kI, wrL_kI, dvI_kI, rmI_kI, if_true, if_false, ite_true, ite_false, reduceIte, Nat.lt_irrefl, Nat.le_refl, not_true, not_false_iff, true_and, and_true, false_and, and_false, and_self, Bool.false_eq_true, eq_self, Decidable.not_not]
            · unfold F_X9_of
              rw [tsw0_at (by show _ < 14; omega) (by omega)]
              simp only [List.getD_cons_zero, List.getD_cons_succ]
              rw [bnd_eq i2, if_neg (by rw [iI_lit, kI_eq (by omega) (by omega)]; omega), iI_lit, bnd_eq hh]
          · refine Good.bad (v := kI (eT e k)) hI (cl ?_) ?_
            · simp (disch := omega) only [List.getD_cons_zero, List.getD_cons_succ, t1, iI_lit, kI_add, kI_mul, kI_eq, kI_lt, kI_le, kI_neg1, neg1_kI, neg1_lt0, neg1_0le, kO_none, kO_some, nm_eq, bnd_some, rz_0, rz_1, zb_0, zb_1, rd_kI, wrI_kI, wrL_kI, dvI_kI, rmI_kI, if_true, if_false, ite_true, ite_false, reduceIte, Nat.lt_irrefl, Nat.le_refl, not_true, not_false_iff, true_and, and_true, false_and, and_false, and_self, Bool.false_eq_true, eq_self, Decidable.not_not]
            · have t2 : gI μ 119 k = kI (eT e k) := by rw [← t2]; congr 1; omega
              unfold F_X9_of
              rw [tsw0_at (by show _ < 14; omega) (by omega)]
              simp only [List.getD_cons_zero, List.getD_cons_succ]
              rw [bnd_eq i2]
              simp (disch := omega) only [t2, Nat.one_ne_zero, iI_lit, kI_add, kI_mul, kI_eq, kI_lt, kI_le, kI_neg1, neg1_kI, neg1_lt0, neg1_0le, kO_none, kO_some, nm_eq, bnd_some, rz_0, rz_1, zb_0, zb_1, rd_kI, wrI_kI, wrL_kI, dvI_kI, rmI_kI, if_true, if_false, ite_true, ite_false, reduceIte, Nat.lt_irrefl, Nat.le_refl, not_true, not_false_iff, true_and, and_true, false_and, and_false, and_self, Bool.false_eq_true, eq_self, Decidable.not_not]
          · refine Good.bad (v := kI (if eP e ≤ k ∧ k < pN P then 1 else 0)) hI (cl ?_) ?_
            · simp only [List.getD_cons_zero, List.getD_cons_succ]
              rw [o1]
              have := hb.1
              by_cases q : k < eP e
              · rw [if_pos (by rw [kI_lt (by omega) (by omega)]; exact q), if_neg (show ¬ (eP e ≤ k ∧ k < pN P) by omega)]; rfl
              · rw [if_neg (by rw [kI_lt (by omega) (by omega)]; exact q), if_pos (show eP e ≤ k ∧ k < pN P by omega)]; rfl
            · unfold F_X9_of
              rw [tsw0_at (by show _ < 14; omega) (by omega)]
              simp only [List.getD_cons_zero, List.getD_cons_succ]
              rw [bnd_eq i2, if_neg (by rw [iI_lit, kI_eq (by omega) (by omega)]; omega), iI_lit, rd_kI (by omega) (by omega), o2, bnd_eq bt]
        · refine Good.bad (v := iI (-1)) hI (f35 ?_ hy) ?_
          · unfold F_X8_of_35
            rw [bnd_eq (isOne_no hR.1 hx)]
            rfl
          · have i2 := isPerson_no hR.2.1 hx
            unfold F_X9_of
            rw [tsw0_at (by show _ < 14; omega) (by omega)]
            have hz : w = 10 ∨ w = 11 ∨ w = 12 ∨ w = 13 := by omega
            rcases hz with rfl | rfl | rfl | rfl
            all_goals (simp only [List.getD_cons_zero, List.getD_cons_succ]; rw [bnd_eq i2]; rfl)
    · refine Good.bad (v := iI (-1)) hI (f35 ?_ hy) ?_
      · unfold F_X8_of_35
        rcases per_cases (pN P) x with ⟨k, hk, rfl⟩ | hx
        · rw [bnd_eq (isOne_yes hR.1 hk), if_neg (by rw [iI_lit, kI_eq (by omega) (by omega)]; omega), tsw10_out (fun k hk => hy14 (10 + k) (by omega))]
        · rw [bnd_eq (isOne_no hR.1 hx)]
          rfl
      · unfold F_X9_of
        exact tsw0_out (fun k hk => hy14 k hk) (by show 14 < 1000; omega)
