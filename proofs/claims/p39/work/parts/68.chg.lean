/-! CHANGES KEPT, UNDONE, DONE AGAIN -/
def shC (E : Nat → Chg) : Nat → Chg := fun i => E (i + 1)
theorem note20_eq {μ : Mm} {d : Nat} {E : Nat → Chg} {num w at9 b f : Nat} (hd : d < 40) (h1 : gI μ 11 4 = kI d) (hE : ∀ i, i < d → gI μ 12 i = kI (E i).1 ∧ gI μ 13 i = kI (E i).2.1 ∧ gI μ 14 i = kI (E i).2.2.2.1 ∧ gI μ 15 i = kI (E i).2.2.2.2) : Wp (F_X1_note_20 (kI num) (kI w) (kI b) (kI f) μ) fun _ μ' => CC μ' (d + 1) (d + 1) (up E d (num, w, at9, b, f)) ∧ FrC (fun a _ => 11 ≤ a ∧ a ≤ 15) μ μ' := by
  refine ⟨(), pI (pI (pI (pI (pI (pI μ 12 d (kI num)) 13 d (kI w)) 14 d (kI b)) 15 d (kI f)) 11 4 (kI (d + 1))) 11 5 (kI (d + 1)), ?_, ⟨?_, ?_, fun i hi => ?_⟩, ?_⟩
  · unfold F_X1_note_20
    simp (disch := omega) only [h1, gI_pI, show ¬ (11 : Nat) = 12 by omega, show ¬ (11 : Nat) = 13 by omega, show ¬ (11 : Nat) = 14 by omega, show ¬ (11 : Nat) = 15 by omega, iI_lit, kI_add, kI_mul, kI_eq, kI_lt, kI_le, kI_neg1, neg1_kI, neg1_lt0, neg1_0le, kO_none, kO_some, nm_eq, bnd_some, rz_0, rz_1, zb_0, zb_1, rd_kI, wrI_kI, wrL_kI, dvI_kI, rmI_kI, if_true, if_false, ite_true, ite_false, reduceIte, Nat.lt_irrefl, Nat.le_refl, not_true, not_false_iff, true_and, and_true, false_and, and_false, and_self, Bool.false_eq_true, eq_self, Decidable.not_not]
  · simp [gI_pI]
  · simp [gI_pI]
  · by_cases z : i = d
    · rw [z, up_at]; simp [gI_pI]
    · obtain ⟨e1, e2, e3, e4⟩ := hE i (by omega)
      rw [up_ne z]
      simp [gI_pI, z, e1, e2, e3, e4]
  · exact (((((FrC.put (C := fun a _ => 11 ≤ a ∧ a ≤ 15) FrC.refl (by omega)).put (by omega)).put (by omega)).put (by omega)).put (by omega)).put (by omega)
theorem forget_eq {μ : Mm} {a : Nat} {E : Nat → Chg} (h : CC μ 40 a E) (ha : a = 40) : Wp (F_X1_forgetOldest μ) fun _ μ' => gI μ' 11 4 = kI 39 ∧ (∀ i, i < 39 → gI μ' 12 i = kI (shC E i).1 ∧ gI μ' 13 i = kI (shC E i).2.1 ∧ gI μ' 14 i = kI (shC E i).2.2.2.1 ∧ gI μ' 15 i = kI (shC E i).2.2.2.2) ∧ FrC (fun a _ => 11 ≤ a ∧ a ≤ 15) μ μ' := by
  subst ha
  obtain ⟨h1, h2, h3⟩ := h
  unfold F_X1_forgetOldest
  simp only [iI_lit]
  refine wp_cp (by omega) (by omega) (by omega) (by omega) fun m1 p1 f1 => ?_
  refine wp_cp (by omega) (by omega) (by omega) (by omega) fun m2 p2 f2 => ?_
  refine wp_cp (by omega) (by omega) (by omega) (by omega) fun m3 p3 f3 => ?_
  refine wp_cp (by omega) (by omega) (by omega) (by omega) fun m4 p4 f4 => ?_
  rw [nm_eq]
  have f : FrC (fun a _ => 11 ≤ a ∧ a ≤ 15) μ m4 := ((((f1.mono (S' := fun a => 11 ≤ a ∧ a ≤ 15) (fun a q => by omega)).trans (f2.mono (fun a q => by omega))).trans (f3.mono (fun a q => by omega))).trans (f4.mono (fun a q => by omega))).c
  refine ⟨(), _, rfl, by simp [gI_pI], fun i hi => ?_, f.put (by omega)⟩
  obtain ⟨e1, e2, e3, e4⟩ := h3 (i + 1) (by omega)
  refine ⟨?_, ?_, ?_, ?_⟩
  · rw [gI_pI, if_neg (by omega), f4.1 12 (by omega), f3.1 12 (by omega), f2.1 12 (by omega), p1, if_pos (by omega), show 1 + (i - 0) = i + 1 by omega]; exact e1
  · rw [gI_pI, if_neg (by omega), f4.1 13 (by omega), f3.1 13 (by omega), p2, if_pos (by omega), f1.1 13 (by omega), show 1 + (i - 0) = i + 1 by omega]; exact e2
  · rw [gI_pI, if_neg (by omega), f4.1 14 (by omega), p3, if_pos (by omega), f2.1 14 (by omega), f1.1 14 (by omega), show 1 + (i - 0) = i + 1 by omega]; exact e3
  · rw [gI_pI, if_neg (by omega), p4, if_pos (by omega), f3.1 15 (by omega), f2.1 15 (by omega), f1.1 15 (by omega), show 1 + (i - 0) = i + 1 by omega]; exact e4
/-- behind a change -/
def nE (d : Nat) (E : Nat → Chg) : Nat → Chg := if d < 40 then E else shC E
def nD (d : Nat) : Nat := if d < 40 then d else 39
theorem note_eq {μ : Mm} {d a : Nat} {E : Nat → Chg} {num w at9 b f : Nat} (h : CC μ d a E) (hd : d ≤ a) (ha : a ≤ 40) (hb : b < 1000) (hf : f < 1000) (hbf : b ≠ f) : Wp (F_X1_note (kI num) (kI w) (kI b) (kI f) μ) fun _ μ' => CC μ' (nD d + 1) (nD d + 1) (up (nE d E) (nD d) (num, w, at9, b, f)) ∧ FrC (fun a _ => 11 ≤ a ∧ a ≤ 15) μ μ' := by
  unfold F_X1_note nD nE
  by_cases z : d < 40
  · obtain ⟨_, m1, a1, a2, a3⟩ := note20_eq (num := num) (w := w) (at9 := at9) (b := b) (f := f) z h.1 (fun i hi => h.2.2 i (by omega))
    rw [if_pos z, if_pos z]
    refine ⟨(), m1, ?_, a2, a3⟩
    simp (disch := omega) only [hbf, h.1, z, a1, iI_lit, kI_add, kI_mul, kI_eq, kI_lt, kI_le, kI_neg1, neg1_kI, neg1_lt0, neg1_0le, kO_none, kO_some, nm_eq, bnd_some, rz_0, rz_1, zb_0, zb_1, rd_kI, wrI_kI, wrL_kI, dvI_kI, rmI_kI, if_true, if_false, ite_true, ite_false, reduceIte, Nat.lt_irrefl, Nat.le_refl, not_true, not_false_iff, true_and, and_true, false_and, and_false, and_self, Bool.false_eq_true, eq_self, Decidable.not_not]
  · have hd40 : d = 40 := by omega
    subst hd40
    obtain ⟨_, m1, b1, b2, b3, b4⟩ := forget_eq h (by omega)
    obtain ⟨_, m2, a1, a2, a3⟩ := note20_eq (num := num) (w := w) (at9 := at9) (b := b) (f := f) (by omega) b2 b3
    rw [if_neg z, if_neg z]
    refine ⟨(), m2, ?_, a2, b4.trans a3⟩
    simp (disch := omega) only [hbf, h.1, z, b1, a1, iI_lit, kI_add, kI_mul, kI_eq, kI_lt, kI_le, kI_neg1, neg1_kI, neg1_lt0, neg1_0le, kO_none, kO_some, nm_eq, bnd_some, rz_0, rz_1, zb_0, zb_1, rd_kI, wrI_kI, wrL_kI, dvI_kI, rmI_kI, if_true, if_false, ite_true, ite_false, reduceIte, Nat.lt_irrefl, Nat.le_refl, not_true, not_false_iff, true_and, and_true, false_and, and_false, and_self, Bool.false_eq_true, eq_self, Decidable.not_not]
theorem note_same {μ : Mm} {x y : Int32} {b : Nat} : F_X1_note x y (kI b) (kI b) μ = some ((), μ) := by
  unfold F_X1_note
  rw [if_pos rfl]
theorem set_same {P : Pa} {w num at9 : Nat} (hk : Kn (pN P) w num at9) : setP P w num (valP P w num) = P := by
  have e2 : ∀ (f : Nat → Nat → Nat) (p k : Nat), u2N f p k (f p k) = f := fun f p k => funext fun x => funext fun y => by
    unfold u2N
    split
    · next q => rw [q.1, q.2]
    · rfl
  have e1 : ∀ (f : Nat → Nat) (p : Nat), up f p (f p) = f := fun f p => funext fun x => by
    unfold up
    split
    · next q => rw [q]
    · rfl
  rcases hk with ⟨rfl, -⟩ | ⟨rfl, -⟩ | ⟨rfl, -⟩ | ⟨rfl, -⟩ | ⟨rfl, -⟩
  · show (pN P, u2N (pW P) (num / 10) (num % 10) (pW P (num / 10) (num % 10)), pK P, pY P, pM P, pA P, pF P) = P
    rw [e2]; rfl
  · show (pN P, pW P, u2N (pK P) (num / 10) (num % 10) (pK P (num / 10) (num % 10)), pY P, pM P, pA P, pF P) = P
    rw [e2]; rfl
  · show (pN P, pW P, pK P, up (pY P) num (pY P num), pM P, pA P, pF P) = P
    rw [e1]; rfl
  · rfl
  · rfl
