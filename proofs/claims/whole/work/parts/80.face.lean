/-! FACE OF BOTH -/
/-- a party whose worths of a parcel are less by x -/
def faP (P : Pa) (k x : Nat) : Pa := (pN P, fun p j => if j = k ∧ p < pN P then pW P p j - x else pW P p j, pK P, pY P, pM P, pA P, pF P)
theorem faP_w {P : Pa} {k x p j : Nat} : pW (faP P k x) p j = if j = k ∧ p < pN P then pW P p j - x else pW P p j := rfl
theorem faP_0 {P : Pa} {k : Nat} : faP P k 0 = P := by
  have : (fun p j => if j = k ∧ p < pN P then pW P p j - 0 else pW P p j) = pW P := by
    funext p j
    split <;> rfl
  unfold faP
  rw [this]
  rfl
theorem faP_ok {P : Pa} {k x : Nat} (h : PaOk P) : PaOk (faP P k x) := by
  obtain ⟨h1, h2, h3⟩ := h
  refine ⟨h1, fun p j => ?_, h3⟩
  have := h2 p j
  rw [faP_w]
  split <;> omega
def C3 (a0 b k n : Nat) (a j : Nat) : Prop := a = a0 ∧ ∃ p, p < n ∧ j = b * p + k
theorem PC_fa {μ μ1 : Mm} {P : Pa} {k x y : Nat} (hk : k < 7) (hok : PaOk P) (h : PC μ (faP P k y)) (hf : FrC (C3 3 10 k (pN P)) μ μ1) (hv : ∀ p, p < pN P → gI μ1 3 (10 * p + k) = kI (pW P p k - x)) : PC μ1 (faP P k x) := by
  obtain ⟨⟨h1, h2, h3, h4, h5, h6⟩, hL, -⟩ := h
  have hn : pN P ≤ 7 := hok.1
  have q : ∀ a j, a ≠ 3 → gI μ1 a j = gI μ a j := fun a j z => hf.1 a j (fun y => z y.1)
  refine ⟨⟨?_, fun p j hp hj => ?_, fun p j hp hj => ?_, fun p hp => ?_, ?_, ?_⟩, ?_, faP_ok hok⟩
  · rw [q 2 0 (by omega)]; exact h1
  · rw [faP_w]
    by_cases z : j = k ∧ p < pN P
    · rw [if_pos z, z.1]; exact hv p z.2
    · rw [if_neg z, hf.1 3 (10 * p + j) (fun w => by
        obtain ⟨_, p', w1, w2⟩ := w
        exact z (by omega)), h2 p j hp hj, faP_w, if_neg z]
  · rw [q 4 _ (by omega)]; exact h3 p j hp hj
  · rw [q 5 _ (by omega)]; exact h4 p hp
  · rw [q 2 4 (by omega)]; exact h5
  · rw [q 2 5 (by omega)]; exact h6
  · obtain ⟨lp, l1, l2, l3⟩ := hL
    refine ⟨lp, l1, by rw [hf.2.2]; exact l2, fun μ' e => l3 μ' (fun a ha j => ?_)⟩
    rw [e a ha j, q a j (by omega)]
theorem PR_fa {μ μ1 : Mm} {P : Pa} {k x y : Nat} (hk : k < 7) (hok : PaOk P) (h : PR μ (faP P k y)) (hf : FrC (C3 114 7 k (pN P)) μ μ1) (hv : ∀ p, p < pN P → gI μ1 114 (7 * p + k) = kI (pW P p k - x)) : PR μ1 (faP P k x) := by
  obtain ⟨⟨h1, h2, h3, h4, h5, h6⟩, hL, -⟩ := h
  have hn : pN P ≤ 7 := hok.1
  have q : ∀ a j, a ≠ 114 → gI μ1 a j = gI μ a j := fun a j z => hf.1 a j (fun y => z y.1)
  refine ⟨⟨?_, fun p j hp hj => ?_, fun p j hp hj => ?_, fun p hp => ?_, ?_, ?_⟩, ?_, faP_ok hok⟩
  · rw [q 113 1 (by omega)]; exact h1
  · rw [faP_w]
    by_cases z : j = k ∧ p < pN P
    · rw [if_pos z, z.1]; exact hv p z.2
    · rw [if_neg z, hf.1 114 (7 * p + j) (fun w => by
        obtain ⟨_, p', w1, w2⟩ := w
        exact z (by omega)), h2 p j hp hj, faP_w, if_neg z]
  · rw [q 115 _ (by omega)]; exact h3 p j hp hj
  · rw [q 116 _ (by omega)]; exact h4 p hp
  · rw [q 113 5 (by omega)]; exact h5
  · rw [q 113 6 (by omega)]; exact h6
  · rcases hL with ⟨l1, l2⟩ | ⟨l1, l2⟩
    · exact Or.inl ⟨by rw [q 113 39 (by omega)]; exact l1, l2⟩
    · refine Or.inr ⟨by rw [q 113 39 (by omega)]; exact l1, fun μ' e => l2 μ' (fun a j z => ?_)⟩
      rw [e a j z, q a j (by omega)]
theorem mx_sub {a b : Nat} (ha : a < 1000) (hb : b < 1000) : mxI (kI a - kI b) (iI 0) = kI (a - b) := by
  unfold mxI
  by_cases z : b ≤ a
  · rw [kI_sub z, if_neg (by rw [iI_lit, kI_lt (by omega) (by omega)]; omega)]
  · rw [kI_iI, kI_iI, iI_sub2, if_pos (by rw [iI_lt2 (by omega) (by omega)]; omega), show a - b = 0 by omega]
    rfl
theorem lessen_loop {P : Pa} {k x : Nat} (hk : k < 7) (hok : PaOk P) (hx : x ≤ 99) : ∀ c i f (μ : Mm), i + c = pN P → c < f → gI μ 2 0 = kI (pN P) → (∀ p, p < pN P → gI μ 47 p = kI (pW P p k)) → (∀ p, p < i → gI μ 3 (10 * p + k) = kI (pW P p k - x)) → ∃ μ', F_X7_lessen_2 f (kI k) (kI x) (kI i) μ = some ((), μ') ∧ FrC (C3 3 10 k (pN P)) μ μ' ∧ ∀ p, p < pN P → gI μ' 3 (10 * p + k) = kI (pW P p k - x) := by
  have hn : pN P ≤ 7 := hok.1
  intro c
  induction c with
  | zero =>
    intro i f μ hi hf h1 h2 h3
    obtain ⟨f, rfl⟩ : ∃ g, f = g + 1 := ⟨f - 1, by omega⟩
    refine ⟨μ, ?_, FrC.refl, fun p hp => h3 p (by omega)⟩
    rw [F_X7_lessen_2, h1, if_pos (by rw [kI_le (by omega) (by omega)]; omega)]
  | succ c ih =>
    intro i f μ hi hf h1 h2 h3
    obtain ⟨f, rfl⟩ : ∃ g, f = g + 1 := ⟨f - 1, by omega⟩
    have b1 := hok.2.1 i k
    have fp : FrC (C3 3 10 k (pN P)) μ (pI μ 3 (10 * i + k) (kI (pW P i k - x))) := FrC.refl.put ⟨rfl, i, by omega, rfl⟩
    obtain ⟨μ', i1, i2, i3⟩ := ih (i + 1) f (pI μ 3 (10 * i + k) (kI (pW P i k - x))) (by omega) (by omega) (by rw [fp.1 2 0 (fun q => by have := q.1; omega)]; exact h1) (fun p hp => by rw [fp.1 47 p (fun q => by have := q.1; omega)]; exact h2 p hp) (fun p hp => by
      rw [gI_pI]
      by_cases z : p = i
      · rw [if_pos ⟨rfl, by omega⟩, z]
      · rw [if_neg (by omega)]; exact h3 p (by omega))
    refine ⟨μ', ?_, fp.trans i2, i3⟩
    rw [F_X7_lessen_2, h1, if_neg (by rw [kI_le (by omega) (by omega)]; omega), rd_kI (by omega) (by omega), iI_lit, kI_mul, kI_add, wrI_kI (by omega) (by omega), h2 i (by omega), mx_sub (by omega) (by omega), nm_eq, iI_lit, kI_add, i1]
theorem lessen_eq {μ : Mm} {P : Pa} {k x y : Nat} (hk : k < 7) (hok : PaOk P) (hx : x ≤ 99) (h : PC μ (faP P k y)) (h2 : ∀ p, p < pN P → gI μ 47 p = kI (pW P p k)) : ∃ μ', F_X7_lessen (kI k) (kI x) μ = some ((), μ') ∧ FrC (C3 3 10 k (pN P)) μ μ' ∧ PC μ' (faP P k x) := by
  have hn : pN P ≤ 7 := hok.1
  obtain ⟨μ', i1, i2, i3⟩ := lessen_loop hk hok hx (pN P) 0 FU μ (by omega) (by unfold FU; omega) h.n h2 (fun p hp => absurd hp (by omega))
  exact ⟨μ', i1, i2, PC_fa hk hok h i2 i3⟩
theorem ev_wg {P : Pa} {lot : Nat → Nat} (h : 0 < pN P) (w g w' g' : Int32) : evE P lot w g = evE P lot w' g' := by
  have hs : ∀ p, stE P (wrE w g (kI 0)) p = stE P (wrE w' g' (kI 0)) p := fun p => rfl
  have hc : ∀ w g, cu P lot (wrE w g (kI 0)) = some (lot 0) := fun w g => if_pos h
  have hp : ∀ w g, plE P lot (pN P) 28 (wrE w g (kI 0)) = ((plE P lot (pN P) 27 (stE P (wrE w g (kI 0)) (lot 0))).1, (plE P lot (pN P) 27 (stE P (wrE w g (kI 0)) (lot 0))).2 + 1) := by
    intro w g
    have h0 : ¬ pN P ≤ eP (wrE w g (kI 0)) := by show ¬ pN P ≤ 0; omega
    rw [show (28 : Nat) = 27 + 1 from rfl, plE, if_neg h0, hc]
  unfold evE
  rw [hp w g, hp w' g', hs (lot 0)]
/-- how often a parcel is taken with worths less by x -/
def faF (P : Pa) (lot : Nat → Nat) (k x : Nat) : Nat := eT (evE (faP P k x) lot (kI 0) (kI 0)) k
def fa (F : Nat → Nat) : Nat → Nat → Option Nat
  | 0, _ => none
  | c + 1, x => if F x = 0 then some x else fa F c (x + 1)
/-- cells that the class's faces touch -/
def C38 (a j : Nat) : Prop := CT a j ∨ a = 3
theorem m2_ne {x : Nat} (hx : x < 1000) : ¬ kI x = iI (-2) := by rw [kI_iI, iI_eq (by omega) (by omega)]; omega
theorem face8_end {μ : Mm} {P : Pa} {k y : Nat} {v : Int32} (hk : k < 7) (hok : PaOk P) (h : PC μ (faP P k y)) (h2 : ∀ p, p < pN P → gI μ 47 p = kI (pW P p k)) : ∃ μ', F_X7_leastFace_87 24 (kI k) v μ = some (v, μ') ∧ PC μ' P ∧ FrC C38 μ μ' := by
  obtain ⟨μ', i1, i2, i3⟩ := lessen_eq (x := 0) hk hok (by omega) h h2
  rw [faP_0] at i3
  refine ⟨μ', ?_, i3, i2.mono fun a j q => Or.inr q.1⟩
  unfold F_X7_leastFace_87
  rw [iI_lit, bnd_eq i1]
theorem face8_loop {P : Pa} {lot : Nat → Nat} {k : Nat} (hk : k < pN P) (hok : PaOk P) (hl : LotOk (pN P) P lot) : ∀ c x y f (μ : Mm), x + c = 100 → c + 1 < f → PC μ (faP P k y) → (∀ p, p < pN P → gI μ 47 p = kI (pW P p k)) → (∀ j, j < 7 → gI μ 24 j = kI (lot j)) → (∀ j, j < 7 → lot j < 4294967296) → ∃ μ', F_X7_leastFace_45 24 f (kI k) (iI (-2)) (kI x) μ = some (cI (fa (faF P lot k) c x), μ') ∧ PC μ' P ∧ FrC C38 μ μ' := by
  have hn : pN P ≤ 7 := hok.1
  intro c
  induction c with
  | zero =>
    intro x y f μ hx hf h h2 hlt hl7
    obtain ⟨f, rfl⟩ : ∃ g, f = g + 1 := ⟨f - 1, by omega⟩
    obtain ⟨μ', i1, i2, i3⟩ := face8_end (v := iI (-2)) (by omega) hok h h2
    refine ⟨μ', ?_, i2, i3⟩
    rw [F_X7_leastFace_45, if_pos (by rw [iI_lit, kI_lt (by omega) (by omega)]; omega), i1]
    rfl
  | succ c ih =>
    intro x y f μ hx hf h h2 hlt hl7
    obtain ⟨f, rfl⟩ : ∃ g, f = g + 1 := ⟨f - 1, by omega⟩
    obtain ⟨m2, a1, a2, a3⟩ := lessen_eq (x := x) (by omega) hok (by omega) h h2
    have hlQ : LotOk (pN (faP P k x)) (faP P k x) lot := hl
    obtain ⟨_, m4, b1, rfl, ⟨w, g, b2⟩, b3⟩ := eveningBy_eq a3 (r := 24) sh24 (by omega) (fun j hj => by rw [a2.1 24 j (fun q => by have := q.1; omega)]; exact hlt j hj) hl7 hlQ
    have b4 : PC m4 (faP P k x) := a3.fr b3 (fun a q => by unfold SA SL at q; omega)
    have hT : gI m4 (50 + 4) k = kI (faF P lot k x) := by
      rw [b2.2.1.2.1 k (by omega), ev_wg (show 0 < pN (faP P k x) by show 0 < pN P; omega) w g (kI 0) (kI 0)]
      rfl
    have hTb : faF P lot k x ≤ 3 := (ev_ok (faP_ok hok) hlQ (kI 0) (kI 0)).1.1.2.1 k
    have f24 : FrC C38 μ m4 := (a2.mono fun a j q => Or.inr q.1).trans (b3.c.mono fun a j q => Or.inl (by unfold SA at q; unfold CT SL at *; omega))
    have h47 : ∀ p, p < pN P → gI m4 47 p = kI (pW P p k) := fun p hp => by
      rw [b3.1 47 (by unfold SA SL; omega), a2.1 47 p (fun q => by have := q.1; omega)]
      exact h2 p hp
    have h24 : ∀ j, j < 7 → gI m4 24 j = kI (lot j) := fun j hj => by
      rw [b3.1 24 (by unfold SA SL; omega), a2.1 24 j (fun q => by have := q.1; omega)]
      exact hlt j hj
    by_cases z : faF P lot k x = 0
    · obtain ⟨f, rfl⟩ : ∃ g, f = g + 1 := ⟨f - 1, by omega⟩
      obtain ⟨μ', i1, i2, i3⟩ := face8_end (v := kI x) (by omega) hok b4 h47
      refine ⟨μ', ?_, i2, f24.trans i3⟩
      have e1 : F_X7_leastFace_45 24 (f + 1) (kI k) (kI x) (kI (x + 1)) m4 = some (kI x, μ') := by
        rw [F_X7_leastFace_45]
        by_cases z2 : 99 < x + 1
        · rw [if_pos (by rw [iI_lit, kI_lt (by omega) (by omega)]; exact z2), i1]
        · rw [if_neg (by rw [iI_lit, kI_lt (by omega) (by omega)]; exact z2), if_neg (m2_ne (by omega)), i1]
      rw [F_X7_leastFace_45, if_neg (by rw [iI_lit, kI_lt (by omega) (by omega)]; omega), if_pos rfl, bnd_eq a1, bnd_eq b1, gdS_yes sh50, rd_kI (by omega) (by omega), hT, z, if_pos k0_eq0, F_X7_leastFace_81, nm_eq, iI_lit, kI_add, e1]
      show _ = some (cI (if faF P lot k x = 0 then some x else _), μ')
      rw [if_pos z]
      rfl
    · obtain ⟨μ', i1, i2, i3⟩ := ih (x + 1) x f m4 (by omega) (by omega) b4 h47 h24 hl7
      refine ⟨μ', ?_, i2, f24.trans i3⟩
      rw [F_X7_leastFace_45, if_neg (by rw [iI_lit, kI_lt (by omega) (by omega)]; omega), if_pos rfl, bnd_eq a1, bnd_eq b1, gdS_yes sh50, rd_kI (by omega) (by omega), hT, if_neg (by rw [iI_lit, kI_eq (by omega) (by omega)]; exact z), F_X7_leastFace_81, nm_eq, iI_lit, kI_add, i1]
      show _ = some (cI (if faF P lot k x = 0 then some x else _), μ')
      rw [if_neg z]
theorem face8_keep {P : Pa} {k : Nat} (hk : k < pN P) : ∀ c i f (μ : Mm), PC μ P → i + c = pN P → c < f → (∀ p, p < i → gI μ 47 p = kI (pW P p k)) → ∃ μ', F_X7_leastFace_2 24 f (kI k) (kI i) μ = F_X7_leastFace_45 24 FU (kI k) (iI (-2)) (kI 0) μ' ∧ (∀ p, p < pN P → gI μ' 47 p = kI (pW P p k)) ∧ Fr (fun a => a = 47) μ μ' := by
  intro c
  induction c with
  | zero =>
    intro i f μ hP hi hf h
    have hn := hP.n7
    obtain ⟨f, rfl⟩ : ∃ g, f = g + 1 := ⟨f - 1, by omega⟩
    refine ⟨μ, ?_, fun p hp => h p (by omega), Fr.refl⟩
    rw [F_X7_leastFace_2, hP.n, if_pos (by rw [kI_le (by omega) (by omega)]; omega)]
    rfl
  | succ c ih =>
    intro i f μ hP hi hf h
    have hn := hP.n7
    obtain ⟨f, rfl⟩ : ∃ g, f = g + 1 := ⟨f - 1, by omega⟩
    have e3 := hP.w (p := i) (k := k) (by omega) (by omega)
    have fp : Fr (fun a => a = 47) μ (pI μ 47 i (kI (pW P i k))) := Fr.refl.put rfl
    obtain ⟨μ', i1, i2, i3⟩ := ih (i + 1) f (pI μ 47 i (kI (pW P i k))) (hP.fr fp (fun a q => by omega)) (by omega) (by omega) (fun p hp => by
      rw [gI_pI]
      by_cases z : p = i
      · rw [if_pos ⟨rfl, z⟩, z]
      · rw [if_neg (by omega)]; exact h p (by omega))
    refine ⟨μ', ?_, i2, fp.trans i3⟩
    rw [F_X7_leastFace_2, hP.n, if_neg (by rw [kI_le (by omega) (by omega)]; omega), iI_lit, kI_mul, kI_add, rd_kI (by omega) (by omega), wrI_kI (by omega) (by omega), e3, nm_eq, iI_lit, kI_add, i1]
/-- cells that the reference's faces touch -/
def C114 (a j : Nat) : Prop := CX9 1 a j ∨ a = 114 ∨ a = 144
theorem face9_lay {P : Pa} {k : Nat} {v : Int32} (hk : k < 7) (hok : PaOk P) : ∀ c i f (μ : Mm), i + c = pN P → c < f → gI μ 113 1 = kI (pN P) → (∀ p, p < pN P → gI μ 144 p = kI (pW P p k)) → (∀ p, p < i → gI μ 114 (7 * p + k) = kI (pW P p k)) → ∃ μ', F_X9_face_138 f (kI k) v (kI i) μ = some (v, μ') ∧ FrC (C3 114 7 k (pN P)) μ μ' ∧ ∀ p, p < pN P → gI μ' 114 (7 * p + k) = kI (pW P p k) := by
  have hn : pN P ≤ 7 := hok.1
  intro c
  induction c with
  | zero =>
    intro i f μ hi hf en h2 h3
    obtain ⟨f, rfl⟩ : ∃ g, f = g + 1 := ⟨f - 1, by omega⟩
    refine ⟨μ, ?_, FrC.refl, fun p hp => h3 p (by omega)⟩
    rw [F_X9_face_138, en, if_pos (by rw [kI_le (by omega) (by omega)]; omega)]
  | succ c ih =>
    intro i f μ hi hf en h2 h3
    obtain ⟨f, rfl⟩ : ∃ g, f = g + 1 := ⟨f - 1, by omega⟩
    have fp : FrC (C3 114 7 k (pN P)) μ (pI μ 114 (7 * i + k) (kI (pW P i k))) := FrC.refl.put ⟨rfl, i, by omega, rfl⟩
    obtain ⟨μ', i1, i2, i3⟩ := ih (i + 1) f (pI μ 114 (7 * i + k) (kI (pW P i k))) (by omega) (by omega) (by rw [fp.1 113 1 (fun q => by have := q.1; omega)]; exact en) (fun p hp => by rw [fp.1 144 p (fun q => by have := q.1; omega)]; exact h2 p hp) (fun p hp => by
      rw [gI_pI]
      by_cases z : p = i
      · rw [if_pos ⟨rfl, by omega⟩, z]
      · rw [if_neg (by omega)]; exact h3 p (by omega))
    refine ⟨μ', ?_, fp.trans i2, i3⟩
    rw [F_X9_face_138, en, if_neg (by rw [kI_le (by omega) (by omega)]; omega), rd_kI (by omega) (by omega), h2 i (by omega), iI_lit, kI_mul, kI_add, wrI_kI (by omega) (by omega), nm_eq, iI_lit, kI_add, i1]
theorem face9_end {μ : Mm} {P : Pa} {k y : Nat} {v : Int32} (hk : k < 7) (hok : PaOk P) (h : PR μ (faP P k y)) (h2 : ∀ p, p < pN P → gI μ 144 p = kI (pW P p k)) : ∃ μ', F_X9_face_136 (kI k) v μ = some (v, μ') ∧ PR μ' P ∧ FrC C114 μ μ' := by
  have hn : pN P ≤ 7 := hok.1
  obtain ⟨μ', i1, i2, i3⟩ := face9_lay (v := v) hk hok (pN P) 0 FU μ (by omega) (by unfold FU; omega) h.n h2 (fun p hp => absurd hp (by omega))
  have := PR_fa (x := 0) hk hok h i2 i3
  rw [faP_0] at this
  refine ⟨μ', ?_, this, i2.mono fun a j q => Or.inr (Or.inl q.1)⟩
  unfold F_X9_face_136
  rw [iI_lit, i1]
theorem face9_less {P : Pa} {k x : Nat} {a2 : Int32} {k48 : Int32 → Int32 → Int32 → Mm → Option (Int32 × Mm)} (hk : k < 7) (hok : PaOk P) (hx : x ≤ 99) : ∀ c i f (μ : Mm), i + c = pN P → c < f → gI μ 113 1 = kI (pN P) → (∀ p, p < pN P → gI μ 144 p = kI (pW P p k)) → (∀ p, p < i → gI μ 114 (7 * p + k) = kI (pW P p k - x)) → ∃ μ', F_X9_face_61 k48 f (kI k) a2 (kI x) (kI i) μ = F_X9_face_61 k48 (f - c) (kI k) a2 (kI x) (kI (pN P)) μ' ∧ FrC (C3 114 7 k (pN P)) μ μ' ∧ ∀ p, p < pN P → gI μ' 114 (7 * p + k) = kI (pW P p k - x) := by
  have hn : pN P ≤ 7 := hok.1
  intro c
  induction c with
  | zero =>
    intro i f μ hi hf en h2 h3
    have e : i = pN P := by omega
    subst e
    exact ⟨μ, rfl, FrC.refl, h3⟩
  | succ c ih =>
    intro i f μ hi hf en h2 h3
    obtain ⟨f, rfl⟩ : ∃ g, f = g + 1 := ⟨f - 1, by omega⟩
    have b1 := hok.2.1 i k
    have fp : FrC (C3 114 7 k (pN P)) μ (pI μ 114 (7 * i + k) (kI (pW P i k - x))) := FrC.refl.put ⟨rfl, i, by omega, rfl⟩
    obtain ⟨μ', i1, i2, i3⟩ := ih (i + 1) f (pI μ 114 (7 * i + k) (kI (pW P i k - x))) (by omega) (by omega) (by rw [fp.1 113 1 (fun q => by have := q.1; omega)]; exact en) (fun p hp => by rw [fp.1 144 p (fun q => by have := q.1; omega)]; exact h2 p hp) (fun p hp => by
      rw [gI_pI]
      by_cases z : p = i
      · rw [if_pos ⟨rfl, by omega⟩, z]
      · rw [if_neg (by omega)]; exact h3 p (by omega))
    refine ⟨μ', ?_, fp.trans i2, i3⟩
    rw [Nat.add_sub_add_right, ← i1]
    have step : ∀ v, v = kI (pW P i k - x) → F_X9_face_105 k48 (F_X9_face_61 k48 f) (kI k) a2 (kI x) (kI i) v (((iI 7) * kI i) + kI k) μ = F_X9_face_61 k48 f (kI k) a2 (kI x) (kI (i + 1)) (pI μ 114 (7 * i + k) (kI (pW P i k - x))) := by
      intro v hv
      unfold F_X9_face_105
      rw [hv, iI_lit, kI_mul, kI_add, wrI_kI (by omega) (by omega), nm_eq, iI_lit, kI_add]
    rw [F_X9_face_61, en, if_neg (by rw [kI_le (by omega) (by omega)]; omega), rd_kI (by omega) (by omega), h2 i (by omega)]
    by_cases z : pW P i k ≤ x
    · rw [if_pos (by rw [kI_le (by omega) (by omega)]; exact z), step _ (by rw [show pW P i k - x = 0 by omega]; rfl)]
    · rw [if_neg (by rw [kI_le (by omega) (by omega)]; exact z), rd_kI (by omega) (by omega), h2 i (by omega), step _ (kI_sub (by omega))]
theorem face9_loop {P : Pa} {lot : Nat → Nat} {k : Nat} (hk : k < pN P) (hok : PaOk P) (hl : LotOk (pN P) P lot) : ∀ c x y f (μ : Mm), x + c = 100 → c + 1 < f → PR μ (faP P k y) → (∀ p, p < pN P → gI μ 144 p = kI (pW P p k)) → (∀ j, j < pN P → gI μ 117 j = kI (lot j)) → ∃ μ', F_X9_face_48 f (kI k) (iI (-2)) (kI x) μ = some (cI (fa (faF P lot k) c x), μ') ∧ PR μ' P ∧ FrC C114 μ μ' := by
  have hn : pN P ≤ 7 := hok.1
  have hm2 : ¬ iI 0 ≤ iI (-2) := by rw [iI_le2 (by omega) (by omega)]; omega
  intro c
  induction c with
  | zero =>
    intro x y f μ hx hf h h2 hlt
    obtain ⟨f, rfl⟩ : ∃ g, f = g + 1 := ⟨f - 1, by omega⟩
    obtain ⟨μ', i1, i2, i3⟩ := face9_end (v := iI (-2)) (by omega) hok h h2
    refine ⟨μ', ?_, i2, i3⟩
    rw [F_X9_face_48, if_pos (by rw [iI_lit, kI_lt (by omega) (by omega)]; omega), i1]
    rfl
  | succ c ih =>
    intro x y f μ hx hf h h2 hlt
    obtain ⟨f, rfl⟩ : ∃ g, f = g + 1 := ⟨f - 1, by omega⟩
    obtain ⟨m2, a1, a2, a3⟩ := face9_less (x := x) (a2 := iI (-2)) (k48 := F_X9_face_48 f) (by omega) hok (by omega) (pN P) 0 FU μ (by omega) (by unfold FU; omega) h.n h2 (fun p hp => absurd hp (by omega))
    have hQ : PR m2 (faP P k x) := PR_fa (by omega) hok h a2 a3
    have hlQ : LotOk (pN (faP P k x)) (faP P k x) lot := hl
    obtain ⟨_, m4, b1, b2, b3⟩ := goEvening_eq hQ (fun j hj => by rw [a2.1 117 j (fun q => by have := q.1; omega)]; exact hlt j hj) hlQ (kI 0) (kI 0)
    have b4 : PR m4 (faP P k x) := hQ.cx b3
    have hT : gI m4 119 (7 + k) = kI (faF P lot k x) := b2.2.2.1 k hk
    have hTb : faF P lot k x ≤ 3 := (ev_ok (faP_ok hok) hlQ (kI 0) (kI 0)).1.1.2.1 k
    have f24 : FrC C114 μ m4 := (a2.mono fun a j q => Or.inr (Or.inl q.1)).trans (b3.mono fun a j q => Or.inl q)
    have h47 : ∀ p, p < pN P → gI m4 144 p = kI (pW P p k) := fun p hp => by
      rw [b3.1 144 p (by unfold CX9; omega), a2.1 144 p (fun q => by have := q.1; omega)]
      exact h2 p hp
    have h24 : ∀ j, j < pN P → gI m4 117 j = kI (lot j) := fun j hj => by
      rw [b3.1 117 j (by unfold CX9; omega), a2.1 117 j (fun q => by have := q.1; omega)]
      exact hlt j hj
    obtain ⟨f2, hf2⟩ : ∃ g, FU - pN P = g + 1 := ⟨FU - pN P - 1, by unfold FU; omega⟩
    have en2 : gI m2 113 1 = kI (pN P) := hQ.n
    rw [F_X9_face_48, if_neg (by rw [iI_lit, kI_lt (by omega) (by omega)]; omega), if_neg hm2, iI_lit, a1, hf2, F_X9_face_61, en2, if_pos (by rw [kI_le (by omega) (by omega)]; omega), bnd_eq b1, iI_lit, kI_add, rd_kI (by omega) (by omega), hT]
    by_cases z : faF P lot k x = 0
    · obtain ⟨f, rfl⟩ : ∃ g, f = g + 1 := ⟨f - 1, by omega⟩
      obtain ⟨μ', i1, i2, i3⟩ := face9_end (v := kI x) (by omega) hok b4 h47
      refine ⟨μ', ?_, i2, f24.trans i3⟩
      have e1 : F_X9_face_48 (f + 1) (kI k) (kI x) (kI (x + 1)) m4 = some (kI x, μ') := by
        rw [F_X9_face_48]
        by_cases z2 : 99 < x + 1
        · rw [if_pos (by rw [iI_lit, kI_lt (by omega) (by omega)]; exact z2), i1]
        · rw [if_neg (by rw [iI_lit, kI_lt (by omega) (by omega)]; exact z2), if_pos (by rw [iI_lit, kI_le (by omega) (by omega)]; omega), i1]
      rw [z, if_pos k0_eq0, F_X9_face_130, nm_eq, iI_lit, kI_add, e1]
      show _ = some (cI (if faF P lot k x = 0 then some x else _), μ')
      rw [if_pos z]
      rfl
    · obtain ⟨μ', i1, i2, i3⟩ := ih (x + 1) x f m4 (by omega) (by omega) b4 h47 h24
      refine ⟨μ', ?_, i2, f24.trans i3⟩
      rw [if_neg (by rw [iI_lit, kI_eq (by omega) (by omega)]; exact z), F_X9_face_130, nm_eq, iI_lit, kI_add, i1]
      show _ = some (cI (if faF P lot k x = 0 then some x else _), μ')
      rw [if_neg z]
theorem face9_keep {P : Pa} {k : Nat} (hk : k < pN P) : ∀ c i f (μ : Mm), PR μ P → i + c = pN P → c < f → (∀ p, p < i → gI μ 144 p = kI (pW P p k)) → ∃ μ', F_X9_face_12 f (kI k) (kI i) μ = F_X9_face_48 FU (kI k) (iI (-2)) (kI 0) μ' ∧ (∀ p, p < pN P → gI μ' 144 p = kI (pW P p k)) ∧ Fr (fun a => a = 144) μ μ' := by
  intro c
  induction c with
  | zero =>
    intro i f μ hP hi hf h
    have hn := hP.n7
    obtain ⟨f, rfl⟩ : ∃ g, f = g + 1 := ⟨f - 1, by omega⟩
    refine ⟨μ, ?_, fun p hp => h p (by omega), Fr.refl⟩
    rw [F_X9_face_12, hP.n, if_pos (by rw [kI_le (by omega) (by omega)]; omega)]
    rfl
  | succ c ih =>
    intro i f μ hP hi hf h
    have hn := hP.n7
    obtain ⟨f, rfl⟩ : ∃ g, f = g + 1 := ⟨f - 1, by omega⟩
    have e3 := hP.w (p := i) (k := k) (by omega) (by omega)
    have fp : Fr (fun a => a = 144) μ (pI μ 144 i (kI (pW P i k))) := Fr.refl.put rfl
    obtain ⟨μ', i1, i2, i3⟩ := ih (i + 1) f (pI μ 144 i (kI (pW P i k))) (hP.fr fp.c (fun a j q z => by unfold CP at z; omega)) (by omega) (by omega) (fun p hp => by
      rw [gI_pI]
      by_cases z : p = i
      · rw [if_pos ⟨rfl, z⟩, z]
      · rw [if_neg (by omega)]; exact h p (by omega))
    refine ⟨μ', ?_, i2, fp.trans i3⟩
    rw [F_X9_face_12, hP.n, if_neg (by rw [kI_le (by omega) (by omega)]; omega), iI_lit, kI_mul, kI_add, rd_kI (by omega) (by omega), wrI_kI (by omega) (by omega), e3, nm_eq, iI_lit, kI_add, i1]
/-- cells that faces and numbers touch -/
def CF (a j : Nat) : Prop := CT a j ∨ a = 3 ∨ a = 114 ∨ a = 117
theorem Rest.cf {μ μ1 : Mm} {P : Pa} (h : Rest μ P) (hf : FrC CF μ μ1) (hp : PC μ1 P) (hq : PR μ1 P) : Rest μ1 P := by
  obtain ⟨h1, h2, h4, h5, h6, h7, h8, h9⟩ := h
  refine ⟨hp, hq, h4.fr hf (fun a j z q => ?_), h5.fr hf (fun a j z q => ?_), h6.fr hf, h7.fr hf (fun a j z q => ?_), h8.fr hf (fun a j z q => ?_), h9.fr hf (fun a j z q => ?_)⟩
  all_goals (unfold CF CT SL CX9 at z)
  · unfold CChg at q; omega
  · unfold CTape at q; omega
  · unfold CImg at q; omega
  · unfold CBod at q; omega
  · unfold CShe at q; omega
theorem g_face (x : Int32) : Good (F_X8_face x) (F_X9_face x) := by
  intro μ hI
  obtain ⟨P, lot, e, hR, hD⟩ := hI.split
  have hn := hR.1.n7
  have hok := hR.1.ok
  rcases per_cases (pN P) x with ⟨k, hk, rfl⟩ | hx
  · obtain ⟨m1, a1, a2, a3⟩ := face8_keep hk (pN P) 0 FU μ hR.1 (by omega) (by unfold FU; omega) (fun p hp => absurd hp (by omega))
    have hP1 : PC m1 (faP P k 0) := by rw [faP_0]; exact hR.1.fr a3 (fun a q => by omega)
    obtain ⟨m2, b1, b2, b3⟩ := face8_loop hk hok hD.2.2.1 100 0 0 FU m1 (by omega) (by unfold FU; omega) hP1 a2 (fun j hj => by rw [a3.1 24 (by omega)]; exact hD.2.1.1 j hj) hD.2.1.2
    have f2 : FrC C38 μ m2 := (a3.c.mono fun a j q => Or.inl (by unfold CT; omega)).trans b3
    have hQ2 : PR m2 P := hR.2.1.fr f2 (fun a j q z => by unfold C38 CT SL CX9 at q; unfold CP at z; omega)
    have h117 : ∀ j, j < pN P → gI m2 117 j = kI (lot j) := fun j hj => by
      rw [f2.1 117 j (by unfold C38 CT SL CX9; omega)]
      exact hD.2.2.2.2.2.1.2.2.2.2.2.2.2.2 j hj
    obtain ⟨m3, c1, c2, c3⟩ := face9_keep hk (pN P) 0 FU m2 hQ2 (by omega) (by unfold FU; omega) (fun p hp => absurd hp (by omega))
    have hQ3 : PR m3 (faP P k 0) := by rw [faP_0]; exact hQ2.fr c3.c (fun a j q z => by unfold CP at z; omega)
    obtain ⟨m4, d1, d2, d3⟩ := face9_loop hk hok hD.2.2.1 100 0 0 FU m3 (by omega) (by unfold FU; omega) hQ3 c2 (fun j hj => by rw [c3.1 117 (by omega)]; exact h117 j hj)
    have f4 : FrC C114 m2 m4 := (c3.c.mono fun a j q => Or.inr (Or.inr q)).trans d3
    have hP4 : PC m4 P := b2.frC f4 (fun a j q z => by unfold C114 CX9 at q; unfold CPc at z; omega)
    have f : FrC CF μ m4 := (f2.mono fun a j q => q.elim Or.inl (fun z => Or.inr (Or.inl z))).trans (f4.mono fun a j q => by
      rcases q with q | q | q
      · exact Or.inl (Or.inr (Or.inr (Or.inl q)))
      · exact Or.inr (Or.inr (Or.inl q))
      · exact Or.inl (Or.inr (Or.inr (Or.inr (Or.inl (by omega))))))
    have hR4 := hR.cf f hP4 d2
    have hD4 : IDeed m4 P lot e := (hD.fr hn f2 (fun a j z => by unfold C38 CT SL CX9 at z; unfold CDeed; omega)).fr hn f4 (fun a j z => by unfold C114 CX9 at z; unfold CDeed; omega)
    refine ⟨cI (fa (faF P lot k) 100 0), m2, m4, ?_, ?_, Inv.join hR4 hD4⟩
    · unfold F_X8_face F_X7_leastFace
      rw [bnd_eq (isOne_yes hR.1 hk), if_neg k1_ne0, if_pos sh24, iI_lit, a1, bnd_eq b1]
    · unfold F_X9_face
      rw [bnd_eq (isPerson_yes hQ2 hk), if_neg k1_ne0, iI_lit, c1, d1]
  · refine Good.bad (v := iI (-1)) hI ?_ ?_
    · unfold F_X8_face
      rw [bnd_eq (isOne_no hR.1 hx), if_pos k0_eq0]
    · unfold F_X9_face
      rw [bnd_eq (isPerson_no hR.2.1 hx), if_pos k0_eq0]
