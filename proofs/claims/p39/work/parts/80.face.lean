/-! FACE OF BOTH -/
/-- a party whose worths of a parcel are less by x -/
def faP (P : Pa) (k x : Nat) : Pa := (pN P, fun p j => if j = k ∧ p < pN P then pW P p j - x else pW P p j, pK P, pY P, pM P, pA P, pF P)
theorem faP_w {P : Pa} {k x p j : Nat} : pW (faP P k x) p j = if j = k ∧ p < pN P then pW P p j - x else pW P p j := rfl
theorem faP_0 {P : Pa} {k : Nat} : faP P k 0 = P := by
  have : (fun p j => if j = k ∧ p < pN P then pW P p j - 0 else pW P p j) = pW P := by
    funext p j
    split <;> rfl
  unfold faP
  rw [this]
  rfl
theorem faP_ok {P : Pa} {k x : Nat} (h : PaOk P) : PaOk (faP P k x) := by
  obtain ⟨h1, h2, h3⟩ := h
  refine ⟨h1, fun p j => ?_, h3⟩
  have := h2 p j
  rw [faP_w]
  split <;> omega
def C3 (a0 b k n : Nat) (a j : Nat) : Prop := a = a0 ∧ ∃ p, p < n ∧ j = b * p + k
theorem PC_fa {μ μ1 : Mm} {P : Pa} {k x y : Nat} (hk : k < 7) (hok : PaOk P) (h : PC μ (faP P k y)) (hf : FrC (C3 3 10 k (pN P)) μ μ1) (hv : ∀ p, p < pN P → gI μ1 3 (10 * p + k) = kI (pW P p k - x)) : PC μ1 (faP P k x) := by
  obtain ⟨⟨h1, h2, h3, h4, h5, h6⟩, hL, -⟩ := h
  have hn : pN P ≤ 7 := hok.1
  have q : ∀ a j, a ≠ 3 → gI μ1 a j = gI μ a j := fun a j z => hf.1 a j (fun y => z y.1)
  refine ⟨⟨?_, fun p j hp hj => ?_, fun p j hp hj => ?_, fun p hp => ?_, ?_, ?_⟩, ?_, faP_ok hok⟩
  · rw [q 2 0 (by omega)]; exact h1
  · rw [faP_w]
    by_cases z : j = k ∧ p < pN P
    · rw [if_pos z, z.1]; exact hv p z.2
    · rw [if_neg z, hf.1 3 (10 * p + j) (fun w => by
        obtain ⟨_, p', w1, w2⟩ := w
        exact z (by omega)), h2 p j hp hj, faP_w, if_neg z]
  · rw [q 4 _ (by omega)]; exact h3 p j hp hj
  · rw [q 5 _ (by omega)]; exact h4 p hp
  · rw [q 2 4 (by omega)]; exact h5
  · rw [q 2 5 (by omega)]; exact h6
  · obtain ⟨lp, l1, l2, l3⟩ := hL
    refine ⟨lp, l1, by rw [hf.2.2]; exact l2, fun μ' e => l3 μ' (fun a ha j => ?_)⟩
    rw [e a ha j, q a j (by omega)]
theorem mx_sub {a b : Nat} (ha : a < 1000) (hb : b < 1000) : mxI (kI a - kI b) (iI 0) = kI (a - b) := by
  unfold mxI
  by_cases z : b ≤ a
  · rw [kI_sub z, if_neg (by rw [iI_lit, kI_lt (by omega) (by omega)]; omega)]
  · rw [kI_iI, kI_iI, iI_sub2, if_pos (by rw [iI_lt2 (by omega) (by omega)]; omega), show a - b = 0 by omega]
    rfl
theorem lessen_loop {P : Pa} {k x : Nat} (hk : k < 7) (hok : PaOk P) (hx : x ≤ 99) : ∀ c i f (μ : Mm), i + c = pN P → c < f → gI μ 2 0 = kI (pN P) → (∀ p, p < pN P → gI μ 47 p = kI (pW P p k)) → (∀ p, p < i → gI μ 3 (10 * p + k) = kI (pW P p k - x)) → ∃ μ', F_X7_lessen_2 f (kI k) (kI x) (kI i) μ = some ((), μ') ∧ FrC (C3 3 10 k (pN P)) μ μ' ∧ ∀ p, p < pN P → gI μ' 3 (10 * p + k) = kI (pW P p k - x) := by
  have hn : pN P ≤ 7 := hok.1
  intro c
  induction c with
  | zero =>
    intro i f μ hi hf h1 h2 h3
    obtain ⟨f, rfl⟩ : ∃ g, f = g + 1 := ⟨f - 1, by omega⟩
    refine ⟨μ, ?_, FrC.refl, fun p hp => h3 p (by omega)⟩
    rw [F_X7_lessen_2, h1, if_pos (by rw [kI_le (by omega) (by omega)]; omega)]
  | succ c ih =>
    intro i f μ hi hf h1 h2 h3
    obtain ⟨f, rfl⟩ : ∃ g, f = g + 1 := ⟨f - 1, by omega⟩
    have b1 := hok.2.1 i k
    have fp : FrC (C3 3 10 k (pN P)) μ (pI μ 3 (10 * i + k) (kI (pW P i k - x))) := FrC.refl.put ⟨rfl, i, by omega, rfl⟩
    obtain ⟨μ', i1, i2, i3⟩ := ih (i + 1) f (pI μ 3 (10 * i + k) (kI (pW P i k - x))) (by omega) (by omega) (by rw [fp.1 2 0 (fun q => by have := q.1; omega)]; exact h1) (fun p hp => by rw [fp.1 47 p (fun q => by have := q.1; omega)]; exact h2 p hp) (fun p hp => by
      rw [gI_pI]
      by_cases z : p = i
      · rw [if_pos ⟨rfl, by omega⟩, z]
      · rw [if_neg (by omega)]; exact h3 p (by omega))
    refine ⟨μ', ?_, fp.trans i2, i3⟩
    rw [F_X7_lessen_2, h1, if_neg (by rw [kI_le (by omega) (by omega)]; omega), rd_kI (by omega) (by omega), iI_lit, kI_mul, kI_add, wrI_kI (by omega) (by omega), h2 i (by omega), mx_sub (by omega) (by omega), nm_eq, iI_lit, kI_add, i1]
theorem lessen_eq {μ : Mm} {P : Pa} {k x y : Nat} (hk : k < 7) (hok : PaOk P) (hx : x ≤ 99) (h : PC μ (faP P k y)) (h2 : ∀ p, p < pN P → gI μ 47 p = kI (pW P p k)) : ∃ μ', F_X7_lessen (kI k) (kI x) μ = some ((), μ') ∧ FrC (C3 3 10 k (pN P)) μ μ' ∧ PC μ' (faP P k x) := by
  have hn : pN P ≤ 7 := hok.1
  obtain ⟨μ', i1, i2, i3⟩ := lessen_loop hk hok hx (pN P) 0 FU μ (by omega) (by unfold FU; omega) h.n h2 (fun p hp => absurd hp (by omega))
  exact ⟨μ', i1, i2, PC_fa hk hok h i2 i3⟩
theorem ev_wg {P : Pa} {lot : Nat → Nat} (h : 0 < pN P) (w g w' g' : Int32) : evE P lot w g = evE P lot w' g' := by
  have hs : ∀ p, stE P (wrE w g (kI 0)) p = stE P (wrE w' g' (kI 0)) p := fun p => rfl
  have hc : ∀ w g, cu P lot (wrE w g (kI 0)) = some (lot 0) := fun w g => if_pos h
  have hp : ∀ w g, plE P lot (pN P) 28 (wrE w g (kI 0)) = ((plE P lot (pN P) 27 (stE P (wrE w g (kI 0)) (lot 0))).1, (plE P lot (pN P) 27 (stE P (wrE w g (kI 0)) (lot 0))).2 + 1) := by
    intro w g
    have h0 : ¬ pN P ≤ eP (wrE w g (kI 0)) := by show ¬ pN P ≤ 0; omega
    rw [show (28 : Nat) = 27 + 1 from rfl, plE, if_neg h0, hc]
  unfold evE
  rw [hp w g, hp w' g', hs (lot 0)]
/-- how often a parcel is taken with worths less by x -/
def faF (P : Pa) (lot : Nat → Nat) (k x : Nat) : Nat := eT (evE (faP P k x) lot (kI 0) (kI 0)) k
def fa (F : Nat → Nat) : Nat → Nat → Option Nat
  | 0, _ => none
  | c + 1, x => if F x = 0 then some x else fa F c (x + 1)
/-- cells that the class's faces touch -/
def C38 (a j : Nat) : Prop := CT a j ∨ a = 3
theorem m2_ne {x : Nat} (hx : x < 1000) : ¬ kI x = iI (-2) := by rw [kI_iI, iI_eq (by omega) (by omega)]; omega
theorem face8_end {μ : Mm} {P : Pa} {k y : Nat} {v : Int32} (hk : k < 7) (hok : PaOk P) (h : PC μ (faP P k y)) (h2 : ∀ p, p < pN P → gI μ 47 p = kI (pW P p k)) : ∃ μ', F_X7_leastFace_87 24 (kI k) v μ = some (v, μ') ∧ PC μ' P ∧ FrC C38 μ μ' := by
  obtain ⟨μ', i1, i2, i3⟩ := lessen_eq (x := 0) hk hok (by omega) h h2
  rw [faP_0] at i3
  refine ⟨μ', ?_, i3, i2.mono fun a j q => Or.inr q.1⟩
  unfold F_X7_leastFace_87
  rw [iI_lit, bnd_eq i1]
theorem face8_loop {P : Pa} {lot : Nat → Nat} {k : Nat} (hk : k < pN P) (hok : PaOk P) (hl : LotOk (pN P) P lot) : ∀ c x y f (μ : Mm), x + c = 100 → c + 1 < f → PC μ (faP P k y) → (∀ p, p < pN P → gI μ 47 p = kI (pW P p k)) → (∀ j, j < 7 → gI μ 24 j = kI (lot j)) → (∀ j, j < 7 → lot j < 4294967296) → ∃ μ', F_X7_leastFace_45 24 f (kI k) (iI (-2)) (kI x) μ = some (cI (fa (faF P lot k) c x), μ') ∧ PC μ' P ∧ FrC C38 μ μ' := by
  have hn : pN P ≤ 7 := hok.1
  intro c
  induction c with
  | zero =>
    intro x y f μ hx hf h h2 hlt hl7
    obtain ⟨f, rfl⟩ : ∃ g, f = g + 1 := ⟨f - 1, by omega⟩
    obtain ⟨μ', i1, i2, i3⟩ := face8_end (v := iI (-2)) (by omega) hok h h2
    refine ⟨μ', ?_, i2, i3⟩
    rw [F_X7_leastFace_45, if_pos (by rw [iI_lit, kI_lt (by omega) (by omega)]; omega), i1]
    rfl
  | succ c ih =>
    intro x y f μ hx hf h h2 hlt hl7
    obtain ⟨f, rfl⟩ : ∃ g, f = g + 1 := ⟨f - 1, by omega⟩
    obtain ⟨m2, a1, a2, a3⟩ := lessen_eq (x := x) (by omega) hok (by omega) h h2
    have hlQ : LotOk (pN (faP P k x)) (faP P k x) lot := hl
    obtain ⟨_, m4, b1, rfl, ⟨w, g, b2⟩, b3⟩ := eveningBy_eq a3 (r := 24) sh24 (by omega) (fun j hj => by rw [a2.1 24 j (fun q => by have := q.1; omega)]; exact hlt j hj) hl7 hlQ
    have b4 : PC m4 (faP P k x) := a3.fr b3 (fun a q => by unfold SA SL at q; omega)
    have hT : gI m4 (50 + 4) k = kI (faF P lot k x) := by
      rw [b2.2.1.2.1 k (by omega), ev_wg (show 0 < pN (faP P k x) by show 0 < pN P; omega) w g (kI 0) (kI 0)]
      rfl
    have hTb : faF P lot k x ≤ 3 := (ev_ok (faP_ok hok) hlQ (kI 0) (kI 0)).1.1.2.1 k
    have f24 : FrC C38 μ m4 := (a2.mono fun a j q => Or.inr q.1).trans (b3.c.mono fun a j q => Or.inl (by unfold SA at q; unfold CT SL at *; omega))
    have h47 : ∀ p, p < pN P → gI m4 47 p = kI (pW P p k) := fun p hp => by
      rw [b3.1 47 (by unfold SA SL; omega), a2.1 47 p (fun q => by have := q.1; omega)]
      exact h2 p hp
    have h24 : ∀ j, j < 7 → gI m4 24 j = kI (lot j) := fun j hj => by
      rw [b3.1 24 (by unfold SA SL; omega), a2.1 24 j (fun q => by have := q.1; omega)]
      exact hlt j hj
    by_cases z : faF P lot k x = 0
    · obtain ⟨f, rfl⟩ : ∃ g, f = g + 1 := ⟨f - 1, by omega⟩
      obtain ⟨μ', i1, i2, i3⟩ := face8_end (v := kI x) (by omega) hok b4 h47
      refine ⟨μ', ?_, i2, f24.trans i3⟩
      have e1 : F_X7_leastFace_45 24 (f + 1) (kI k) (kI x) (kI (x + 1)) m4 = some (kI x, μ') := by
        rw [F_X7_leastFace_45]
        by_cases z2 : 99 < x + 1
        · rw [if_pos (by rw [iI_lit, kI_lt (by omega) (by omega)]; exact z2), i1]
        · rw [if_neg (by rw [iI_lit, kI_lt (by omega) (by omega)]; exact z2), if_neg (m2_ne (by omega)), i1]
      rw [F_X7_leastFace_45, if_neg (by rw [iI_lit, kI_lt (by omega) (by omega)]; omega), if_pos rfl, bnd_eq a1, bnd_eq b1, gdS_yes sh50, rd_kI (by omega) (by omega), hT, z, if_pos k0_eq0, F_X7_leastFace_81, nm_eq, iI_lit, kI_add, e1]
      show _ = some (cI (if faF P lot k x = 0 then some x else _), μ')
      rw [if_pos z]
      rfl
    · obtain ⟨μ', i1, i2, i3⟩ := ih (x + 1) x f m4 (by omega) (by omega) b4 h47 h24 hl7
      refine ⟨μ', ?_, i2, f24.trans i3⟩
      rw [F_X7_leastFace_45, if_neg (by rw [iI_lit, kI_lt (by omega) (by omega)]; omega), if_pos rfl, bnd_eq a1, bnd_eq b1, gdS_yes sh50, rd_kI (by omega) (by omega), hT, if_neg (by rw [iI_lit, kI_eq (by omega) (by omega)]; exact z), F_X7_leastFace_81, nm_eq, iI_lit, kI_add, i1]
      show _ = some (cI (if faF P lot k x = 0 then some x else _), μ')
      rw [if_neg z]
theorem face8_keep {P : Pa} {k : Nat} (hk : k < pN P) : ∀ c i f (μ : Mm), PC μ P → i + c = pN P → c < f → (∀ p, p < i → gI μ 47 p = kI (pW P p k)) → ∃ μ', F_X7_leastFace_2 24 f (kI k) (kI i) μ = F_X7_leastFace_45 24 FU (kI k) (iI (-2)) (kI 0) μ' ∧ (∀ p, p < pN P → gI μ' 47 p = kI (pW P p k)) ∧ Fr (fun a => a = 47) μ μ' := by
  intro c
  induction c with
  | zero =>
    intro i f μ hP hi hf h
    have hn := hP.n7
    obtain ⟨f, rfl⟩ : ∃ g, f = g + 1 := ⟨f - 1, by omega⟩
    refine ⟨μ, ?_, fun p hp => h p (by omega), Fr.refl⟩
    rw [F_X7_leastFace_2, hP.n, if_pos (by rw [kI_le (by omega) (by omega)]; omega)]
    rfl
  | succ c ih =>
    intro i f μ hP hi hf h
    have hn := hP.n7
    obtain ⟨f, rfl⟩ : ∃ g, f = g + 1 := ⟨f - 1, by omega⟩
    have e3 := hP.w (p := i) (k := k) (by omega) (by omega)
    have fp : Fr (fun a => a = 47) μ (pI μ 47 i (kI (pW P i k))) := Fr.refl.put rfl
    obtain ⟨μ', i1, i2, i3⟩ := ih (i + 1) f (pI μ 47 i (kI (pW P i k))) (hP.fr fp (fun a q => by omega)) (by omega) (by omega) (fun p hp => by
      rw [gI_pI]
      by_cases z : p = i
      · rw [if_pos ⟨rfl, z⟩, z]
      · rw [if_neg (by omega)]; exact h p (by omega))
    refine ⟨μ', ?_, i2, fp.trans i3⟩
    rw [F_X7_leastFace_2, hP.n, if_neg (by rw [kI_le (by omega) (by omega)]; omega), iI_lit, kI_mul, kI_add, rd_kI (by omega) (by omega), wrI_kI (by omega) (by omega), e3, nm_eq, iI_lit, kI_add, i1]
/-- cells that the reference's faces touch -/
def C114 (a j : Nat) : Prop := CX9 1 a j ∨ a = 114 ∨ a = 144
/-- cells that faces and numbers touch -/
def CF (a j : Nat) : Prop := CT a j ∨ a = 3 ∨ a = 114 ∨ a = 117
