/-! PEOPLE OF BOTH -/
theorem iL_toInt {z : Int} (h1 : -9223372036854775808 ≤ z) (h2 : z < 9223372036854775808) : (iL z).toInt = z := Int64.toInt_ofInt_of_le (by omega) (by omega)
theorem toL (x : Int32) : x.toInt64 = iL x.toInt := by
  have h1 := x.toInt_lt
  have h2 := x.le_toInt
  apply Int64.toInt_inj.mp
  rw [Int32.toInt_toInt64, iL_toInt (by omega) (by omega)]
theorem iL_add (a b : Int) : iL a + iL b = iL (a + b) := by
  unfold iL
  rw [Int64.ofInt_add]
theorem iL_toI (z : Int) : (iL z).toInt32 = iI z := by
  unfold iL iI
  simp
theorem lgc_lt {x y : Int64} : (lg_cmp x y < iI 0) ↔ x < y := by
  unfold lg_cmp
  have e1 : ¬ ((1 : Int32) < iI 0) := by decide
  have e2 : ¬ ((0 : Int32) < iI 0) := by decide
  have e3 : ((-1 : Int32) < iI 0) := by decide
  by_cases h : x > y
  · rw [if_pos h]
    have : ¬ x < y := by
      rw [Int64.lt_iff_toInt_lt]; rw [gt_iff_lt, Int64.lt_iff_toInt_lt] at h; omega
    exact ⟨fun q => absurd q e1, fun q => absurd q this⟩
  · rw [if_neg h]
    by_cases k : x = y
    · rw [if_pos k]
      have : ¬ x < y := by rw [k, Int64.lt_iff_toInt_lt]; omega
      exact ⟨fun q => absurd q e2, fun q => absurd q this⟩
    · rw [if_neg k]
      refine ⟨fun _ => ?_, fun _ => e3⟩
      rw [gt_iff_lt, Int64.lt_iff_toInt_lt] at h
      rw [Int64.lt_iff_toInt_lt]
      have : x.toInt ≠ y.toInt := fun q => k (Int64.toInt_inj.mp q)
      omega
theorem lgc_ge {x y : Int64} : (iI 0 ≤ lg_cmp x y) ↔ ¬ x < y := by
  rw [← lgc_lt, Int32.le_iff_toInt_le, Int32.lt_iff_toInt_lt]
  omega
theorem iL_lt {a b : Int} (ha : -9223372036854775808 ≤ a ∧ a < 9223372036854775808) (hb : -9223372036854775808 ≤ b ∧ b < 9223372036854775808) : (iL a < iL b) ↔ a < b := by
  rw [Int64.lt_iff_toInt_lt, iL_toInt ha.1 ha.2, iL_toInt hb.1 hb.2]
/-- who come by a row: how many, and the party then -/
def ppl (el : Nat → Int32) (sz nn i0 : Nat) : Nat → Nat → Pa → (Nat → Nat) → Nat × Pa × (Nat → Nat)
  | 0, c, P, lot => (c, P, lot)
  | f + 1, c, P, lot => if c < nn ∧ pN P < 7 ∧ i0 + c < sz ∧ (el (i0 + c) = kI 0 ∨ el (i0 + c) = kI 1 ∨ el (i0 + c) = kI 2) then ppl el sz nn i0 f (c + 1) (addP P (el (i0 + c)).toInt.toNat) (addL P lot) else (c, P, lot)
theorem way_of {x : Int32} (h : x = kI 0 ∨ x = kI 1 ∨ x = kI 2) : x = kI x.toInt.toNat ∧ x.toInt.toNat ≤ 2 := by
  rcases h with rfl | rfl | rfl <;> rw [kI_toInt (by omega)] <;> exact ⟨rfl, by omega⟩
theorem way_no {x : Int32} (h : ¬ (x = kI 0 ∨ x = kI 1 ∨ x = kI 2)) : x.toInt < 0 ∨ ∃ k, k < 2147483648 ∧ x = kI k ∧ 2 < k := by
  rcases i32_cases x with q | ⟨k, k1, rfl⟩
  · exact Or.inl q
  · refine Or.inr ⟨k, k1, rfl, ?_⟩
    have : k ≠ 0 ∧ k ≠ 1 ∧ k ≠ 2 := ⟨fun z => h (by rw [z]; exact Or.inl rfl), fun z => h (by rw [z]; exact Or.inr (Or.inl rfl)), fun z => h (by rw [z]; exact Or.inr (Or.inr rfl))⟩
    omega
theorem people8_loop {s sz nn i0 : Nat} {e : Ev} {el : Nat → Int32} (hs : s < 6) (hsz : sz ≤ 60) (hi0 : i0 < 60) (hnn : nn ≤ 7) : ∀ g c f P lot (μ : Mm), c + g = nn → g < f → PC μ P → RC μ 23 e → LotC μ 23 lot → shC8 μ s (.inl (some (0, sz))) → (∀ j, j < 60 → (gL μ (107 + s) j).toInt32 = el j) → ∃ μ', F_X8_people_75 f (kI s) (kI i0) (kI nn) (kI c) μ = some (kI (ppl el sz nn i0 g c P lot).1, μ') ∧ PC μ' (ppl el sz nn i0 g c P lot).2.1 ∧ RC μ' 23 e ∧ LotC μ' 23 (ppl el sz nn i0 g c P lot).2.2 ∧ FrC (fun a _ => a = 2 ∨ a = 5 ∨ a = 24) μ μ' := by
  intro g
  induction g with
  | zero =>
    intro c f P lot μ hc hf hP h hL h8 hel
    obtain ⟨f, rfl⟩ : ∃ g, f = g + 1 := ⟨f - 1, by omega⟩
    refine ⟨μ, ?_, hP, h, hL, FrC.refl⟩
    rw [F_X8_people_75, if_pos (by rw [kI_le (by omega) (by omega)]; omega)]
    rfl
  | succ g ih =>
    intro c f P lot μ hc hf hP h hL h8 hel
    obtain ⟨f, rfl⟩ : ∃ g, f = g + 1 := ⟨f - 1, by omega⟩
    have hn := hP.n7
    rw [F_X8_people_75, if_neg (by rw [kI_le (by omega) (by omega)]; omega), hP.n]
    unfold ppl
    by_cases n7 : pN P < 7
    · rw [if_neg (by rw [iI_lit, kI_le (by omega) (by omega)]; omega)]
      have re := refElem_eq (x := kI (i0 + c)) hs (show shOk (.inl (some (0, sz))) from ⟨Nat.zero_le _, hsz⟩) h8
      rw [whyI_row, kI_toInt (by omega)] at re
      by_cases hz : i0 + c < sz
      · rw [if_pos (by omega)] at re
        have ev := hel (i0 + c) (by omega)
        by_cases hw : el (i0 + c) = kI 0 ∨ el (i0 + c) = kI 1 ∨ el (i0 + c) = kI 2
        · rw [if_pos ⟨by omega, n7, hz, hw⟩]
          obtain ⟨w1, w2⟩ := way_of hw
          generalize hwn : (el (i0 + c)).toInt.toNat = w at w1 w2
          obtain ⟨m1, a1, a2, a3, a4, a5⟩ := welcome_eq (w := w) hP h hL n7 w2
          obtain ⟨m2, b1, b2, b3, b4, b5⟩ := ih (c + 1) f (addP P w) (addL P lot) m1 (by omega) (by omega) a2 a3 a4 ⟨by rw [a5.1 104 s (by omega)]; exact h8.1, by rw [a5.1 105 s (by omega)]; exact h8.2⟩ (fun j hj => by rw [a5.2.1]; exact hel j hj)
          refine ⟨m2, ?_, b2, b3, b4, a5.trans b5⟩
          have wf : F_X8_welcomeFrom (kI s) (kI i0 + kI c) μ = some (kI 1, m1) := by
            unfold F_X8_welcomeFrom
            rw [kI_add, bnd_eq re, if_pos rfl, rd_kI (by omega) (by omega), rd_kI (by omega) (by omega), Nat.one_mul, ev, nm_eq, w1, if_neg (by rw [iI_lit, kI_lt (by omega) (by omega)]; omega), if_neg (by rw [iI_lit, kI_lt (by omega) (by omega)]; omega), bnd_eq a1, if_neg (by rw [iI_lit, kI_lt (by omega) (by omega)]; omega)]
            rfl
          rw [bnd_eq wf, if_neg k1_ne0, nm_eq, iI_lit, kI_add, b1]
        · rw [if_neg (fun q => hw q.2.2.2)]
          refine ⟨μ, ?_, hP, h, hL, FrC.refl⟩
          have wf : F_X8_welcomeFrom (kI s) (kI i0 + kI c) μ = some (kI 0, μ) := by
            unfold F_X8_welcomeFrom
            rw [kI_add, bnd_eq re, if_pos rfl, rd_kI (by omega) (by omega), rd_kI (by omega) (by omega), Nat.one_mul, ev, nm_eq]
            rcases way_no hw with q | ⟨k, k1, k2, k3⟩
            · rw [if_pos (by rw [iI_lit, neg_lt q (by omega)]; trivial)]; rfl
            · rw [k2, if_neg (by rw [iI_lit, kI_lt (by omega) (by omega)]; omega), if_pos (by rw [iI_lit, kI_lt (by omega) (by omega)]; omega)]; rfl
          rw [bnd_eq wf, if_pos k0_eq0]
      · rw [if_neg (by omega)] at re
        rw [if_neg (fun q => hz q.2.2.1)]
        refine ⟨μ, ?_, hP, h, hL, FrC.refl⟩
        have wf : F_X8_welcomeFrom (kI s) (kI i0 + kI c) μ = some (kI 0, μ) := by
          unfold F_X8_welcomeFrom
          rw [kI_add, bnd_eq re, if_neg (by rw [iI_eq (by omega) (by omega)]; omega)]
          rfl
        rw [bnd_eq wf, if_pos k0_eq0]
    · rw [if_pos (by rw [iI_lit, kI_le (by omega) (by omega)]; omega), if_neg (fun q => n7 q.2.1)]
      exact ⟨μ, rfl, hP, h, hL, FrC.refl⟩
theorem people9_loop {s sz nn i0 : Nat} {e : Ev} {el : Nat → Int32} (hs : s < 6) (hsz : sz ≤ 60) (hi0 : i0 < 60) (hnn : nn ≤ 7) (hT : ∀ k, eP e ≤ k → eO e k = none ∧ eT e k = 0) (h0 : eP e = 0) (hR : eR e = none) (hJ : eJ e = none) : ∀ g c f P lot (μ : Mm), c + g = nn → g < f → PR μ P → RR μ 0 P lot e → LotOk (pN P) P lot → gI μ 154 s = kI sz → (∀ j, j < 60 → (gL μ 155 (60 * s + j)).toInt32 = el j) → ∃ μ', F_X9_people_68 f (kI s) (kI i0) (kI nn) (kI c) μ = some (kI (ppl el sz nn i0 g c P lot).1, μ') ∧ PR μ' (ppl el sz nn i0 g c P lot).2.1 ∧ RR μ' 0 (ppl el sz nn i0 g c P lot).2.1 (ppl el sz nn i0 g c P lot).2.2 e ∧ LotOk (pN (ppl el sz nn i0 g c P lot).2.1) (ppl el sz nn i0 g c P lot).2.1 (ppl el sz nn i0 g c P lot).2.2 ∧ pN P ≤ pN (ppl el sz nn i0 g c P lot).2.1 ∧ FrC CAdd μ μ' := by
  intro g
  induction g with
  | zero =>
    intro c f P lot μ hc hf hP h hl h154 hel
    obtain ⟨f, rfl⟩ : ∃ g, f = g + 1 := ⟨f - 1, by omega⟩
    refine ⟨μ, ?_, hP, h, hl, Nat.le_refl _, FrC.refl⟩
    rw [F_X9_people_68, if_pos (by rw [kI_le (by omega) (by omega)]; omega), show nn = c by omega]
    rfl
  | succ g ih =>
    intro c f P lot μ hc hf hP h hl h154 hel
    obtain ⟨f, rfl⟩ : ∃ g, f = g + 1 := ⟨f - 1, by omega⟩
    have hn := hP.n7
    have e1 : (kI i0).toInt64 + (kI c).toInt64 = iL ((i0 : Int) + c) := by rw [toL, toL, kI_toInt (by omega), kI_toInt (by omega), iL_add]
    rw [F_X9_people_68, if_neg (by rw [kI_le (by omega) (by omega)]; omega), e1, nm_eq, if_neg (by rw [lgc_lt, iL_lt (by omega) (by omega)]; omega), rd_kI (by omega) (by omega), h154, toL, kI_toInt (by omega)]
    unfold ppl
    by_cases hz : i0 + c < sz
    · rw [if_neg (by rw [lgc_ge, iL_lt (by omega) (by omega)]; omega), hP.n]
      by_cases n7 : pN P < 7
      · rw [if_neg (by rw [iI_lit, kI_eq (by omega) (by omega)]; omega)]
        have ev := hel (i0 + c) (by omega)
        have e2 : iI 60 * kI s + (iL ((i0 : Int) + c)).toInt32 = kI (60 * s + (i0 + c)) := by
          rw [iL_toI, iI_lit, kI_mul, show iI ((i0 : Int) + c) = kI (i0 + c) from rfl, kI_add]
        rw [e2, rd_kI (by omega) (by omega), ev, nm_eq]
        by_cases hw : el (i0 + c) = kI 0 ∨ el (i0 + c) = kI 1 ∨ el (i0 + c) = kI 2
        · rw [if_pos ⟨by omega, n7, hz, hw⟩]
          obtain ⟨w1, w2⟩ := way_of hw
          generalize hwn : (el (i0 + c)).toInt.toNat = w at w1 w2
          have hin : F_X9_in (kI w) (iI 0) (iI 2) μ = some (kI 1, μ) := in_yes (μ := μ) (k := w) (a := 0) (b := 2) (by omega) (by omega) (by omega)
          obtain ⟨r, m1, a1, rfl, a3, a4, a5⟩ := addPerson_eq (w := w) hP h n7 w2 hT h0 hR hJ
          obtain ⟨m2, b1, b2, b3, b4, b6, b5⟩ := ih (c + 1) f (addP P w) (addL P lot) m1 (by omega) (by omega) a3 a4 (addL_ok hl) (by rw [a5.1 154 s (by unfold CAdd CX9; omega)]; exact h154) (fun j hj => by rw [a5.2.1]; exact hel j hj)
          refine ⟨m2, ?_, b2, b3, b4, Nat.le_trans (Nat.le_succ _) b6, a5.trans b5⟩
          rw [w1, bnd_eq hin, if_neg k1_ne0, bnd_eq a1, nm_eq, iI_lit, kI_add, b1]
        · rw [if_neg (fun q => hw q.2.2.2)]
          have hin : F_X9_in (el (i0 + c)) (iI 0) (iI 2) μ = some (kI 0, μ) := in_no (μ := μ) (x := el (i0 + c)) (a := 0) (b := 2) (by omega) (by omega) (fun k _ hk q => by
            have : k = 0 ∨ k = 1 ∨ k = 2 := by omega
            rcases this with rfl | rfl | rfl
            · exact hw (Or.inl q)
            · exact hw (Or.inr (Or.inl q))
            · exact hw (Or.inr (Or.inr q)))
          refine ⟨μ, ?_, hP, h, hl, Nat.le_refl _, FrC.refl⟩
          rw [bnd_eq hin, if_pos k0_eq0]
      · rw [if_pos (by rw [iI_lit, kI_eq (by omega) (by omega)]; omega), if_neg (fun q => n7 q.2.1)]
        exact ⟨μ, rfl, hP, h, hl, Nat.le_refl _, FrC.refl⟩
    · rw [if_pos (by rw [lgc_ge, iL_lt (by omega) (by omega)]; omega), if_neg (fun q => hz q.2.2.1)]
      exact ⟨μ, rfl, hP, h, hl, Nat.le_refl _, FrC.refl⟩
theorem IChg.mono2 {μ : Mm} {n m : Nat} (h : IChg μ n) (hm : n ≤ m) : IChg μ m := by
  obtain ⟨k, rfl⟩ : ∃ k, m = n + k := ⟨m - n, by omega⟩
  clear hm
  induction k with
  | zero => exact h
  | succ k ih => exact ih.mono
theorem refBytes_eq {μ : Mm} {s : Nat} {o : Option (Nat × Nat) ⊕ Nat} (hs : s < 6) (ho : shOk o) (h : shC8 μ s o) : F_X5_refusalOfBytes (kI s) μ = some (match o with | .inl none => iI (-11) | .inl (some (0, _)) => iI 0 | _ => iI (-12), μ) := by
  have e1 := isEmpty_eq hs ho h
  unfold F_X5_refusalOfBytes
  rw [bnd_eq (isShelf_yes hs), if_neg k1_ne0, bnd_eq e1]
  match o, ho, h with
  | .inl none, ho, h =>
    show (if kI 1 = iI 0 then _ else some (iI (-11), μ)) = _
    rw [if_neg k1_ne0]
  | .inl (some (0, n)), ho, h =>
    have h : gI μ 104 s = kI 0 := h.1
    show (if kI 0 = iI 0 then rd 6 (kI s) _ else _) = _
    rw [if_pos k0_eq0, rd_kI (by omega) (by omega), h, if_pos k0_eq0]
    rfl
  | .inl (some (q + 1, n)), ho, h =>
    have h : gI μ 104 s = kI (q + 1) := h.1
    have hq : q + 1 ≤ 4 := ho.1
    show (if kI 0 = iI 0 then rd 6 (kI s) _ else _) = _
    rw [if_pos k0_eq0, rd_kI (by omega) (by omega), h, if_neg (by rw [iI_lit, kI_eq (by omega) (by omega)]; omega)]
    rfl
  | .inr b, ho, h =>
    have h : gI μ 104 s = iI (-1) := h.1
    show (if kI 0 = iI 0 then rd 6 (kI s) _ else _) = _
    rw [if_pos k0_eq0, rd_kI (by omega) (by omega), h, if_neg (by rw [iI_eq (by omega) (by omega)]; omega)]
theorem people9_out {μ : Mm} {s sz nn : Nat} {x : Int32} (hs : s < 6) (hsz : sz ≤ 60) (hnn : nn ≤ 7) (h1 : 1 ≤ nn) (h154 : gI μ 154 s = kI sz) (hx : x.toInt < 0 ∨ 60 ≤ x.toInt) : F_X9_people_68 FU (kI s) x (kI nn) (iI 0) μ = some (kI 0, μ) := by
  obtain ⟨f, hf⟩ : ∃ f, FU = f + 1 := ⟨FU - 1, by unfold FU; omega⟩
  have b1 := x.toInt_lt
  have b2 := x.le_toInt
  have e1 : x.toInt64 + (iI 0).toInt64 = iL (x.toInt + 0) := by rw [toL, toL, iI_toInt (z := 0) (by omega) (by omega), iL_add]
  rw [hf, F_X9_people_68, if_neg (by rw [iI_lit, kI_le (by omega) (by omega)]; omega), e1, nm_eq]
  rcases hx with hx | hx
  · rw [if_pos (by rw [lgc_lt, iL_lt (by omega) (by omega)]; omega)]; rfl
  · rw [if_neg (by rw [lgc_lt, iL_lt (by omega) (by omega)]; omega), rd_kI (by omega) (by omega), h154, toL, kI_toInt (by omega), if_pos (by rw [lgc_ge, iL_lt (by omega) (by omega)]; omega)]; rfl
theorem g_people (x y z : Int32) : Good (F_X8_people x y z) (F_X9_people x y z) := by
  intro μ hI
  obtain ⟨P, lot, e, hR, hD⟩ := hI.split
  have hn := hR.1.n7
  have hw := hD.2.2.2.1
  have hb := hw.1
  have hbeg := hasBegun_eq hD.1 hb
  have e15 := hD.2.2.2.2.2.2.1
  have t0 := tot_0 hw
  have t28 := tot_le hw
  rcases per_cases 6 x with ⟨s, hs, rfl⟩ | hx
  · have s9 : ∀ m : Mm, F_X9_isShelf (kI s) m = some (kI 1, m) := fun m => isShelf9_yes hs
    by_cases hz : ∃ nn, 1 ≤ nn ∧ nn ≤ 7 ∧ z = kI nn
    · obtain ⟨nn, n1, n7, rfl⟩ := hz
      have hin : ∀ m : Mm, F_X9_in (kI nn) (iI 1) (iI 7) m = some (kI 1, m) := fun m => in_yes (μ := m) (k := nn) (a := 1) (b := 7) n1 n7 (by omega)
      obtain ⟨o, o1, o2, o3⟩ := she_get hI.she hI.bod hs
      have rb := refBytes_eq hs o1 o2
      have c8 : ∀ r v3, F_X5_refusalOfBytes (kI s) μ = some (v3, μ) → (if v3 = (iI (-12)) then some ((iI (-12)), μ) else bnd (F_X2_hasBegun 23 μ) fun v5 m6 => (if v5 = iI 0 then (if v3 = iI 0 then (if y < iI 0 then some ((iI 0), m6) else (if (iI 60) ≤ y then some ((iI 0), m6) else F_X8_people_75 FU (kI s) y (kI nn) (iI 0) m6)) else some ((iI 0), m6)) else some ((iI (-5)), m6))) = r → F_X8_people (kI s) y (kI nn) μ = r := fun r v3 h3 h => by
        unfold F_X8_people
        rw [bnd_eq (isShelf_yes hs), if_neg k1_ne0, if_neg (by rw [iI_lit, kI_lt (by omega) (by omega)]; omega), if_pos (by rw [iI_lit, kI_le (by omega) (by omega)]; omega), bnd_eq h3]
        exact h
      have c9 : ∀ (m : Mm) r, (rd 6 (kI s) fun j5 => (if (gI m 153 j5) = (iI (-1)) then F_X9_people_43 (kI s) y (kI nn) m else rd 6 (kI s) fun j6 => (if (gI m 153 j6) = (iI (-2)) then F_X9_people_43 (kI s) y (kI nn) m else some ((iI (-12)), m)))) = r → F_X9_people (kI s) y (kI nn) m = r := fun m r h => by
        unfold F_X9_people
        rw [bnd_eq (s9 m), if_neg k1_ne0, bnd_eq (hin m), if_neg k1_ne0]
        exact h
      have d0 : ¬ (iI 0 = iI (-12)) := by rw [iI_eq (by omega) (by omega)]; omega
      have d1 : ¬ (iI (-11) = iI (-12)) := by rw [iI_eq (by omega) (by omega)]; omega
      match o, o1, o2, o3, rb with
      | .inl none, o1, o2, o3, rb =>
        have h9 : gI μ 153 s = iI (-1) := o3
        by_cases h0 : eP e = 0
        · rw [if_neg (by omega)] at hbeg
          refine Good.bad (v := kI 0) hI (c8 _ _ rb ?_) (c9 _ _ ?_)
          · show (if iI (-11) = iI (-12) then _ else bnd (F_X2_hasBegun 23 μ) fun v5 m6 => (if v5 = iI 0 then (if iI (-11) = iI 0 then _ else some ((iI 0), m6)) else _)) = _
            rw [if_neg d1, bnd_eq hbeg, if_pos k0_eq0, if_neg (by rw [iI_eq (by omega) (by omega)]; omega)]; rfl
          · unfold F_X9_people_43
            rw [rd_kI (by omega) (by omega), h9, if_pos rfl, e15, if_pos (by rw [iI_lit, kI_le (by omega) (by omega)]; omega), rd_kI (by omega) (by omega), h9, if_pos rfl]; rfl
        · rw [if_pos (by omega)] at hbeg
          refine Good.bad (v := iI (-5)) hI (c8 _ _ rb ?_) (c9 _ _ ?_)
          · show (if iI (-11) = iI (-12) then _ else bnd (F_X2_hasBegun 23 μ) fun v5 m6 => (if v5 = iI 0 then _ else some ((iI (-5)), m6))) = _
            rw [if_neg d1, bnd_eq hbeg, if_neg k1_ne0]
          · unfold F_X9_people_43
            rw [rd_kI (by omega) (by omega), h9, if_pos rfl, e15, if_neg (by rw [iI_lit, kI_le (by omega) (by omega)]; omega)]
      | .inl (some (q + 1, n)), o1, o2, o3, rb =>
        have h9 : gI μ 153 s = iI (-2 - ((q + 1 : Nat) : Int)) := o3.1
        have hq : q + 1 ≤ 4 := o1.1
        refine Good.bad (v := iI (-12)) hI (c8 _ _ rb ?_) (c9 _ _ ?_)
        · exact if_pos rfl
        · rw [rd_kI (by omega) (by omega), h9, if_neg (by rw [iI_eq (by omega) (by omega)]; omega), rd_kI (by omega) (by omega), h9, if_neg (by rw [iI_eq (by omega) (by omega)]; omega)]
      | .inr b, o1, o2, o3, rb =>
        have h9 : gI μ 153 s = kI b := o3
        have hb50 : b < 50 := o1
        refine Good.bad (v := iI (-12)) hI (c8 _ _ rb ?_) (c9 _ _ ?_)
        · exact if_pos rfl
        · rw [rd_kI (by omega) (by omega), h9, if_neg (by rw [kI_iI, iI_eq (by omega) (by omega)]; omega), rd_kI (by omega) (by omega), h9, if_neg (by rw [kI_iI, iI_eq (by omega) (by omega)]; omega)]
      | .inl (some (0, sz)), o1, o2, o3, rb =>
        have h9 : gI μ 153 s = iI (-2) := o3.1
        have h94 : gI μ 154 s = kI sz := o3.2
        have hsz : sz ≤ 60 := o1.2
        have rb : F_X5_refusalOfBytes (kI s) μ = some (iI 0, μ) := rb
        by_cases h0 : eP e = 0
        · rw [if_neg (by omega)] at hbeg
          obtain ⟨z1, z2, z3⟩ := hD.2.2.2.2.1 h0
          have c9b : ∀ (m : Mm) r, gI m 153 s = iI (-2) → gI m 113 15 = kI (tot e) → F_X9_people_68 FU (kI s) y (kI nn) (iI 0) m = r → F_X9_people (kI s) y (kI nn) m = r := fun m r h1 h2 h => c9 _ _ (by
            unfold F_X9_people_43
            rw [rd_kI (by omega) (by omega), h1, if_neg (by rw [iI_eq (by omega) (by omega)]; omega), rd_kI (by omega) (by omega), h1, if_pos rfl, h2, if_pos (by rw [iI_lit, kI_le (by omega) (by omega)]; omega), rd_kI (by omega) (by omega), h1, if_neg (by rw [iI_eq (by omega) (by omega)]; omega)]
            exact h)
          by_cases hy : y.toInt < 0 ∨ 60 ≤ y.toInt
          · refine Good.bad (v := kI 0) hI (c8 _ _ rb ?_) (c9b _ _ h9 e15 (people9_out hs hsz n7 n1 h94 hy))
            rw [if_neg d0, bnd_eq hbeg, if_pos k0_eq0, if_pos rfl]
            rcases hy with hy | hy
            · rw [if_pos (by rw [iI_lit, neg_lt hy (by omega)]; trivial)]; rfl
            · rw [if_neg (by rw [Int32.lt_iff_toInt_lt, iI_toInt (z := 0) (by omega) (by omega)]; omega), if_pos (by rw [Int32.le_iff_toInt_le, iI_toInt (z := 60) (by omega) (by omega)]; omega)]; rfl
          · obtain ⟨i0, i1, rfl⟩ := (i32_cases y).resolve_left (by omega)
            rw [kI_toInt i1] at hy
            have hrow := she_row hI.she hs o2 o1
            obtain ⟨m1, a1, a2, a3, a4, a5⟩ := people8_loop (nn := nn) (el := fun j => (gL μ (107 + s) j).toInt32) hs hsz (show i0 < 60 by omega) n7 nn 0 FU P lot μ (by omega) (by unfold FU; omega) hR.1 hD.1 hD.2.1 o2 (fun j hj => rfl)
            have hPR1 : PR m1 P := hR.2.1.fr a5 (fun a j q z => by unfold CP at z; omega)
            have hRR1 := hD.2.2.2.2.2.1.fr hn a5 (fun a j q => by omega)
            obtain ⟨m2, b1, b2, b3, b4, b6, b5⟩ := people9_loop (nn := nn) (el := fun j => (gL μ (107 + s) j).toInt32) hs hsz (show i0 < 60 by omega) n7 hw.2.2.2.1 h0 z1 z2 nn 0 FU P lot m1 (by omega) (by unfold FU; omega) hPR1 hRR1 hD.2.2.1 (by rw [a5.1 154 s (by omega)]; exact h94) (fun j hj => by rw [a5.2.1, ← hrow j hj])
            generalize ppl (fun j => (gL μ (107 + s) j).toInt32) sz nn i0 nn 0 P lot = res at a1 a2 a4 b1 b2 b3 b4 b6
            obtain ⟨cnt, P', lot'⟩ := res
            have hO := (hR.oth.fr a5 (fun a j q => by unfold CD; omega)).fr b5 (fun a j q => by unfold CAdd CX9 at q; unfold CD CP SL; omega)
            have hD2 : IDeed m2 P' lot' e := IDeed.step2 a3 a4 b3 ((hD.led.fr a5 (fun a j q => by omega)).fr b5 (fun a j q => by unfold CAdd CX9 at q; omega)) (b5.mono fun a j q => by unfold CAdd CX9 at q; unfold CX9; omega) (by rw [b5.1 113 16 (by unfold CAdd CX9; omega), a5.1 113 16 (by omega)]; exact hD.2.2.2.2.2.2.2.1) b4 (wf_0 hw h0 z1) hD.2.2.2.2.1
            have hPC2 : PC m2 P' := a2.frC b5 (fun a j q => by unfold CAdd CX9 at q; unfold CPc; omega)
            refine ⟨kI cnt, m1, m2, c8 _ _ rb ?_, c9b _ _ (by rw [a5.1 153 s (by omega)]; exact h9) (by rw [a5.1 113 15 (by omega)]; exact e15) b1, Inv.join (P := P') ⟨hPC2, b2, hO.1.mono2 b6, hO.2⟩ hD2⟩
            rw [if_neg d0, bnd_eq hbeg, if_pos k0_eq0, if_pos rfl, if_neg (by rw [iI_lit, kI_lt (by omega) (by omega)]; omega), if_neg (by rw [iI_lit, kI_le (by omega) (by omega)]; omega)]
            exact a1
        · rw [if_pos (by omega)] at hbeg
          refine Good.bad (v := iI (-5)) hI (c8 _ _ rb ?_) (c9 _ _ ?_)
          · rw [if_neg d0, bnd_eq hbeg, if_neg k1_ne0]
          · unfold F_X9_people_43
            rw [rd_kI (by omega) (by omega), h9, if_neg (by rw [iI_eq (by omega) (by omega)]; omega), rd_kI (by omega) (by omega), h9, if_pos rfl, e15, if_neg (by rw [iI_lit, kI_le (by omega) (by omega)]; omega)]
    · have hin : F_X9_in z (iI 1) (iI 7) μ = some (kI 0, μ) := in_no (μ := μ) (x := z) (a := 1) (b := 7) (by omega) (by omega) (fun k h1 h2 q => hz ⟨k, h1, h2, q⟩)
      refine Good.bad (v := iI (-1)) hI ?_ ?_
      · unfold F_X8_people
        rw [bnd_eq (isShelf_yes hs), if_neg k1_ne0]
        rcases i32_cases z with q | ⟨k, k1, rfl⟩
        · rw [if_pos (by rw [iI_lit, neg_lt q (by omega)]; trivial)]
        · by_cases k0 : k < 1
          · rw [if_pos (by rw [iI_lit, kI_lt (by omega) (by omega)]; exact k0)]
          · rw [if_neg (by rw [iI_lit, kI_lt (by omega) (by omega)]; exact k0), if_neg (by
              rw [iI_lit, kI_le (by omega) (by omega)]
              intro q
              exact hz ⟨k, by omega, q, rfl⟩)]
      · unfold F_X9_people
        rw [bnd_eq (s9 μ), if_neg k1_ne0, bnd_eq hin, if_pos k0_eq0]
  · refine Good.bad (v := iI (-1)) hI ?_ ?_
    · unfold F_X8_people
      rw [bnd_eq (isShelf_no hx), if_pos k0_eq0]
    · unfold F_X9_people
      rw [bnd_eq (isShelf9_no hx), if_pos k0_eq0]
