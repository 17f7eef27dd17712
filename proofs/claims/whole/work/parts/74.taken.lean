/-! TAKEN, SHIFT OF BOTH -/
def abv : Nat → Option Nat
  | 0 => none
  | 1 => some 0
  | 2 => some 0
  | 3 => some 2
  | 4 => some 1
  | 5 => some 3
  | 6 => some 0
  | 7 => some 6
  | _ => none
theorem tABV_eq {a : Nat} (h : a < 8) : tABV a = kO (abv a) := (by decide +kernel : ∀ a, a < 8 → tABV a = kO (abv a)) a h
theorem abv_lt {a b : Nat} (h : abv a = some b) : b < 8 := by
  match a, h with
  | 0, h => cases h
  | 1, h => cases h; omega
  | 2, h => cases h; omega
  | 3, h => cases h; omega
  | 4, h => cases h; omega
  | 5, h => cases h; omega
  | 6, h => cases h; omega
  | 7, h => cases h; omega
  | _ + 8, h => cases h
def und (k : Nat) : Nat → Option Nat → Bool
  | 0, _ => false
  | c + 1, o => match o with
    | none => false
    | some a => if a = k then true else und k c (abv a)
theorem under_loop {μ : Mm} {k : Nat} (hk : k < 8) : ∀ c st o f, st + c = 8 → c < f → (∀ a, o = some a → a < 8) → F_X0_isUnder_4 f (kI k) (kO o) (kI st) μ = some (if und k c o = true then kI 1 else kI 0, μ) := by
  intro c
  induction c with
  | zero =>
    intro st o f hs hf ho
    obtain ⟨f, rfl⟩ : ∃ g, f = g + 1 := ⟨f - 1, by omega⟩
    rw [F_X0_isUnder_4, if_pos (by rw [iI_lit, kI_le (by omega) (by omega)]; omega)]
    rfl
  | succ c ih =>
    intro st o f hs hf ho
    obtain ⟨f, rfl⟩ : ∃ g, f = g + 1 := ⟨f - 1, by omega⟩
    rw [F_X0_isUnder_4, if_neg (by rw [iI_lit, kI_le (by omega) (by omega)]; omega)]
    cases o with
    | none =>
      rw [if_pos (show kO none < iI 0 from neg1_lt0.mpr trivial)]
      rfl
    | some a =>
      have ha := ho a rfl
      rw [kO_some, if_neg (by rw [iI_lit, kI_lt (by omega) (by omega)]; omega), if_neg (by rw [iI_lit, kI_le (by omega) (by omega)]; omega)]
      by_cases z : a = k
      · rw [if_pos (by rw [z]), und, if_pos z]
        rfl
      · rw [if_neg (by rw [kI_eq (by omega) (by omega)]; exact z), rd_kI (by omega) (by omega), nm_eq, nm_eq, tABV_eq ha, iI_lit, kI_add, ih (st + 1) (abv a) f (by omega) (by omega) (fun b h => abv_lt h), und, if_neg z]
theorem isUnder8_eq {μ : Mm} {k : Nat} {o : Option Nat} (hk : k < 8) (ho : ∀ a, o = some a → a < 8) : F_X0_isUnder (kO o) (kI k) μ = some (if und k 8 o = true then kI 1 else kI 0, μ) := by
  unfold F_X0_isUnder
  simp only [iI_lit]
  exact under_loop hk 8 0 o FU (by omega) (by unfold FU; omega) ho
def undI (x1 x2 : Int32) : Int32 := if x2 = iI 0 then iI 1 else if x1 = x2 then iI 1 else if x2 = iI 1 ∧ x1 = iI 4 then iI 1 else if x2 = iI 2 ∧ (x1 = iI 3 ∨ x1 = iI 5) then iI 1 else if x2 = iI 3 ∧ x1 = iI 5 then iI 1 else if x2 = iI 6 ∧ x1 = iI 7 then iI 1 else iI 0
theorem isUnder9_eq {μ : Mm} {a k : Nat} (ha : a < 8) (hk : k < 8) : F_X9_isUnder (kI a) (kI k) μ = some (if und k 8 (some a) = true then kI 1 else kI 0, μ) := by
  have h1 : F_X9_isUnder (kI a) (kI k) μ = some (undI (kI a) (kI k), μ) := by
    unfold F_X9_isUnder F_X9_isUnder_19 F_X9_isUnder_34 F_X9_isUnder_44 F_X9_isUnder_56 undI
    by_cases c0 : kI k = iI 0
    · rw [if_pos c0, if_pos c0]; rfl
    · rw [if_neg c0, if_neg c0]
      by_cases c1 : kI a = kI k
      · rw [if_pos c1, if_pos c1]; rfl
      · rw [if_neg c1, if_neg c1]
        by_cases k1 : kI k = iI 1 <;> by_cases k2 : kI k = iI 2 <;> by_cases k3 : kI k = iI 3 <;> by_cases k6 : kI k = iI 6 <;> by_cases a3 : kI a = iI 3 <;> by_cases a4 : kI a = iI 4 <;> by_cases a5 : kI a = iI 5 <;> by_cases a7 : kI a = iI 7 <;> simp only [k1, k2, k3, k6, a3, a4, a5, a7, if_true, if_false, ite_true, ite_false, true_and, false_and, and_true, and_false, or_true, true_or, or_false, false_or, or_self] <;> rfl
  have h2 : undI (kI a) (kI k) = if und k 8 (some a) = true then kI 1 else kI 0 := (by decide +kernel : ∀ a, a < 8 → ∀ k, k < 8 → undI (kI a) (kI k) = if und k 8 (some a) = true then kI 1 else kI 0) a ha k hk
  rw [h1, h2]
theorem g_taken (x y : Int32) : Good (F_X8_taken x y) (F_X9_taken x y) := by
  intro μ hI
  obtain ⟨b, r, b1, b2, b3, b4, b5, b6, b7, b8⟩ := hI.bod
  rcases per_cases 6 x with ⟨s, hs, rfl⟩ | hx
  · rcases per_cases 8 y with ⟨k, hk, rfl⟩ | hy
    · have hin : ∀ m : Mm, F_X9_in (kI k) (iI 0) (iI 7) m = some (kI 1, m) := fun m => in_yes (μ := m) (k := k) (a := 0) (b := 7) (by omega) (by omega) (by omega)
      have q1 : ¬ kI k < iI 0 := by rw [iI_lit, kI_lt (by omega) (by omega)]; omega
      have q2 : kI k < iI 8 := by rw [iI_lit, kI_lt (by omega) (by omega)]; omega
      obtain ⟨o, o1, o2, o3⟩ := she_get hI.she hI.bod hs
      have e1 := isEmpty_eq hs o1 o2
      have e2 := isRow_eq hs o1 o2
      match o, o1, o2, o3, e1, e2 with
      | .inl none, o1, o2, o3, e1, e2 =>
        have h9 : gI μ 153 s = iI (-1) := o3
        refine Good.bad (v := iI (-11)) hI ?_ ?_
        · unfold F_X8_taken
          rw [bnd_eq (isShelf_yes hs), if_neg k1_ne0, if_neg q1, if_pos q2, bnd_eq e1]
          show (if kI 1 = iI 0 then _ else _) = _
          rw [if_neg k1_ne0]
        · unfold F_X9_taken
          rw [bnd_eq (isShelf9_yes hs), if_neg k1_ne0, bnd_eq (hin μ), if_neg k1_ne0, rd_kI (by omega) (by omega), h9, if_pos rfl]
      | .inl (some (q, n)), o1, o2, o3, e1, e2 =>
        have h9 : gI μ 153 s = iI (-2 - (q : Int)) := o3.1
        have hq : q ≤ 4 := o1.1
        have iu := isUnder8_eq (μ := μ) (k := k) (o := none) hk (fun a h => by cases h)
        refine Good.bad (v := iI (-12)) hI ?_ ?_
        · unfold F_X8_taken F_X8_taken_68
          rw [bnd_eq (isShelf_yes hs), if_neg k1_ne0, if_neg q1, if_pos q2, bnd_eq e1]
          show (if kI 0 = iI 0 then bnd (F_X5_isRow (kI s) μ) _ else _) = _
          rw [if_pos k0_eq0, bnd_eq e2]
          show (if kI 1 = iI 0 then _ else bnd (F_X0_isUnder (iI (-1)) (kI k) μ) _) = _
          rw [if_neg k1_ne0, show iI (-1) = kO none from rfl, bnd_eq iu]
          rfl
        · unfold F_X9_taken
          rw [bnd_eq (isShelf9_yes hs), if_neg k1_ne0, bnd_eq (hin μ), if_neg k1_ne0, rd_kI (by omega) (by omega), h9, if_neg (by rw [iI_eq (by omega) (by omega)]; omega), rd_kI (by omega) (by omega), h9, if_pos (by rw [iI_lt2 (by omega) (by omega)]; omega)]
      | .inr w, o1, o2, o3, e1, e2 =>
        have h8 : gI μ 105 s = kI w := o2.2
        have h104 : gI μ 104 s = iI (-1) := o2.1
        have h9 : gI μ 153 s = kI w := o3
        have hwc : w < b := by
          rcases hI.she s hs with ⟨h1, h2⟩ | ⟨b', c', h1, h2, h3, h4, h5, h6⟩ | ⟨q', n', h0, h1, h2, h3, h4, h5, h6⟩
          · rw [h1, iI_eq (by omega) (by omega)] at h104; omega
          · rw [b3, kI_eq (by omega) (by omega)] at h4
            rw [h2, kI_eq (by omega) (by have : w < 50 := o1; omega)] at h8
            omega
          · rw [h2, kI_iI, iI_eq (by omega) (by omega)] at h104; omega
        obtain ⟨kd, kd1, kd2, kd3⟩ := b7 w hwc
        have iu := isUnder8_eq (μ := μ) (k := k) (o := some kd) hk (fun a h => by cases h; exact kd1)
        have iu9 := isUnder9_eq (μ := μ) kd1 hk
        have ko : F_X0_kindOf (kI w) μ = some (kI kd, μ) := by
          unfold F_X0_kindOf
          rw [bnd_eq (isThere_yes b1 b3 hwc), if_neg k1_ne0, rd_kI (by omega) (by omega), kd2]
        have c8 : ∀ r, (bnd (F_X0_isUnder (kI kd) (kI k) μ) fun v1 m2 => if v1 = iI 0 then some (iI (-12), m2) else some (kI kd, m2)) = r → F_X8_taken (kI s) (kI k) μ = r := fun r h => by
          unfold F_X8_taken F_X8_taken_68
          rw [bnd_eq (isShelf_yes hs), if_neg k1_ne0, if_neg q1, if_pos q2, bnd_eq e1]
          show (if kI 0 = iI 0 then bnd (F_X5_isRow (kI s) μ) _ else _) = _
          rw [if_pos k0_eq0, bnd_eq e2]
          show (if kI 0 = iI 0 then _ else _) = _
          rw [if_pos k0_eq0, rd_kI (by omega) (by omega), h8, bnd_eq ko]
          exact h
        have c9 : ∀ r, (bnd (F_X9_isUnder (kI kd) (kI k) μ) fun v9 m10 => if v9 = iI 0 then some (iI (-12), m10) else rd 6 (kI s) fun j11 => rd 50 (gI m10 153 j11) fun j12 => some (gI m10 151 j12, m10)) = r → F_X9_taken (kI s) (kI k) μ = r := fun r h => by
          unfold F_X9_taken
          rw [bnd_eq (isShelf9_yes hs), if_neg k1_ne0, bnd_eq (hin μ), if_neg k1_ne0, rd_kI (by omega) (by omega), h9, if_neg (by rw [kI_iI, iI_eq (by omega) (by omega)]; omega), rd_kI (by omega) (by omega), h9, if_neg (by rw [iI_lit, kI_lt (by omega) (by omega)]; omega), rd_kI (by omega) (by omega), h9, rd_kI (by omega) (by omega), kd3]
          exact h
        by_cases hu : und k 8 (some kd) = true
        · rw [if_pos hu] at iu iu9
          refine Good.bad (v := kI kd) hI (c8 _ ?_) (c9 _ ?_)
          · rw [show kI kd = kO (some kd) from rfl, bnd_eq iu, if_neg k1_ne0]
          · rw [bnd_eq iu9, if_neg k1_ne0, rd_kI (by omega) (by omega), h9, rd_kI (by omega) (by omega), kd3]
        · rw [if_neg hu] at iu iu9
          refine Good.bad (v := iI (-12)) hI (c8 _ ?_) (c9 _ ?_)
          · rw [show kI kd = kO (some kd) from rfl, bnd_eq iu, if_pos k0_eq0]
          · rw [bnd_eq iu9, if_pos k0_eq0]
    · have hin : F_X9_in y (iI 0) (iI 7) μ = some (kI 0, μ) := in_no (μ := μ) (x := y) (a := 0) (b := 7) (by omega) (by omega) (fun k _ h => hy k (by omega))
      refine Good.bad (v := iI (-1)) hI ?_ ?_
      · unfold F_X8_taken
        rw [bnd_eq (isShelf_yes hs), if_neg k1_ne0]
        rcases i32_cases y with q | ⟨k, k1, rfl⟩
        · rw [if_pos (by rw [iI_lit, neg_lt q (by omega)]; trivial)]
        · rw [if_neg (by rw [iI_lit, kI_lt (by omega) (by omega)]; omega), if_neg (by
            rw [iI_lit, kI_lt (by omega) (by omega)]
            intro z
            exact hy k z rfl)]
      · unfold F_X9_taken
        rw [bnd_eq (isShelf9_yes hs), if_neg k1_ne0, bnd_eq hin, if_pos k0_eq0]
  · refine Good.bad (v := iI (-1)) hI ?_ ?_
    · unfold F_X8_taken
      rw [bnd_eq (isShelf_no hx), if_pos k0_eq0]
    · unfold F_X9_taken
      rw [bnd_eq (isShelf9_no hx), if_pos k0_eq0]
