/-! p39, BUILT FROM ITS SCRIPT -/
def mA : Mm := ((F_X8_init (clr m00 1)).getD ((), m00)).2
theorem get_of {o : Option (Unit × Mm)} (h : o.isSome = true) : o = some ((), (o.getD ((), m00)).2) := by
  cases o with
  | none => cases h
  | some x => rfl
theorem i8_eq : F_X8_init (clr m00 1) = some ((), mA) := get_of (by decide +kernel)
def layB (m : Mm) : Bool := (List.range 113).all fun a => (List.range 64).all fun j => if (shp a).1 = 9 then (match sref (shp a).2 a j with
  | some x => decide (gR m a j = x)
  | none => true) else true
theorem sref_lt {ci a j x : Nat} (h : sref ci a j = some x) : j < 64 := by
  unfold sref at h
  split at h
  all_goals first
    | omega
    | cases h
theorem lay_of {m : Mm} (h : layB m = true) (h34 : ∀ j, j < 10 → gR m 34 j = 50 + 5 * j) (h35 : ∀ j, j < 10 → gR m 35 j = 36 + 1 * j) (h106 : ∀ j, j < 6 → gR m 106 j = 107 + 1 * j) : Lay m := by
  refine ⟨fun a ci j x q1 q2 => ?_, fun a j x q => ?_⟩
  · have ha : a ≤ NN := shp_le q1 (by omega)
    have hj := sref_lt q2
    have h1 := List.all_eq_true.mp h a (List.mem_range.mpr (by unfold NN at ha; omega))
    have h2 := List.all_eq_true.mp h1 j (List.mem_range.mpr hj)
    have h2 : (if (shp a).1 = 9 then (match sref (shp a).2 a j with
      | some x => decide (gR m a j = x)
      | none => true) else true) = true := h2
    rw [q1, if_pos rfl] at h2
    have h2 : (match sref ci a j with
      | some x => decide (gR m a j = x)
      | none => true) = true := h2
    rw [q2] at h2
    exact of_decide_eq_true h2
  · unfold aref at q
    split at q
    · by_cases z : j < 10
      · rw [if_pos z] at q
        cases q
        exact h34 j z
      · rw [if_neg z] at q
        cases q
    · by_cases z : j < 10
      · rw [if_pos z] at q
        cases q
        exact h35 j z
      · rw [if_neg z] at q
        cases q
    · by_cases z : j < 6
      · rw [if_pos z] at q
        cases q
        exact h106 j z
      · rw [if_neg z] at q
        cases q
    · cases q
theorem lay_A : Lay mA := lay_of (by decide +kernel) (by decide +kernel) (by decide +kernel) (by decide +kernel)
def P0 : Pa := (0, fun _ _ => 0, fun _ _ => 5, fun _ => 0, 3, 0, fun w _ _ _ _ _ => w)
def e00 : Ev := (fun _ => none, fun _ => 0, 0, none, none, fun _ => none, 0, iI (-1), iI (-1), kI 0)
def lot0 : Nat → Nat := fun _ => 0
def T0 : List Lin := [([], [(2, 0)])]
theorem pc_A : PC mA P0 := by
  refine ⟨⟨by decide +kernel, ?_, ?_, ?_, by decide +kernel, by decide +kernel⟩, ⟨6, Or.inl rfl, by decide +kernel, fun μ' hag w x t l o r => ?_⟩, ⟨by decide, fun _ _ => Nat.zero_le _, fun _ _ => (show 5 ≤ 9 by decide), fun _ => Nat.zero_le _, by decide, by decide, by decide⟩⟩
  · have : ∀ p, p < 7 → ∀ k, k < 7 → gI mA 3 (10 * p + k) = kI 0 := by decide +kernel
    exact fun p k hp hk => this p hp k hk
  · have : ∀ p, p < 7 → ∀ k, k < 7 → gI mA 4 (10 * p + k) = kI 5 := by decide +kernel
    exact fun p k hp hk => this p hp k hk
  · have : ∀ p, p < 7 → gI mA 5 p = kI 0 := by decide +kernel
    exact this
  · have hl : lay T0 = [(36, 0), (59, 0)] := by decide
    have hT : ∀ ln, ln ∈ T0 → LV ln := fun ln q => by
      rw [List.mem_singleton.mp q]
      exact ⟨Or.inl rfl, Vd.one (Or.inr (Or.inl ⟨rfl, by decide, rfl⟩))⟩
    refine number_eq (T := T0) (Or.inl rfl) ?_ ?_ (fun i hi => ?_) hT w x t l o r
    · rw [hag 6 (Or.inl rfl), hl]; decide +kernel
    · rw [hl]; decide
    · rw [hl] at hi ⊢
      rw [hag 7 (Or.inr (Or.inl rfl)), hag 8 (Or.inr (Or.inr rfl))]
      have hi : i < 2 := hi
      have : ∀ i, i < 2 → gI mA 7 i = kI (([(36, 0), (59, 0)] : List (Nat × Nat)).getD i (0, 0)).1 ∧ gI mA 8 i = kI (([(36, 0), (59, 0)] : List (Nat × Nat)).getD i (0, 0)).2 := by decide +kernel
      exact this i hi
theorem wf_A : WfE (pN P0) P0 lot0 e00 := by
  have no : ∀ j, came e00 j → False := fun j h => by
    rcases h with h | ⟨_, h⟩
    · exact Nat.not_lt_zero _ h
    · exact h rfl
  refine ⟨⟨by decide, fun _ => Nat.zero_le _, fun k q h => ?_, fun p k h => ?_, fun r h => ?_, fun r h => ?_, by decide⟩, by decide, fun k h => absurd h (Nat.not_lt_zero k), fun k _ => ⟨rfl, rfl⟩, fun p k => ?_, fun k q h => ?_, fun r h => ?_, fun j h => (no j h).elim⟩
  · cases h
  · cases h
  · cases h
  · cases h
  · exact ⟨fun h => (by cases h), fun h => (by cases h)⟩
  · cases h
  · cases h
theorem wk_A : Wk mA P0 lot0 e00 := by
  refine ⟨pc_A, ⟨rfl, ⟨?_, ?_, ?_⟩, by decide +kernel, by decide +kernel, by decide +kernel, by decide +kernel, by decide +kernel, by decide +kernel, by decide +kernel⟩, ⟨?_, fun j _ => (show 0 < 4294967296 by decide)⟩, ⟨by decide, fun i j h => absurd h (Nat.not_lt_zero i), fun i h => absurd h (Nat.not_lt_zero i)⟩, wf_A, fun _ => ⟨rfl, rfl, rfl⟩⟩
  · have : ∀ k, k < 7 → gI mA 26 k = kO none := by decide +kernel
    exact this
  · have : ∀ k, k < 7 → gI mA 27 k = kI 0 := by decide +kernel
    exact this
  · have : ∀ k, k < 7 → gI mA 25 k = kO none := by decide +kernel
    exact this
  · have : ∀ k, k < 7 → gI mA 24 k = kI 0 := by decide +kernel
    exact this
/-- of n, as far as it is built -/
def Bs (n : Nat) (m : Mm) (P : Pa) (lot : Nat → Nat) : Prop := Wk m P lot e00 ∧ ICh m ∧ gI m 16 1 = kI 0 ∧ ILaw m ∧ pN P = n
theorem bs_A : Bs 0 mA P0 lot0 := ⟨wk_A, ⟨0, 0, fun _ => (0, 0, 0, 0, 0), Nat.le_refl _, by decide, by decide +kernel, by decide +kernel, fun i h => absurd h (Nat.not_lt_zero i)⟩, by decide +kernel, Or.inl ⟨by decide +kernel, by decide +kernel⟩, rfl⟩
theorem ILaw.frs {C : Nat → Nat → Prop} {μ μ1 : Mm} (h : ILaw μ) (hf : FrC C μ μ1) : ILaw μ1 := by
  unfold ILaw
  rw [hf.2.2, hf.2.2]
  exact h
/-- nothing mended from (p, k) on -/
def Pd (P : Pa) (p k : Nat) : Prop := ∀ a b, p < a ∨ (a = p ∧ k ≤ b) → pW P a b = 0 ∧ pK P a b = 5
def St (P : Pa) : Prop := pM P = 3 ∧ pA P = 0
section BUILT
variable {SC : SCT} {n2 n : Nat} {Q : Int32 → Mm → Prop}
theorem Wp.ret {β : Type} {F : Option (β × Mm)} {r : β} {m : Mm} {Q : β → Mm → Prop} (h : F = some (r, m)) (q : Q r m) : Wp F Q := ⟨r, m, h, q⟩
theorem Bs.mend {m : Mm} {P : Pa} {lot : Nat → Nat} {w num at9 v : Nat} (h : Bs n m P lot) (hk : Kn n w num at9) (hv : vOk w v) : ∃ m1, F_X8_mend (kI num) (kI w) (kI v) m = some (kI (valP P w num), m1) ∧ Bs n m1 (setP P w num v) lot := by
  obtain ⟨h1, h2, h3, h4, h5⟩ := h
  obtain ⟨m1, a1, a2, a3, a4⟩ := k_mend h1 h2 (h5 ▸ hk) hv
  exact ⟨m1, a1, a2, a3, by rw [a4.1 16 1 (by omega)]; exact h3, h4.frs a4, h5⟩
theorem b43 (hL : SC.1 ≤ 260) {k35 : Int32 → Int32 → Mm → Option (Int32 × Mm)} {p : Nat} {lot : Nat → Nat} (hn : n ≤ 6) (hp : p < n) (K : ∀ m P, Bs n m P lot → Pd P (p + 1) 0 → St P → Wp (k35 (kI n) (kI (p + 1)) m) Q) : ∀ c k f m P, k + c = n → c < f → Bs n m P lot → Pd P p k → St P → Wp (F_L_built_43 SC n2 k35 f (kI n) (kI p) (kI k) m) Q := by
  intro c
  induction c with
  | zero =>
    intro k f m P hk hf hB hd hs
    obtain ⟨f, rfl⟩ : ∃ g, f = g + 1 := ⟨f - 1, by omega⟩
    rw [F_L_built_43, if_pos (by rw [kI_le (by omega) (by omega)]; omega), nm_eq, iI_lit, kI_add]
    exact K m P hB (fun a b q => hd a b (by omega)) hs
  | succ c ih =>
    intro k f m P hk hf hB hd hs
    obtain ⟨f, rfl⟩ : ∃ g, f = g + 1 := ⟨f - 1, by omega⟩
    have hkn : k < n := by omega
    have d1 : (10 * p + k) / 10 = p := by omega
    have d2 : (10 * p + k) % 10 = k := by omega
    obtain ⟨w, w1, w2⟩ := worth_ex SC hL (p := p) (by omega) (kI k)
    obtain ⟨m1, a1, a2⟩ := hB.mend (w := 0) (num := 10 * p + k) (at9 := 7 * p + k) (v := w) (Or.inl ⟨rfl, p, k, hp, hkn, rfl, rfl⟩) (Or.inl ⟨rfl, w1⟩)
    have e0 : valP P 0 (10 * p + k) = 0 := by
      show pW P ((10 * p + k) / 10) ((10 * p + k) % 10) = 0
      rw [d1, d2]
      exact (hd p k (Or.inr ⟨rfl, Nat.le_refl _⟩)).1
    rw [e0] at a1
    have c1 : ∀ a b, ¬ (a = p ∧ b = k) → pW (setP P 0 (10 * p + k) w) a b = pW P a b := fun a b z => by
      show u2N (pW P) ((10 * p + k) / 10) ((10 * p + k) % 10) w a b = pW P a b
      rw [d1, d2]
      exact if_neg z
    have c2 : ∀ a b, pK (setP P 0 (10 * p + k) w) a b = pK P a b := fun a b => rfl
    have s1 : St (setP P 0 (10 * p + k) w) := hs
    generalize setP P 0 (10 * p + k) w = P1 at a2 c1 c2 s1
    rw [F_L_built_43, if_neg (by rw [kI_le (by omega) (by omega)]; omega), w2, bnd_some, show iI 10 = kI 10 from rfl, kI_mul, kI_add, show iI 0 = kI 0 from rfl, bnd_eq a1, if_pos rfl]
    by_cases z : p = k
    · rw [if_pos (by rw [z])]
      unfold F_L_built_102
      rw [nm_eq, iI_lit, kI_add]
      refine ih (k + 1) f m1 P1 (by omega) (by omega) a2 (fun a b q => ?_) s1
      rw [c1 a b (by omega), c2]
      exact hd a b (by omega)
    · rw [if_neg (by rw [kI_eq (by omega) (by omega)]; exact z)]
      obtain ⟨w', w1', w2'⟩ := like_ex SC hL (p := p) (by omega) (kI k)
      obtain ⟨m3, b1, b2⟩ := a2.mend (w := 1) (num := 10 * p + k) (at9 := 7 * p + k) (v := w') (Or.inr (Or.inl ⟨rfl, p, k, hp, hkn, z, rfl, rfl⟩)) (Or.inr (Or.inl ⟨rfl, w1'⟩))
      have e1 : valP P1 1 (10 * p + k) = 5 := by
        show pK P1 ((10 * p + k) / 10) ((10 * p + k) % 10) = 5
        rw [d1, d2, c2]
        exact (hd p k (Or.inr ⟨rfl, Nat.le_refl _⟩)).2
      rw [e1] at b1
      have c3 : ∀ a b, pW (setP P1 1 (10 * p + k) w') a b = pW P1 a b := fun a b => rfl
      have c4 : ∀ a b, ¬ (a = p ∧ b = k) → pK (setP P1 1 (10 * p + k) w') a b = pK P1 a b := fun a b z => by
        show u2N (pK P1) ((10 * p + k) / 10) ((10 * p + k) % 10) w' a b = pK P1 a b
        rw [d1, d2]
        exact if_neg z
      have s2 : St (setP P1 1 (10 * p + k) w') := s1
      generalize setP P1 1 (10 * p + k) w' = P2 at b2 c3 c4 s2
      rw [w2', bnd_some, show iI 1 = kI 1 from rfl, bnd_eq b1, if_pos (show kI 5 = iI 5 from rfl)]
      unfold F_L_built_102
      rw [nm_eq, iI_lit, kI_add]
      refine ih (k + 1) f m3 P2 (by omega) (by omega) b2 (fun a b q => ?_) s2
      rw [c3, c1 a b (by omega), c4 a b (by omega), c2]
      exact hd a b (by omega)
theorem b35 (hL : SC.1 ≤ 260) {lot : Nat → Nat} {M A : Nat} (hn : n ≤ 6) (h0 : 1 ≤ n) (hpe : ∀ m, F_L_people SC m = some (kI n, m)) (hM : 1 ≤ M ∧ M ≤ 3 ∧ ∀ m, F_L_most SC m = some (kI M, m)) (hA : A ≤ 1 ∧ ∀ m, F_L_again SC m = some (kI A, m)) (K : ∀ m P L, Bs n m P lot → pM P = M → pA P = A → LotR m n L → Wp (F_L_built_151 SC n2 FU (kI n) (iI 0) m) Q) : ∀ c p f m P, p + c = n → c < f → Bs n m P lot → Pd P p 0 → St P → Wp (F_L_built_35 SC n2 f (kI n) (kI p) m) Q := by
  intro c
  induction c with
  | zero =>
    intro p f m P hp hf hB hd hs
    obtain ⟨f, rfl⟩ : ∃ g, f = g + 1 := ⟨f - 1, by omega⟩
    obtain ⟨m1, a1, a2⟩ := hB.mend (w := 3) (num := 0) (at9 := 0) (v := M) (Or.inr (Or.inr (Or.inr (Or.inl ⟨rfl, rfl, rfl⟩)))) (Or.inr (Or.inr (Or.inr (Or.inl ⟨rfl, hM.1, hM.2.1⟩))))
    have e1 : valP P 3 0 = 3 := hs.1
    rw [e1] at a1
    have e2 : pM (setP P 3 0 M) = M := rfl
    have e3 : pA (setP P 3 0 M) = 0 := hs.2
    generalize setP P 3 0 M = P1 at a2 e2 e3
    obtain ⟨m2, b1, b2⟩ := a2.mend (w := 4) (num := 0) (at9 := 0) (v := A) (Or.inr (Or.inr (Or.inr (Or.inr ⟨rfl, rfl, rfl⟩)))) (Or.inr (Or.inr (Or.inr (Or.inr ⟨rfl, hA.1⟩))))
    have e4 : valP P1 4 0 = 0 := e3
    rw [e4] at b1
    have e5 : pM (setP P1 4 0 A) = M := e2
    have e6 : pA (setP P1 4 0 A) = A := rfl
    generalize setP P1 4 0 A = P2 at b2 e5 e6
    obtain ⟨m3, L, l1, l2, l3⟩ := lot_ex SC hL hn h0 hpe m2
    have h3 : Bs n m3 P2 lot := ⟨b2.1.ex l3, by
      obtain ⟨d, a, E, q1, q2, q3, q4, q5⟩ := b2.2.1
      refine ⟨d, a, E, q1, q2, ?_, ?_, fun i hi => ?_⟩
      · rw [(l3 11 (by omega)).1]; exact q3
      · rw [(l3 11 (by omega)).1]; exact q4
      · rw [(l3 12 (by omega)).1, (l3 13 (by omega)).1, (l3 14 (by omega)).1, (l3 15 (by omega)).1]; exact q5 i hi, by rw [(l3 16 (by omega)).1]; exact b2.2.2.1, by
      unfold ILaw
      rw [(l3 2 (by omega)).2.2, (l3 16 (by omega)).2.2]
      exact b2.2.2.2.1, b2.2.2.2.2⟩
    have k := K m3 P2 L h3 e5 e6 l2
    have a1 : F_X8_mend (iI 0) (iI 3) (kI M) m = some (kI 3, m1) := a1
    have b1 : F_X8_mend (iI 0) (iI 4) (kI A) m1 = some (kI 0, m2) := b1
    rw [F_L_built_35, if_pos (by rw [kI_le (by omega) (by omega)]; omega), hM.2.2, bnd_some, bnd_eq a1, if_pos (show kI 3 = iI 3 from rfl), hA.2, bnd_some, bnd_eq b1, if_pos (show kI 0 = iI 0 from rfl), bnd_eq l1]
    unfold gdN
    rw [if_pos rfl]
    exact k
  | succ c ih =>
    intro p f m P hp hf hB hd hs
    obtain ⟨f, rfl⟩ : ∃ g, f = g + 1 := ⟨f - 1, by omega⟩
    rw [F_L_built_35, if_neg (by rw [kI_le (by omega) (by omega)]; omega)]
    exact b43 hL hn (by omega) (fun m' P' q1 q2 q3 => ih (p + 1) f m' P' (by omega) (by omega) q1 q2 q3) n 0 FU m P (by omega) (by unfold FU; omega) hB hd hs
theorem b7 (hL : SC.1 ≤ 260) (hn : n ≤ 6) (K : ∀ m P lot, Bs n m P lot → Pd P 0 0 → St P → Wp (F_L_built_35 SC n2 FU (kI n) (iI 0) m) Q) : ∀ c i f m P lot, i + c = n → c < f → Bs i m P lot → Pd P 0 0 → St P → Wp (F_L_built_7 SC n2 f (kI n) (kI i) m) Q := by
  intro c
  induction c with
  | zero =>
    intro i f m P lot hi hf hB hd hs
    obtain ⟨f, rfl⟩ : ∃ g, f = g + 1 := ⟨f - 1, by omega⟩
    have hi : i = n := by omega
    subst hi
    rw [F_L_built_7, if_pos (by rw [kI_le (by omega) (by omega)]; exact Nat.le_refl _)]
    exact K m P lot hB hd hs
  | succ c ih =>
    intro i f m P lot hi hf hB hd hs
    obtain ⟨f, rfl⟩ : ∃ g, f = g + 1 := ⟨f - 1, by omega⟩
    obtain ⟨w, w1, w2⟩ := way_ex SC hL (kI i)
    obtain ⟨h1, h2, h3, h4, h5⟩ := hB
    obtain ⟨m1, a1, a2, a3⟩ := k_person (w := w) h1 rfl (by omega) w1
    rw [h5] at a1
    have r := ih (i + 1) f m1 (addP P w) (addL P lot) (by omega) (by omega) ⟨a2, h2.fr a3 (fun a j q => by omega), by rw [a3.1 16 1 (by omega)]; exact h3, h4.frs a3, by show pN P + 1 = i + 1; rw [h5]⟩ hd hs
    rw [F_L_built_7, if_neg (by rw [kI_le (by omega) (by omega)]; omega), w2, bnd_some, bnd_eq a1, if_pos rfl, nm_eq, iI_lit, kI_add]
    exact r
theorem b161 {k151 : Int32 → Int32 → Mm → Option (Int32 × Mm)} {i M A : Nat} {L : Nat → Nat} (hn : n ≤ 6) (hi : i < n) (K : ∀ m P lot, Bs n m P lot → pM P = M → pA P = A → LotR m n L → (∀ j, j < i + 1 → lot j = L j) → Wp (k151 (kI n) (kI (i + 1)) m) Q) : ∀ c a f m P lot, a + c = n → c < f → Bs n m P lot → pM P = M → pA P = A → LotR m n L → (∀ j, j < i → lot j = L j) → i ≤ a → (∀ j, j < a → lot j ≠ L i) → Wp (F_L_built_161 SC n2 k151 f (kI n) (kI i) (kI a) m) Q := by
  intro c
  induction c with
  | zero =>
    intro a f m P lot ha hf hB hM hA hR hj hia hno
    obtain ⟨h1, h2, h3, h4, h5⟩ := hB
    have ok := h1.2.2.2.1
    rw [h5] at ok
    obtain ⟨j, j1, j2⟩ := inj_surj n lot (h5 ▸ ok.2.2) ok.2.1 (L i) (hR.2.2.1 i hi)
    exact absurd j2 (hno j (by omega))
  | succ c ih =>
    intro a f m P lot ha hf hB hM hA hR hj hia hno
    obtain ⟨f, rfl⟩ : ∃ g, f = g + 1 := ⟨f - 1, by omega⟩
    have hB' := hB
    obtain ⟨h1, h2, h3, h4, h5⟩ := hB
    have ok := h1.2.2.2.1
    have hla := ok.2.2 a (by omega)
    have hLi := hR.2.2.1 i hi
    have o1 := k_of10 h1.1 h1.2.2.1 (k := a) (by omega)
    have nx : ∀ m' lot', Bs n m' P lot' → LotR m' n L → (∀ j, j < i + 1 → lot' j = L j) → Wp (F_L_built_210 SC n2 k151 (kI n) (kI i) m') Q := fun m' lot' q1 q2 q3 => by
      unfold F_L_built_210
      rw [nm_eq, iI_lit, kI_add]
      exact K m' P lot' q1 hM hA q2 q3
    rw [F_L_built_161, bnd_eq o1, hR.1, rd_kI (by omega) (by omega), hR.2.1 i hi]
    by_cases z : lot a = L i
    · rw [if_pos (by rw [z])]
      by_cases y : a = i
      · rw [if_pos (by rw [y])]
        refine nx m lot hB' hR (fun j q => ?_)
        by_cases x : j = i
        · rw [x, ← z, y]
        · exact hj j (by omega)
      · obtain ⟨m1, s1, s2, s3⟩ := k_swap (p := i) (k := a) h1 rfl (by omega) (by omega) (by omega)
        have hR1 : LotR m1 n L := by
          refine ⟨by rw [s3.2.2]; exact hR.1, fun j q => ?_, hR.2.2⟩
          rw [s3.1 113 j (by omega)]
          exact hR.2.1 j q
        rw [if_neg (by rw [kI_eq (by omega) (by omega)]; exact y), iI_lit, kI_mul, kI_add, bnd_eq s1, hR1.1, rd_kI (by omega) (by omega), hR1.2.1 i hi, if_pos (by rw [z])]
        refine nx m1 (swL lot i a) ⟨s2, h2.fr s3 (fun a j q => by omega), by rw [s3.1 16 1 (by omega)]; exact h3, h4.frs s3, h5⟩ hR1 (fun j q => ?_)
        rw [swL_at, if_neg (by omega)]
        by_cases x : j = i
        · rw [if_pos x, x, z]
        · rw [if_neg x]; exact hj j (by omega)
    · rw [if_neg (by rw [kI_eq (by omega) (by omega)]; exact z), nm_eq, iI_lit, kI_add]
      refine ih (a + 1) f m P lot (by omega) (by omega) hB' hM hA hR hj (by omega) (fun j q => ?_)
      by_cases x : j = a
      · rw [x]; exact z
      · exact hno j (by omega)
/-! the law told -/
def tb (i : Nat) : Nat := [119, 42, 50, 45, 120, 45, 116, 42, 51, 45, 108, 43, 111, 42, 114].getD i 0
theorem tb_le {i : Nat} (h : i < 15) : tb i ≤ 255 := (by decide : ∀ i, i < 15 → tb i ≤ 255) i h
/-- the row of the text, as far as it is written -/
def Wt (m0 m : Mm) (i : Nat) : Prop := gR m 114 0 = 15 ∧ (∀ j, j < i → gI m 114 j = kI (tb j)) ∧ Ex m0 m
theorem wt_s {m0 m : Mm} {i : Nat} {G : Mm → Option (Int32 × Mm)} (h : Wt m0 m i) (hi : i < 15) (k : ∀ m1, Wt m0 m1 (i + 1) → Wp (G m1) Q) : Wp (wrI (gR m 114 0) m 114 (kI i) (kI (tb i)) G) Q := by
  rw [h.1, wrI_kI (by omega) (by omega)]
  refine k _ ⟨h.1, fun j q => ?_, h.2.2.trans (Ex.pI (by omega))⟩
  rw [gI_pI]
  by_cases z : j = i
  · rw [if_pos ⟨rfl, z⟩, z]
  · rw [if_neg (fun q => z q.2)]; exact h.2.1 j (by omega)
def CTp (a j : Nat) : Prop := (a = 16 ∧ j = 1) ∨ a = 17
theorem tell2 : ∀ c i f m, i + c = 15 → c < f → gR m 114 0 = 15 → (∀ j, j < 15 → gI m 114 j = kI (tb j)) → TpC m i tb → ∃ m', F_L_tell_2 f (kI 15) (kI i) m = some (kI 1, m') ∧ TpC m' 15 tb ∧ FrC CTp m m' := by
  intro c
  induction c with
  | zero =>
    intro i f m hi hf h1 h2 h3
    obtain ⟨f, rfl⟩ : ∃ g, f = g + 1 := ⟨f - 1, by omega⟩
    have hi : i = 15 := by omega
    subst hi
    refine ⟨m, ?_, h3, FrC.refl⟩
    rw [F_L_tell_2, if_pos (by rw [kI_le (by omega) (by omega)]; omega), bnd_eq (k_count3 h3.1), if_pos rfl]
    rfl
  | succ c ih =>
    intro i f m hi hf h1 h2 h3
    obtain ⟨f, rfl⟩ : ∃ g, f = g + 1 := ⟨f - 1, by omega⟩
    obtain ⟨a1, a2, a3⟩ := k_feed h3 (by omega) (tb_le (i := i) (by omega))
    generalize pI (pI m 17 i (kI (tb i))) 16 1 (kI (i + 1)) = m1 at a1 a2 a3
    have a2 : TpC m1 (i + 1) tb := ⟨a2.1, fun j q => by
      rw [a2.2 j q]
      by_cases z : j = i
      · rw [z, up_at]
      · rw [up_ne z]⟩
    obtain ⟨m', i1, i2, i3⟩ := ih (i + 1) f m1 (by omega) (by omega) (by rw [a3.2.2]; exact h1) (fun j q => by rw [a3.1 114 j (by omega)]; exact h2 j q) a2
    refine ⟨m', ?_, i2, FrC.trans (C := CTp) a3 i3⟩
    rw [F_L_tell_2, if_neg (by rw [kI_le (by omega) (by omega)]; omega), h1, rd_kI (by omega) (by omega), h2 i (by omega), bnd_eq a1, show iI 1 = kI 1 from rfl, kI_add, if_pos rfl, nm_eq]
    exact i1
theorem txt_some : (txtR (cch tb 15) 15 130 0 []).2.isSome = true := by decide +kernel
theorem k_law {μ : Mm} {P : Pa} {lot : Nat → Nat} {e : Ev} (h : Wk μ P lot e) (hl : ILaw μ) (ht : TpC μ 15 tb) : ∃ m1 P1, F_X8_law μ = some (iI 1, m1) ∧ Wk m1 P1 lot e ∧ pN P1 = pN P ∧ pM P1 = pM P ∧ pA P1 = pA P := by
  obtain ⟨lp, q, hlp, hq, hne, r1, r2⟩ : ∃ lp q, (lp = 6 ∨ lp = 18) ∧ (q = 6 ∨ q = 18) ∧ lp ≠ q ∧ gR μ 2 6 = lp ∧ gR μ 16 4 = q := by
    rcases hl with ⟨g1, g2⟩ | ⟨g1, g2⟩
    · exact ⟨6, 18, by omega, by omega, by omega, g1, g2⟩
    · exact ⟨18, 6, by omega, by omega, by omega, g1, g2⟩
  have hs1 : shp lp = (9, 3) := by rcases hlp with rfl | rfl <;> rfl
  have hs2 : shp q = (9, 3) := by rcases hq with rfl | rfl <;> rfl
  have H : H8 tb 15 q μ := ⟨by omega, fun i hi => tb_le hi, hq, ht.1, ht.2, r2⟩
  obtain ⟨v, m1, a1, a2⟩ := read8 H
  have g1 := txt_vg (C := cch tb 15) (l := 15) 130 0 [] (fun ln q => absurd q (List.not_mem_nil))
  have g2 := txt_len (b := tb) (l := 15) (by omega) 130 0 [] (Nat.zero_le _) (Nat.le_refl _)
  have g3 := txt_some
  generalize txtR (cch tb 15) 15 130 0 [] = r at g1 g2 g3 a2
  obtain ⟨p, o⟩ := r
  obtain ⟨m', rfl, a3⟩ := a2
  cases o with
  | none => cases g3
  | some T =>
    have a3 : v = iI (-1) ∧ ∃ p, P8 q μ m' p (iI (-1)) (lay T) := a3
    have g1 : ∀ ln, ln ∈ T → LV ln := g1
    have g2 : (lay T).length ≤ 15 + 1 := g2
    obtain ⟨rfl, p8, b3, b4, b5, b6, b7, b8⟩ := a3
    have f1 : FrC (CLaw q) μ (pI m' 16 1 (iI 0)) := (b3.mono fun a j z => Or.inl z).put (Or.inr (Or.inl ⟨rfl, rfl⟩))
    have k4 : gI (pI m' 16 1 (iI 0)) q 2 = kI (lay T).length := by
      rw [gI_pI, if_neg (by omega)]; exact b6
    have k5 : ∀ i, i < (lay T).length → gI (pI m' 16 1 (iI 0)) (q + 1) i = kI ((lay T).getD i (0, 0)).1 ∧ gI (pI m' 16 1 (iI 0)) (q + 2) i = kI ((lay T).getD i (0, 0)).2 := fun i hi => by
      rw [gI_pI, if_neg (by omega), gI_pI, if_neg (by omega)]; exact b8 i hi
    have f0 : FrC (fun a j => CLw q a j ∨ (a = 16 ∧ j = 1)) μ (pI m' 16 1 (iI 0)) := (b3.mono fun a j z => Or.inl z).put (Or.inr ⟨rfl, rfl⟩)
    generalize pI m' 16 1 (iI 0) = m1 at a1 f0 f1 k4 k5
    have f2 : FrC (CLaw q) (pR (pR μ 16 4 lp) 2 6 q) (pR (pR m1 16 4 lp) 2 6 q) := f1.pR
    have x8 : F_X8_law μ = some (iI 1, pR (pR m1 16 4 lp) 2 6 q) := by
      unfold F_X8_law
      rw [bnd_eq a1, if_pos rfl, f1.2.2, r1, gdS_yes hs1]
      unfold F_X6_draftFor
      rw [if_pos hs1, f1.2.2, r2, gdS_yes hs2, nm_eq, bnd_some, gdS_yes hs2, nm_eq]
    have e7 : gR (pR (pR m1 16 4 lp) 2 6 q) 2 6 = q := by rw [gR_pR, if_pos ⟨rfl, rfl⟩]
    have hC := h.1.1.pR (a := 16) (j := 4) (v := lp) (b := 2) (k := 6) (w := q)
    have hC := (hC.law hq f2).wF (F := fun w x t l o r => lawF (nms w x t l o r) T)
    have g : ∀ a, 23 ≤ a → a ≤ 27 → gI (pR (pR m1 16 4 lp) 2 6 q) a = gI μ a := fun a h1 h2 => funext fun j => f0.1 a j (fun z => by unfold CLw at z; omega)
    refine ⟨pR (pR m1 16 4 lp) 2 6 q, wF P fun w x t l o r => lawF (nms w x t l o r) T, x8, ⟨⟨hC, ⟨q, hq, e7, fun μ' hag w x t l' o r => ?_⟩, h.1.2.2.wF⟩, h.2.1.same (fun a h1 h2 => g a h1 (by omega)), h.2.2.1.same (g 24 (by omega) (by omega)), h.2.2.2.1, h.2.2.2.2.1, h.2.2.2.2.2⟩, rfl, rfl, rfl⟩
    refine number_eq hq ?_ (by omega) (fun i hi => ?_) g1 w x t l' o r
    · rw [hag q (Or.inl rfl)]; exact k4
    · rw [hag (q + 1) (Or.inr (Or.inl rfl)), hag (q + 2) (Or.inr (Or.inr rfl))]; exact k5 i hi
theorem b151 {M A w : Nat} {L : Nat → Nat} (hn : n ≤ 6) (hw : w ≤ 1 ∧ ∀ m, F_L_hasLaw SC m = some (kI w, m)) (h2 : n2 = 113 + w) (hQ : ∀ m P lot, Wk m P lot e00 → pN P = n → pM P = M → pA P = A → Q (kI 1) m) : ∀ c i f m P lot, i + c = n → c < f → Bs n m P lot → pM P = M → pA P = A → LotR m n L → (∀ j, j < i → lot j = L j) → Wp (F_L_built_151 SC n2 f (kI n) (kI i) m) Q := by
  intro c
  induction c with
  | zero =>
    intro i f m P lot hi hf hB hM hA hR hj
    obtain ⟨f, rfl⟩ : ∃ g, f = g + 1 := ⟨f - 1, by omega⟩
    rw [F_L_built_151, if_pos (by rw [kI_le (by omega) (by omega)]; omega), hw.2, bnd_some]
    by_cases z : w = 0
    · subst z
      rw [if_pos (show kI 0 = iI 0 from rfl)]
      subst h2
      unfold gdN
      rw [if_pos rfl]
      exact ⟨kI 1, m, rfl, hQ m P lot hB.1 hB.2.2.2.2 hM hA⟩
    · have z : w = 1 := by omega
      subst z
      rw [if_neg (by rw [iI_lit, kI_eq (by omega) (by omega)]; omega), show iI 15 = kI 15 from rfl, nwA_kI (by omega) (by omega)]
      have w0 : Wt m (pR (clr m 114) 114 0 15) 0 := ⟨gR_nw, fun j q => absurd q (Nat.not_lt_zero j), Ex.nw (by omega)⟩
      generalize pR (clr m 114) 114 0 15 = m3 at w0
      refine wt_s (i := 0) w0 (by omega) (fun m4 w1 => ?_)
      refine wt_s (i := 1) w1 (by omega) (fun m5 w2 => ?_)
      refine wt_s (i := 2) w2 (by omega) (fun m6 w3 => ?_)
      refine wt_s (i := 3) w3 (by omega) (fun m7 w4 => ?_)
      refine wt_s (i := 4) w4 (by omega) (fun m8 w5 => ?_)
      refine wt_s (i := 5) w5 (by omega) (fun m9 w6 => ?_)
      refine wt_s (i := 6) w6 (by omega) (fun m10 w7 => ?_)
      refine wt_s (i := 7) w7 (by omega) (fun m11 w8 => ?_)
      refine wt_s (i := 8) w8 (by omega) (fun m12 w9 => ?_)
      refine wt_s (i := 9) w9 (by omega) (fun m13 w10 => ?_)
      refine wt_s (i := 10) w10 (by omega) (fun m14 w11 => ?_)
      refine wt_s (i := 11) w11 (by omega) (fun m15 w12 => ?_)
      refine wt_s (i := 12) w12 (by omega) (fun m16 w13 => ?_)
      refine wt_s (i := 13) w13 (by omega) (fun m17 w14 => ?_)
      refine wt_s (i := 14) w14 (by omega) (fun m18 w15 => ?_)
      obtain ⟨v1, v2, v3⟩ := w15
      have t0 : TpC m18 0 tb := ⟨by rw [(v3 16 (by omega)).1]; exact hB.2.2.1, fun i hi => absurd hi (Nat.not_lt_zero i)⟩
      have l0 : ILaw m18 := by
        unfold ILaw
        rw [(v3 2 (by omega)).2.2, (v3 16 (by omega)).2.2]
        exact hB.2.2.2.1
      obtain ⟨m20, t1, t2, t3⟩ := tell2 15 0 FU m18 (by omega) (by unfold FU; omega) v1 v2 t0
      have k20 := (hB.1.ex v3).frC t3 (fun a j q => by unfold CTp at q; unfold CPc; omega)
      obtain ⟨m22, P1, x1, x2, x3, x4, x5⟩ := k_law k20 (l0.frs t3) t2
      unfold F_L_tell
      rw [v1, show Int32.ofNat 15 = kI 15 from rfl, show iI 0 = kI 0 from rfl, bnd_eq t1, if_neg (by rw [kI_eq (by omega) (by omega)]; omega), bnd_eq x1, if_pos rfl]
      subst h2
      unfold gdN
      rw [if_pos rfl]
      exact ⟨kI 1, m22, rfl, hQ m22 P1 lot x2 (x3.trans hB.2.2.2.2) (x4.trans hM) (x5.trans hA)⟩
  | succ c ih =>
    intro i f m P lot hi hf hB hM hA hR hj
    obtain ⟨f, rfl⟩ : ∃ g, f = g + 1 := ⟨f - 1, by omega⟩
    rw [F_L_built_151, if_neg (by rw [kI_le (by omega) (by omega)]; omega)]
    refine b161 hn (by omega) (fun m' P' lot' q1 q2 q3 q4 q5 => ih (i + 1) f m' P' lot' (by omega) (by omega) q1 q2 q3 q4 q5) (n - i) i FU m P lot (by omega) (by unfold FU; omega) hB hM hA hR hj (Nat.le_refl _) (fun j q y => ?_)
    rw [hj j q] at y
    have := hR.2.2.2 j i (by omega) (by omega) y
    omega
end BUILT
/-- what the script says -/
theorem built_ex (SC : SCT) (hL : SC.1 ≤ 260) : ∃ n M A n2 m P lot, 1 ≤ n ∧ n ≤ 6 ∧ 1 ≤ M ∧ M ≤ 3 ∧ A ≤ 1 ∧ (∀ m, F_L_people SC m = some (kI n, m)) ∧ (∀ m, F_L_most SC m = some (kI M, m)) ∧ (∀ m, F_L_again SC m = some (kI A, m)) ∧ NN ≤ n2 ∧ F_L_built SC n2 mA = some (kI 1, m) ∧ Wk m P lot e00 ∧ pN P = n ∧ pM P = M ∧ pA P = A := by
  obtain ⟨n, n1, n6, hpe⟩ := people_ex SC hL
  obtain ⟨M, M1, M3, hM⟩ := most_ex SC hL
  obtain ⟨A, A1, hA⟩ := again_ex SC hL
  obtain ⟨w, w1, hw⟩ := hasLaw_ex SC hL
  have main : Wp (F_L_built_7 SC (113 + w) FU (kI n) (kI 0) mA) (fun v m => v = kI 1 ∧ ∃ P lot, Wk m P lot e00 ∧ pN P = n ∧ pM P = M ∧ pA P = A) := by
    refine b7 hL n6 (fun m P lot q1 q2 q3 => ?_) n 0 FU mA P0 lot0 (by omega) (by unfold FU; omega) bs_A (fun a b _ => ⟨rfl, rfl⟩) ⟨rfl, rfl⟩
    refine b35 hL n6 n1 hpe ⟨M1, M3, hM⟩ ⟨A1, hA⟩ (fun m P L q1 q2 q3 q4 => ?_) n 0 FU m P (by omega) (by unfold FU; omega) q1 q2 q3
    exact b151 (w := w) n6 ⟨w1, hw⟩ rfl (fun m P lot k1 k2 k3 k4 => ⟨rfl, P, lot, k1, k2, k3, k4⟩) n 0 FU m P lot (by omega) (by unfold FU; omega) q1 q2 q3 q4 (fun j q => absurd q (Nat.not_lt_zero j))
  obtain ⟨v, m, h1, rfl, P, lot, h2, h3, h4, h5⟩ := main
  refine ⟨n, M, A, 113 + w, m, P, lot, n1, n6, M1, M3, A1, hpe, hM, hA, by unfold NN; omega, ?_, h2, h3, h4, h5⟩
  unfold F_L_built
  rw [hpe, bnd_some]
  exact h1
