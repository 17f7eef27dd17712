/-! THE REFERENCE'S PARTY AND EVENINGS -/
def FrC (C : Nat → Nat → Prop) (μ μ1 : Mm) : Prop := (∀ a j, ¬ C a j → gI μ1 a j = gI μ a j) ∧ (∀ a j, gL μ1 a j = gL μ a j) ∧ ∀ a j, gR μ1 a j = gR μ a j
theorem FrC.refl {C : Nat → Nat → Prop} {μ : Mm} : FrC C μ μ := ⟨fun _ _ _ => rfl, fun _ _ => rfl, fun _ _ => rfl⟩
theorem FrC.trans {C : Nat → Nat → Prop} {μ μ1 μ2 : Mm} (h : FrC C μ μ1) (k : FrC C μ1 μ2) : FrC C μ μ2 := ⟨fun a j ha => (k.1 a j ha).trans (h.1 a j ha), fun a j => (k.2.1 a j).trans (h.2.1 a j), fun a j => (k.2.2 a j).trans (h.2.2 a j)⟩
theorem FrC.mono {C C' : Nat → Nat → Prop} {μ μ1 : Mm} (h : FrC C μ μ1) (hs : ∀ a j, C a j → C' a j) : FrC C' μ μ1 := ⟨fun a j ha => h.1 a j (fun q => ha (hs a j q)), h.2.1, h.2.2⟩
theorem FrC.put {C : Nat → Nat → Prop} {μ μ1 : Mm} {a j : Nat} {v : Int32} (h : FrC C μ μ1) (ha : C a j) : FrC C μ (pI μ1 a j v) := ⟨fun x y hx => by
  rw [gI_pI, if_neg (fun q : x = a ∧ y = j => hx (by rw [q.1, q.2]; exact ha))]; exact h.1 x y hx, h.2.1, h.2.2⟩
theorem Fr.c {S : Nat → Prop} {μ μ1 : Mm} (h : Fr S μ μ1) : FrC (fun a _ => S a) μ μ1 := ⟨fun a j q => h.1 a q j, h.2.1, h.2.2⟩
def wr (n o : Nat) : Nat := 2 ^ n - 2 ^ o
theorem wr_le {n o : Nat} (hn : n ≤ 7) (ho : o ≤ n) : wr n o ≤ 127 := (by decide +kernel : ∀ n, n ≤ 7 → ∀ o, o ≤ n → wr n o ≤ 127) n hn o ho
theorem wr_bit {n o k : Nat} (hn : n ≤ 7) (ho : o ≤ n) (hk : k < 8) : (kI (wr n o) >>> (kI k &&& 31)) &&& kI 1 = kI (if o ≤ k ∧ k < n then 1 else 0) := (by decide +kernel : ∀ n, n ≤ 7 → ∀ o, o ≤ n → ∀ k, k < 8 → (kI (wr n o) >>> (kI k &&& 31)) &&& kI 1 = kI (if o ≤ k ∧ k < n then 1 else 0)) n hn o ho k hk
theorem wr_next {n o : Nat} (hn : n ≤ 7) (ho : o < n) : kI (wr n o) &&& (kI (wr n o) - kI 1) = kI (wr n (o + 1)) := (by decide +kernel : ∀ n, n ≤ 7 → ∀ o, o < n → kI (wr n o) &&& (kI (wr n o) - kI 1) = kI (wr n (o + 1))) n hn o ho
theorem wr_clr {n o : Nat} (hn : n ≤ 7) (ho : o < n) : kI (wr n o) &&& ((kI 1 <<< (kI o &&& 31)) ^^^ iI (-1)) = kI (wr n (o + 1)) := (by decide +kernel : ∀ n, n ≤ 7 → ∀ o, o < n → kI (wr n o) &&& ((kI 1 <<< (kI o &&& 31)) ^^^ iI (-1)) = kI (wr n (o + 1))) n hn o ho
theorem wr_new {n : Nat} (hn : n ≤ 7) : (kI 1 <<< (kI n &&& 31)) - kI 1 = kI (wr n 0) := (by decide +kernel : ∀ n, n ≤ 7 → (kI 1 <<< (kI n &&& 31)) - kI 1 = kI (wr n 0)) n hn
theorem wr_0 {n o : Nat} (hn : n ≤ 7) (ho : o ≤ n) : (wr n o = 0) ↔ o = n := (by decide +kernel : ∀ n, n ≤ 7 → ∀ o, o ≤ n → ((wr n o = 0) ↔ o = n)) n hn o ho
/-- the cells in which the reference asks its law -/
def SQ (a : Nat) : Prop := a = 135 ∨ a = 136
def LawR (μ : Mm) (f : Int32 → Int32 → Int32 → Int32 → Int32 → Int32 → Int32) : Prop := (gI μ 113 39 = kI 0 ∧ ∀ w x t l o r, f w x t l o r = w) ∨ (gI μ 113 39 = kI 1 ∧ ∀ μ', (∀ a j, ((a = 130 ∨ a = 131) ∧ j < 130) ∨ (a = 132 ∧ j = 0) ∨ ((a = 133 ∨ a = 134) ∧ j < 61) → gI μ' a j = gI μ a j) → ∃ μ'', F_X9_gives (kI 0) μ' = some (f (gI μ' 135 0) (gI μ' 135 1) (gI μ' 135 2) (gI μ' 135 3) (gI μ' 135 4) (gI μ' 135 5), μ'') ∧ Fr (fun a => a = 136) μ' μ'')
def PR0 (μ : Mm) (P : Pa) : Prop := gI μ 113 1 = kI (pN P) ∧ (∀ p k, p < 7 → k < 7 → gI μ 114 (7 * p + k) = kI (pW P p k)) ∧ (∀ p k, p < 7 → k < 7 → gI μ 115 (7 * p + k) = kI (pK P p k)) ∧ (∀ p, p < 7 → gI μ 116 p = kI (pY P p)) ∧ gI μ 113 5 = kI (pM P) ∧ gI μ 113 6 = kI (pA P)
def PR (μ : Mm) (P : Pa) : Prop := PR0 μ P ∧ LawR μ (pF P) ∧ PaOk P
/-- cells of the reference's party and law -/
def CP (a j : Nat) : Prop := (a = 113 ∧ (j = 1 ∨ j = 5 ∨ j = 6 ∨ j = 39)) ∨ a = 114 ∨ a = 115 ∨ a = 116 ∨ ((a = 130 ∨ a = 131) ∧ j < 130) ∨ (a = 132 ∧ j = 0) ∨ ((a = 133 ∨ a = 134) ∧ j < 61)
theorem PR.fr {C : Nat → Nat → Prop} {μ μ1 : Mm} {P : Pa} (h : PR μ P) (hf : FrC C μ μ1) (hs : ∀ a j, C a j → ¬ CP a j) : PR μ1 P := by
  have e : ∀ a j, CP a j → gI μ1 a j = gI μ a j := fun a j q => hf.1 a j (fun z => hs a j z q)
  obtain ⟨⟨h1, h2, h3, h4, h5, h6⟩, hl, ho⟩ := h
  refine ⟨⟨?_, fun p k hp hk => ?_, fun p k hp hk => ?_, fun p hp => ?_, ?_, ?_⟩, ?_, ho⟩
  · rw [e 113 1 (Or.inl ⟨rfl, by omega⟩)]; exact h1
  · rw [e 114 _ (by unfold CP; omega)]; exact h2 p k hp hk
  · rw [e 115 _ (by unfold CP; omega)]; exact h3 p k hp hk
  · rw [e 116 _ (by unfold CP; omega)]; exact h4 p hp
  · rw [e 113 5 (Or.inl ⟨rfl, by omega⟩)]; exact h5
  · rw [e 113 6 (Or.inl ⟨rfl, by omega⟩)]; exact h6
  · rcases hl with ⟨l1, l2⟩ | ⟨l1, l2⟩
    · exact Or.inl ⟨by rw [e 113 39 (Or.inl ⟨rfl, by omega⟩)]; exact l1, l2⟩
    · refine Or.inr ⟨by rw [e 113 39 (Or.inl ⟨rfl, by omega⟩)]; exact l1, fun μ' q => l2 μ' (fun a j z => ?_)⟩
      rw [q a j z, e a j (by unfold CP; omega)]
theorem PR.n {μ : Mm} {P : Pa} (h : PR μ P) : gI μ 113 1 = kI (pN P) := h.1.1
theorem PR.w {μ : Mm} {P : Pa} (h : PR μ P) {p k : Nat} (hp : p < 7) (hk : k < 7) : gI μ 114 (7 * p + k) = kI (pW P p k) := h.1.2.1 p k hp hk
theorem PR.k {μ : Mm} {P : Pa} (h : PR μ P) {p k : Nat} (hp : p < 7) (hk : k < 7) : gI μ 115 (7 * p + k) = kI (pK P p k) := h.1.2.2.1 p k hp hk
theorem PR.y {μ : Mm} {P : Pa} (h : PR μ P) {p : Nat} (hp : p < 7) : gI μ 116 p = kI (pY P p) := h.1.2.2.2.1 p hp
theorem PR.m {μ : Mm} {P : Pa} (h : PR μ P) : gI μ 113 5 = kI (pM P) := h.1.2.2.2.2.1
theorem PR.a {μ : Mm} {P : Pa} (h : PR μ P) : gI μ 113 6 = kI (pA P) := h.1.2.2.2.2.2
theorem PR.ok {μ : Mm} {P : Pa} (h : PR μ P) : PaOk P := h.2.2
theorem PR.n7 {μ : Mm} {P : Pa} (h : PR μ P) : pN P ≤ 7 := h.2.2.1
/-- the reference's evening x -/
def RR (μ : Mm) (x : Nat) (P : Pa) (lot : Nat → Nat) (e : Ev) : Prop := x ≤ 1 ∧ (∀ k, k < pN P → gI μ 118 (7 * x + k) = kO (eO e k)) ∧ (∀ k, k < pN P → gI μ 119 (7 * x + k) = kI (eT e k)) ∧ gI μ 120 x = kI (wr (pN P) (eP e)) ∧ gI μ 121 x = kO (cu P lot e) ∧ ((pN P = 0 → x = 1) → gI μ 122 x = kI (eP e + 1)) ∧ ((pN P = 0 → x = 1) → gI μ 123 x = kO (eJ e)) ∧ (x = 1 → gI μ 124 x = eN e) ∧ ∀ j, j < pN P → gI μ 117 j = kI (lot j)
/-- the cells of the evening x -/
def CX9 (x a j : Nat) : Prop := ((a = 118 ∨ a = 119) ∧ 7 * x ≤ j ∧ j < 7 * x + 7) ∨ (120 ≤ a ∧ a ≤ 124 ∧ j = x) ∨ a = 135 ∨ a = 136
theorem RR.fr {C : Nat → Nat → Prop} {μ μ1 : Mm} {x : Nat} {P : Pa} {lot : Nat → Nat} {e : Ev} (h : RR μ x P lot e) (hn : pN P ≤ 7) (hf : FrC C μ μ1) (hs : ∀ a j, C a j → ¬ (((a = 118 ∨ a = 119) ∧ 7 * x ≤ j ∧ j < 7 * x + 7) ∨ (120 ≤ a ∧ a ≤ 124 ∧ j = x) ∨ a = 117)) : RR μ1 x P lot e := by
  have q : ∀ a j, (((a = 118 ∨ a = 119) ∧ 7 * x ≤ j ∧ j < 7 * x + 7) ∨ (120 ≤ a ∧ a ≤ 124 ∧ j = x) ∨ a = 117) → gI μ1 a j = gI μ a j := fun a j z => hf.1 a j (fun y => hs a j y z)
  obtain ⟨h0, h1, h2, h3, h4, h5, h6, h7, h8⟩ := h
  refine ⟨h0, fun k hk => ?_, fun k hk => ?_, ?_, ?_, ?_, ?_, fun z => ?_, fun j hj => ?_⟩
  · rw [q 118 _ (by omega)]; exact h1 k hk
  · rw [q 119 _ (by omega)]; exact h2 k hk
  · rw [q 120 _ (by omega)]; exact h3
  · rw [q 121 _ (by omega)]; exact h4
  · rw [q 122 _ (by omega)]; exact h5
  · rw [q 123 _ (by omega)]; exact h6
  · rw [q 124 _ (by omega)]; exact h7 z
  · rw [q 117 _ (by omega)]; exact h8 j hj
theorem PR.cx {μ μ1 : Mm} {P : Pa} {x : Nat} (h : PR μ P) (hf : FrC (CX9 x) μ μ1) : PR μ1 P := h.fr hf (fun a j q z => by unfold CX9 at q; unfold CP at z; omega)
theorem RR.sq {μ μ1 : Mm} {x : Nat} {P : Pa} {lot : Nat → Nat} {e : Ev} (h : RR μ x P lot e) (hn : pN P ≤ 7) (hf : Fr SQ μ μ1) : RR μ1 x P lot e := h.fr hn hf.c (fun a j q => by unfold SQ at q; omega)
theorem PR.sq {μ μ1 : Mm} {P : Pa} (h : PR μ P) (hf : Fr SQ μ μ1) : PR μ1 P := h.fr hf.c (fun a j q z => by unfold SQ at q; unfold CP at z; omega)
theorem bits_loop {n : Nat} {μ : Mm} (hn : n ≤ 7) : ∀ c o s f, o + c = n → c < f → F_X9_bitsOf_4 f (kI s) (kI (wr n o)) μ = some (kI (s + c), μ) := by
  intro c
  induction c with
  | zero =>
    intro o s f ho hf
    obtain ⟨f, rfl⟩ : ∃ g, f = g + 1 := ⟨f - 1, by omega⟩
    have := (wr_0 (n := n) (o := o) hn (by omega)).mpr (by omega)
    unfold F_X9_bitsOf_4
    rw [this]
    simp (disch := omega) only [Nat.add_zero, iI_lit, kI_add, kI_mul, kI_eq, kI_lt, kI_le, kI_neg1, neg1_kI, neg1_lt0, neg1_0le, kO_none, kO_some, nm_eq, bnd_some, rz_0, rz_1, zb_0, zb_1, rd_kI, wrI_kI, wrL_kI, dvI_kI, rmI_kI, if_true, if_false, ite_true, ite_false, reduceIte, Nat.lt_irrefl, Nat.le_refl, not_true, not_false_iff, true_and, and_true, false_and, and_false, and_self, Bool.false_eq_true, eq_self, Decidable.not_not]
  | succ c ih =>
    intro o s f ho hf
    obtain ⟨f, rfl⟩ : ∃ g, f = g + 1 := ⟨f - 1, by omega⟩
    have h0 : ¬ wr n o = 0 := fun z => by have := (wr_0 (n := n) (o := o) hn (by omega)).mp z; omega
    have hl := wr_le (n := n) (o := o) hn (by omega)
    have := ih (o + 1) (s + 1) f (by omega) (by omega)
    have e1 := wr_next (n := n) (o := o) hn (by omega)
    unfold F_X9_bitsOf_4
    simp (disch := omega) only [h0, e1, this, iI_lit, kI_add, kI_mul, kI_eq, kI_lt, kI_le, kI_neg1, neg1_kI, neg1_lt0, neg1_0le, kO_none, kO_some, nm_eq, bnd_some, rz_0, rz_1, zb_0, zb_1, rd_kI, wrI_kI, wrL_kI, dvI_kI, rmI_kI, if_true, if_false, ite_true, ite_false, reduceIte, Nat.lt_irrefl, Nat.le_refl, not_true, not_false_iff, true_and, and_true, false_and, and_false, and_self, Bool.false_eq_true, eq_self, Decidable.not_not]
    congr 2
    congr 1
    omega
theorem bitsOf_eq {n o : Nat} {μ : Mm} (hn : n ≤ 7) (ho : o ≤ n) : F_X9_bitsOf (kI (wr n o)) μ = some (kI (n - o), μ) := by
  have := bits_loop (μ := μ) hn (n - o) o 0 FU (by omega) (by unfold FU; omega)
  unfold F_X9_bitsOf
  rw [iI_lit, this, Nat.zero_add]
theorem bit_eq {n o k : Nat} {μ : Mm} (hn : n ≤ 7) (ho : o ≤ n) (hk : k < 8) : F_X9_bit (kI (wr n o)) (kI k) μ = some (kI (if o ≤ k ∧ k < n then 1 else 0), μ) := by
  unfold F_X9_bit
  rw [iI_lit, wr_bit hn ho hk]
