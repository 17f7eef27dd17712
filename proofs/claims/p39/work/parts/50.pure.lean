/-! PURE: numbers, reads and writes of the memory -/
def kI (k : Nat) : Int32 := iI (k : Int)
def kO (o : Option Nat) : Int32 := match o with
  | none => iI (-1)
  | some k => kI k
theorem iI_lit (k : Nat) : iI (no_index (OfNat.ofNat k)) = kI (OfNat.ofNat k) := rfl
theorem kO_none : kO none = iI (-1) := rfl
theorem kO_some (k : Nat) : kO (some k) = kI k := rfl
theorem iI_toInt {z : Int} (h1 : -2147483648 ≤ z) (h2 : z < 2147483648) : (iI z).toInt = z := Int32.toInt_ofInt_of_le (by omega) (by omega)
theorem kI_toInt {k : Nat} (h : k < 2147483648) : (kI k).toInt = (k : Int) := iI_toInt (by omega) (by omega)
theorem kI_add (a b : Nat) : kI a + kI b = kI (a + b) := by
  unfold kI iI
  rw [← Int32.ofInt_add]
  rfl
theorem kI_mul (a b : Nat) : kI a * kI b = kI (a * b) := by
  unfold kI iI
  rw [← Int32.ofInt_mul]
  rfl
theorem kI_sub {a b : Nat} (h : b ≤ a) : kI a - kI b = kI (a - b) := by
  unfold kI iI
  rw [← Int32.ofInt_sub]
  congr 1
  omega
theorem kI_eq {a b : Nat} (ha : a < 2147483648) (hb : b < 2147483648) : (kI a = kI b) ↔ a = b := by
  constructor
  · intro h
    have := congrArg Int32.toInt h
    rw [kI_toInt ha, kI_toInt hb] at this
    omega
  · intro h; rw [h]
theorem kI_lt {a b : Nat} (ha : a < 2147483648) (hb : b < 2147483648) : (kI a < kI b) ↔ a < b := by
  rw [Int32.lt_iff_toInt_lt, kI_toInt ha, kI_toInt hb]
  omega
theorem kI_le {a b : Nat} (ha : a < 2147483648) (hb : b < 2147483648) : (kI a ≤ kI b) ↔ a ≤ b := by
  rw [Int32.le_iff_toInt_le, kI_toInt ha, kI_toInt hb]
  omega
theorem iI_eq {a b : Int} (ha : -2147483648 ≤ a ∧ a < 2147483648) (hb : -2147483648 ≤ b ∧ b < 2147483648) : (iI a = iI b) ↔ a = b := by
  constructor
  · intro h
    have := congrArg Int32.toInt h
    rwa [iI_toInt ha.1 ha.2, iI_toInt hb.1 hb.2] at this
  · intro h; rw [h]
theorem kI_neg1 {a : Nat} (ha : a < 2147483648) : (kI a = iI (-1)) ↔ False := by
  unfold kI
  rw [iI_eq (by omega) (by omega)]
  constructor
  · intro h; omega
  · intro h; exact h.elim
theorem neg1_kI {a : Nat} (ha : a < 2147483648) : (iI (-1) = kI a) ↔ False := by
  rw [eq_comm]; exact kI_neg1 ha
theorem kI_lt0 {a : Nat} (ha : a < 2147483648) : (kI a < kI 0) ↔ False := by
  rw [kI_lt ha (by omega)]; simp
theorem kI_0le {a : Nat} (ha : a < 2147483648) : (kI 0 ≤ kI a) ↔ True := by
  rw [kI_le (by omega) ha]; simp
theorem neg1_lt0 : (iI (-1) < kI 0) ↔ True := by
  rw [Int32.lt_iff_toInt_lt, iI_toInt (z := -1) (by omega) (by omega), kI_toInt (by omega)]; simp
theorem neg1_0le : (kI 0 ≤ iI (-1)) ↔ False := by
  rw [Int32.le_iff_toInt_le, iI_toInt (z := -1) (by omega) (by omega), kI_toInt (by omega)]; simp
theorem neg1_eq : (iI (-1) = iI (-1)) ↔ True := by simp
theorem kO_neg1 {o : Option Nat} (h : ∀ k, o = some k → k < 2147483648) : (kO o = iI (-1)) ↔ o = none := by
  cases o with
  | none => simp [kO]
  | some k => rw [kO_some, kI_neg1 (h k rfl)]; simp
theorem kO_eq {o q : Option Nat} (h : ∀ k, o = some k → k < 2147483648) (hq : ∀ k, q = some k → k < 2147483648) : (kO o = kO q) ↔ o = q := by
  cases o with
  | none => cases q with
    | none => simp
    | some k => rw [kO_some, kO_none, neg1_kI (hq k rfl)]; simp
  | some j => cases q with
    | none => rw [kO_some, kO_none, kI_neg1 (h j rfl)]; simp
    | some k => rw [kO_some, kO_some, kI_eq (h j rfl) (hq k rfl)]; simp
theorem kI_div {a b : Nat} (ha : a < 2147483648) (hb : b < 2147483648) : kI a / kI b = kI (a / b) := by
  apply Int32.toInt_inj.mp
  have hd : a / b < 2147483648 := Nat.lt_of_le_of_lt (Nat.div_le_self _ _) ha
  rw [Int32.toInt_div_of_ne_right _ _ (by
    intro h
    have h := congrArg Int32.toInt h
    rw [kI_toInt hb] at h
    have h2 : (-1 : Int32).toInt = -1 := by decide
    rw [h2] at h
    omega), kI_toInt ha, kI_toInt hb, kI_toInt hd]
  exact (Int.ofNat_tdiv a b).symm
theorem kI_rem {a b : Nat} (ha : a < 2147483648) (hb : b < 2147483648) : kI a - kI a / kI b * kI b = kI (a % b) := by
  have h := Nat.div_mul_le_self a b
  rw [kI_div ha hb, kI_mul, kI_sub h]
  congr 1
  have := Nat.div_add_mod a b
  rw [Nat.mul_comm] at this
  omega
theorem i32_cases (x : Int32) : (x.toInt < 0) ∨ ∃ k, k < 2147483648 ∧ x = kI k := by
  rcases Int.lt_or_le x.toInt 0 with h | h
  · exact Or.inl h
  · refine Or.inr ⟨x.toInt.toNat, ?_, ?_⟩
    · have := x.toInt_lt; omega
    · unfold kI iI
      rw [Int.toNat_of_nonneg h, Int32.ofInt_toInt]
theorem neg_lt0 {x : Int32} (h : x.toInt < 0) : x < kI 0 := by
  rw [Int32.lt_iff_toInt_lt, kI_toInt (by omega)]; exact h
theorem neg_lt {x : Int32} {k : Nat} (h : x.toInt < 0) (hk : k < 2147483648) : (x < kI k) ↔ True := by
  rw [Int32.lt_iff_toInt_lt, kI_toInt hk]; simp; omega
theorem neg_le {x : Int32} {k : Nat} (h : x.toInt < 0) (hk : k < 2147483648) : (x ≤ kI k) ↔ True := by
  rw [Int32.le_iff_toInt_le, kI_toInt hk]; simp; omega
theorem lt_neg {x : Int32} {k : Nat} (h : x.toInt < 0) (hk : k < 2147483648) : (kI k < x) ↔ False := by
  rw [Int32.lt_iff_toInt_lt, kI_toInt hk]; simp; omega
theorem le_neg {x : Int32} {k : Nat} (h : x.toInt < 0) (hk : k < 2147483648) : (kI k ≤ x) ↔ False := by
  rw [Int32.le_iff_toInt_le, kI_toInt hk]; simp; omega
theorem neg_ne {x : Int32} {k : Nat} (h : x.toInt < 0) (hk : k < 2147483648) : (x = kI k) ↔ False := by
  constructor
  · intro e; rw [e, kI_toInt hk] at h; omega
  · exact False.elim
theorem nm_eq {α β : Type} (v : α) (G : α → β) : nm v G = G v := rfl
theorem bnd_some {γ β : Type} (r : γ) (m : Mm) (G : γ → Mm → Option β) : bnd (some (r, m)) G = G r m := rfl
theorem rd_kI {β : Type} {n k : Nat} (h : k < n) (hn : n ≤ 2147483648) (G : Nat → Option β) : rd n (kI k) G = G k := by
  unfold rd
  rw [kI_toInt (by omega), if_pos (by omega)]
  rfl
theorem wrI_kI {β : Type} {n k : Nat} (h : k < n) (hn : n ≤ 2147483648) (μ : Mm) (a : Nat) (v : Int32) (G : Mm → Option β) : wrI n μ a (kI k) v G = G (pI μ a k v) := by
  unfold wrI
  rw [kI_toInt (by omega), if_pos (by omega)]
  rfl
theorem wrL_kI {β : Type} {n k : Nat} (h : k < n) (hn : n ≤ 2147483648) (μ : Mm) (a : Nat) (v : Int64) (G : Mm → Option β) : wrL n μ a (kI k) v G = G (pL μ a k v) := by
  unfold wrL
  rw [kI_toInt (by omega), if_pos (by omega)]
  rfl
theorem rz_0 (m : Mm) : rz (kI 0) m = some (kI 0, m) := rfl
theorem rz_1 (m : Mm) : rz (kI 1) m = some (kI 1, m) := rfl
theorem zb_0 {β : Type} (G : Option β) : zb (kI 0) G = G := rfl
theorem zb_1 {β : Type} (G : Option β) : zb (kI 1) G = G := rfl
theorem dvI_kI {β : Type} {a b : Nat} (ha : a < 2147483648) (hb : b < 2147483648) (h0 : b ≠ 0) (G : Int32 → Option β) : dvI (kI a) (kI b) G = G (kI (a / b)) := by
  unfold dvI
  rw [if_neg (by rw [iI_lit, kI_eq hb (by omega)]; exact h0), kI_div ha hb]
theorem rmI_kI {β : Type} {a b : Nat} (ha : a < 2147483648) (hb : b < 2147483648) (h0 : b ≠ 0) (G : Int32 → Option β) : rmI (kI a) (kI b) G = G (kI (a % b)) := by
  unfold rmI
  rw [if_neg (by rw [iI_lit, kI_eq hb (by omega)]; exact h0), kI_rem ha hb]
theorem gI_pI {μ : Mm} {a j x y : Nat} {v : Int32} : gI (pI μ a j v) x y = if x = a ∧ y = j then v else gI μ x y := rfl
theorem gI_rI {μ : Mm} {a x y : Nat} {f : Nat → Int32} : gI (rI μ a f) x y = if x = a then f y else gI μ x y := rfl
theorem gI_pL {μ : Mm} {a j x y : Nat} {v : Int64} : gI (pL μ a j v) x y = gI μ x y := rfl
theorem gI_pR {μ : Mm} {a j x y v : Nat} : gI (pR μ a j v) x y = gI μ x y := rfl
theorem gL_pI {μ : Mm} {a j x y : Nat} {v : Int32} : gL (pI μ a j v) x y = gL μ x y := rfl
theorem gL_pL {μ : Mm} {a j x y : Nat} {v : Int64} : gL (pL μ a j v) x y = if x = a ∧ y = j then v else gL μ x y := rfl
theorem gL_pR {μ : Mm} {a j x y v : Nat} : gL (pR μ a j v) x y = gL μ x y := rfl
theorem gL_rI {μ : Mm} {a x y : Nat} {f : Nat → Int32} : gL (rI μ a f) x y = gL μ x y := rfl
theorem gR_pI {μ : Mm} {a j x y : Nat} {v : Int32} : gR (pI μ a j v) x y = gR μ x y := rfl
theorem gR_pL {μ : Mm} {a j x y : Nat} {v : Int64} : gR (pL μ a j v) x y = gR μ x y := rfl
theorem gR_rI {μ : Mm} {a x y : Nat} {f : Nat → Int32} : gR (rI μ a f) x y = gR μ x y := rfl
theorem gR_pR {μ : Mm} {a j x y v : Nat} : gR (pR μ a j v) x y = if x = a ∧ y = j then v else gR μ x y := rfl
/-- only ints of the places S have changed -/
def Fr (S : Nat → Prop) (μ μ1 : Mm) : Prop := (∀ a, ¬ S a → ∀ j, gI μ1 a j = gI μ a j) ∧ (∀ a j, gL μ1 a j = gL μ a j) ∧ ∀ a j, gR μ1 a j = gR μ a j
theorem Fr.refl {S : Nat → Prop} {μ : Mm} : Fr S μ μ := ⟨fun _ _ _ => rfl, fun _ _ => rfl, fun _ _ => rfl⟩
theorem Fr.trans {S : Nat → Prop} {μ μ1 μ2 : Mm} (h : Fr S μ μ1) (k : Fr S μ1 μ2) : Fr S μ μ2 := ⟨fun a ha j => (k.1 a ha j).trans (h.1 a ha j), fun a j => (k.2.1 a j).trans (h.2.1 a j), fun a j => (k.2.2 a j).trans (h.2.2 a j)⟩
theorem Fr.mono {S S' : Nat → Prop} {μ μ1 : Mm} (h : Fr S μ μ1) (hs : ∀ a, S a → S' a) : Fr S' μ μ1 := ⟨fun a ha j => h.1 a (fun q => ha (hs a q)) j, h.2.1, h.2.2⟩
theorem Fr.put {S : Nat → Prop} {μ μ1 : Mm} {a j : Nat} {v : Int32} (h : Fr S μ μ1) (ha : S a) : Fr S μ (pI μ1 a j v) := ⟨fun x hx y => by
  rw [gI_pI, if_neg (fun q : x = a ∧ y = j => hx (by rw [q.1]; exact ha))]; exact h.1 x hx y, h.2.1, h.2.2⟩
theorem Fr.row {S : Nat → Prop} {μ μ1 : Mm} {a : Nat} {f : Nat → Int32} (h : Fr S μ μ1) (ha : S a) : Fr S μ (rI μ1 a f) := ⟨fun x hx y => by
  rw [gI_rI, if_neg (fun q : x = a => hx (by rw [q]; exact ha))]; exact h.1 x hx y, h.2.1, h.2.2⟩
theorem cpI_kI {β : Type} {n0 n1 sp dp k : Nat} (hs : sp + k ≤ n0) (hd : dp + k ≤ n1) (h0 : n0 ≤ 2147483647) (h1 : n1 ≤ 2147483647) (μ : Mm) (a0 a1 : Nat) (G : Mm → Option β) : cpI n0 n1 μ a0 (kI sp) a1 (kI dp) (kI k) G = G (rI μ a1 (va_cpy (gI μ a0) (gI μ a1) sp dp k)) := by
  unfold cpI
  rw [kI_toInt (by omega), kI_toInt (by omega), kI_toInt (by omega), if_pos (by omega)]
  rfl
theorem tsw_kI {β : Type} {k : Nat} (hk : k < 2147483648) {lo : Nat} {fs : List (Option β)} {d : Option β} : tsw (kI k) (lo : Int) fs d = if lo ≤ k ∧ k < lo + fs.length then fs.getD (k - lo) d else d := by
  unfold tsw
  rw [kI_toInt hk]
  by_cases h : lo ≤ k ∧ k < lo + fs.length
  · rw [if_pos h, if_pos (by omega)]
    congr 1
    omega
  · rw [if_neg h, if_neg (by omega)]
theorem tsw_neg {β : Type} {x : Int32} (h : x.toInt < 0) {fs : List (Option β)} {d : Option β} : tsw x 0 fs d = d := by
  unfold tsw
  rw [if_neg (by omega)]
