/-! BEST: SETS OF PARCELS AS NUMBERS -/
def bt (u k : Nat) : Nat := u / 2 ^ k % 2
def pc (u : Nat) : Nat := bt u 0 + bt u 1 + bt u 2 + bt u 3 + bt u 4 + bt u 5 + bt u 6
theorem bt_2 (u k : Nat) : bt u k = 0 ∨ bt u k = 1 := by unfold bt; omega
theorem bt_bit {u k : Nat} (hu : u < 128) (hk : k < 7) : ((kI u >>> (kI k &&& 31)) &&& (iI 1)) = kI (bt u k) := (by decide +kernel : ∀ u, u < 128 → ∀ k, k < 7 → ((kI u >>> (kI k &&& 31)) &&& (iI 1)) = kI (bt u k)) u hu k hk
theorem bt_or {u k : Nat} (hu : u < 128) (hk : k < 7) (h : bt u k = 0) : kI u ||| ((iI 1) <<< (kI k &&& 31)) = kI (u + 2 ^ k) ∧ u + 2 ^ k < 128 ∧ pc (u + 2 ^ k) = pc u + 1 := (by decide +kernel : ∀ u, u < 128 → ∀ k, k < 7 → bt u k = 0 → kI u ||| ((iI 1) <<< (kI k &&& 31)) = kI (u + 2 ^ k) ∧ u + 2 ^ k < 128 ∧ pc (u + 2 ^ k) = pc u + 1) u hu k hk h
theorem bt_lt {n u k : Nat} (hn : n ≤ 7) (hu : u < 2 ^ n) (hk : k < n) (h : bt u k = 0) : u + 2 ^ k < 2 ^ n := by
  have e : ∀ n, n ≤ 7 → ∀ u, u < 128 → u < 2 ^ n → ∀ k, k < n → bt u k = 0 → u + 2 ^ k < 2 ^ n := by decide +kernel
  have h1 : 2 ^ n ≤ 128 := (by decide +kernel : ∀ n, n ≤ 7 → 2 ^ n ≤ 128) n hn
  exact e n hn u (by omega) hu k hk h
def fku (u : Nat) : Nat := if bt u 0 = 0 then 0 else if bt u 1 = 0 then 1 else if bt u 2 = 0 then 2 else if bt u 3 = 0 then 3 else if bt u 4 = 0 then 4 else if bt u 5 = 0 then 5 else 6
theorem pc_n {n u : Nat} (hn : n ≤ 7) (hu : u < 2 ^ n) : pc u ≤ n ∧ (u + 1 < 2 ^ n → pc u < n) ∧ (pc u < n → ∃ k, k < n ∧ bt u k = 0) := by
  have e1 : ∀ n, n ≤ 7 → ∀ u, u < 128 → u < 2 ^ n → pc u ≤ n := by decide +kernel
  have e2 : ∀ n, n ≤ 7 → ∀ u, u < 128 → u + 1 < 2 ^ n → pc u < n := by decide +kernel
  have e3 : ∀ n, n ≤ 7 → ∀ u, u < 128 → u < 2 ^ n → pc u < n → fku u < n := by decide +kernel
  have e4 : ∀ n, n ≤ 7 → ∀ u, u < 128 → u < 2 ^ n → pc u < n → bt u (fku u) = 0 := by decide +kernel
  have h1 : 2 ^ n ≤ 128 := (by decide +kernel : ∀ n, n ≤ 7 → 2 ^ n ≤ 128) n hn
  exact ⟨e1 n hn u (by omega) hu, e2 n hn u (by omega), fun h => ⟨fku u, e3 n hn u (by omega) hu h, e4 n hn u (by omega) hu h⟩⟩
theorem p2_n {n : Nat} (hn : n ≤ 7) : 1 ≤ 2 ^ n ∧ 2 ^ n ≤ 128 ∧ (n ≠ 0 → 2 ≤ 2 ^ n) ∧ ((iI 1) <<< (kI n &&& 31)) - (iI 1) = kI (2 ^ n - 1) ∧ pc (2 ^ n - 1) = n := (by decide +kernel : ∀ n, n ≤ 7 → 1 ≤ 2 ^ n ∧ 2 ^ n ≤ 128 ∧ (n ≠ 0 → 2 ≤ 2 ^ n) ∧ ((iI 1) <<< (kI n &&& 31)) - (iI 1) = kI (2 ^ n - 1) ∧ pc (2 ^ n - 1) = n) n hn
def bc1 (x : Int32) : Int32 := x - (((x.toUInt32 >>> ((iI 1).toUInt32 &&& Int32.toUInt32 31)).toInt32) &&& (iI (1431655765)))
def bc2 (x : Int32) : Int32 := (x &&& (iI (858993459))) + (((x.toUInt32 >>> ((iI 2).toUInt32 &&& Int32.toUInt32 31)).toInt32) &&& (iI (858993459)))
def bc3 (x : Int32) : Int32 := (x + ((x.toUInt32 >>> ((iI 4).toUInt32 &&& Int32.toUInt32 31)).toInt32)) &&& (iI (252645135))
def bc4 (x : Int32) : Int32 := x + ((x.toUInt32 >>> ((iI 8).toUInt32 &&& Int32.toUInt32 31)).toInt32)
def bc5 (x : Int32) : Int32 := x + ((x.toUInt32 >>> ((iI 16).toUInt32 &&& Int32.toUInt32 31)).toInt32)
theorem bitCount_eq {u : Nat} {m : Mm} (hu : u < 128) : F_J6_bitCount_0f7a4 (kI u) m = some (kI (pc u), m) := by
  have e : bc5 (bc4 (bc3 (bc2 (bc1 (kI u))))) &&& (iI 63) = kI (pc u) := (by decide +kernel : ∀ u, u < 128 → bc5 (bc4 (bc3 (bc2 (bc1 (kI u))))) &&& (iI 63) = kI (pc u)) u hu
  rw [← e]
  rfl
/-- the greatest of a row, and what stood before -/
def mf (f : Nat → Nat) : Nat → Nat → Nat → Nat
  | 0, _, a => a
  | c + 1, i, a => mf f c (i + 1) (if a < f i then f i else a)
theorem mf_spec {f : Nat → Nat} : ∀ c i a, a ≤ mf f c i a ∧ (∀ k, i ≤ k → k < i + c → f k ≤ mf f c i a) ∧ (mf f c i a = a ∨ ∃ k, i ≤ k ∧ k < i + c ∧ f k = mf f c i a)
  | 0, i, a => ⟨Nat.le_refl _, fun k h1 h2 => absurd h2 (by omega), Or.inl rfl⟩
  | c + 1, i, a => by
    obtain ⟨h1, h2, h3⟩ := mf_spec (f := f) c (i + 1) (if a < f i then f i else a)
    have e : mf f (c + 1) i a = mf f c (i + 1) (if a < f i then f i else a) := rfl
    rw [e]
    generalize mf f c (i + 1) (if a < f i then f i else a) = r at h1 h2 h3
    have ha : a ≤ (if a < f i then f i else a) ∧ f i ≤ (if a < f i then f i else a) := by split <;> omega
    refine ⟨by omega, fun k k1 k2 => ?_, ?_⟩
    · by_cases z : k = i
      · rw [z]; omega
      · exact h2 k (by omega) (by omega)
    · rcases h3 with h3 | ⟨k, k1, k2, k3⟩
      · by_cases z : a < f i
        · rw [if_pos z] at h3
          exact Or.inr ⟨i, Nat.le_refl _, by omega, h3.symm⟩
        · rw [if_neg z] at h3
          exact Or.inl h3
      · exact Or.inr ⟨k, by omega, by omega, k3⟩
theorem mf_congr {f g : Nat → Nat} : ∀ c i a, (∀ k, i ≤ k → k < i + c → f k = g k) → mf f c i a = mf g c i a
  | 0, _, _, _ => rfl
  | c + 1, i, a, h => by
    show mf f c (i + 1) (if a < f i then f i else a) = mf g c (i + 1) (if a < g i then g i else a)
    rw [h i (Nat.le_refl _) (by omega)]
    exact mf_congr c (i + 1) _ (fun k h1 h2 => h k (by omega) (by omega))
/-- the most that people from p on can get, when u are given -/
def Mx (P : Pa) : Nat → Nat → Nat → Nat
  | 0, _, _ => 0
  | c + 1, p, u => mf (fun k => if bt u k = 1 then 0 else pW P p k + Mx P c (p + 1) (u + 2 ^ k)) (pN P) 0 0
def gB (P : Pa) (c p u k : Nat) : Nat := pW P p k + Mx P c (p + 1) (u + 2 ^ k)
def fB (P : Pa) (c p u k : Nat) : Nat := if bt u k = 1 then 0 else gB P c p u k
theorem Mx_s {P : Pa} {c p u : Nat} : Mx P (c + 1) p u = mf (fB P c p u) (pN P) 0 0 := rfl
theorem Mx_le {P : Pa} (h : PaOk P) : ∀ c p u, Mx P c p u ≤ 99 * c
  | 0, _, _ => Nat.le_refl _
  | c + 1, p, u => by
    obtain ⟨h1, h2, h3⟩ := mf_spec (f := fB P c p u) (pN P) 0 0
    rw [Mx_s]
    rcases h3 with h3 | ⟨k, k1, k2, k3⟩
    · omega
    · rw [← k3]
      unfold fB gB
      have := Mx_le h c (p + 1) (u + 2 ^ k)
      have := h.2.1 p k
      split <;> omega
theorem fB_le {P : Pa} (h : PaOk P) {c p u k : Nat} : fB P c p u k ≤ 99 * (c + 1) := by
  unfold fB gB
  have := Mx_le h c (p + 1) (u + 2 ^ k)
  have := h.2.1 p k
  split <;> omega
/-- what the most is: all get no more, one gets it -/
theorem Mx_is {P : Pa} {c p u : Nat} (hn : pN P ≤ 7) (hu : u < 2 ^ pN P) (hp : pc u < pN P) : (∀ k, k < pN P → bt u k = 0 → gB P c p u k ≤ Mx P (c + 1) p u) ∧ ∃ k, k < pN P ∧ bt u k = 0 ∧ gB P c p u k = Mx P (c + 1) p u := by
  obtain ⟨h1, h2, h3⟩ := mf_spec (f := fB P c p u) (pN P) 0 0
  rw [Mx_s]
  have hle : ∀ k, k < pN P → bt u k = 0 → gB P c p u k ≤ mf (fB P c p u) (pN P) 0 0 := fun k k1 k2 => by
    have := h2 k (by omega) (by omega)
    unfold fB at this
    rwa [if_neg (by omega)] at this
  refine ⟨hle, ?_⟩
  obtain ⟨j, j1, j2⟩ := (pc_n hn hu).2.2 hp
  have hj := hle j j1 j2
  rcases h3 with h3 | ⟨k, k1, k2, k3⟩
  · exact ⟨j, j1, j2, by omega⟩
  · by_cases z : bt u k = 1
    · have : fB P c p u k = 0 := if_pos z
      exact ⟨j, j1, j2, by omega⟩
    · have q : fB P c p u k = gB P c p u k := if_neg z
      have := bt_2 u k
      exact ⟨k, by omega, by omega, by omega⟩
/-- the first by which the most comes -/
def ffB (P : Pa) (c p u : Nat) : Nat → Nat → Option Nat
  | 0, _ => none
  | m + 1, i => if bt u i = 0 ∧ gB P c p u i = Mx P (c + 1) p u then some i else ffB P c p u m (i + 1)
theorem ffB_is {P : Pa} {c p u k : Nat} (h1 : bt u k = 0) (h2 : gB P c p u k = Mx P (c + 1) p u) : ∀ m i, i ≤ k → k < i + m → (∀ j, i ≤ j → j < k → bt u j = 0 → gB P c p u j ≠ Mx P (c + 1) p u) → ffB P c p u m i = some k
  | 0, i, a, b, _ => absurd b (by omega)
  | m + 1, i, a, b, h => by
    unfold ffB
    by_cases z : i = k
    · subst z
      rw [if_pos ⟨h1, h2⟩]
    · rw [if_neg (fun q => h i (Nat.le_refl _) (by omega) q.1 q.2)]
      exact ffB_is h1 h2 m (i + 1) (by omega) (by omega) (fun j j1 j2 => h j (by omega) j2)
theorem ffB_some {P : Pa} {c p u k : Nat} : ∀ m i, ffB P c p u m i = some k → i ≤ k ∧ k < i + m ∧ bt u k = 0 ∧ gB P c p u k = Mx P (c + 1) p u ∧ ∀ j, i ≤ j → j < k → bt u j = 0 → gB P c p u j ≠ Mx P (c + 1) p u
  | 0, i, h => by cases h
  | m + 1, i, h => by
    unfold ffB at h
    by_cases z : bt u i = 0 ∧ gB P c p u i = Mx P (c + 1) p u
    · rw [if_pos z] at h
      cases h
      exact ⟨Nat.le_refl _, by omega, z.1, z.2, fun j j1 j2 => absurd j1 (by omega)⟩
    · rw [if_neg z] at h
      obtain ⟨a1, a2, a3, a4, a5⟩ := ffB_some m (i + 1) h
      refine ⟨by omega, by omega, a3, a4, fun j j1 j2 j3 j4 => ?_⟩
      by_cases y : j = i
      · exact z ⟨by rw [← y]; exact j3, by rw [← y]; exact j4⟩
      · exact a5 j (by omega) j2 j3 j4
theorem ffB_ex {P : Pa} {c p u k : Nat} (h1 : bt u k = 0) (h2 : gB P c p u k = Mx P (c + 1) p u) : ∀ m i, i ≤ k → k < i + m → ∃ j, ffB P c p u m i = some j
  | 0, i, a, b => absurd b (by omega)
  | m + 1, i, a, b => by
    unfold ffB
    by_cases z : bt u i = 0 ∧ gB P c p u i = Mx P (c + 1) p u
    · exact ⟨i, if_pos z⟩
    · rw [if_neg z]
      refine ffB_ex h1 h2 m (i + 1) ?_ (by omega)
      by_cases y : i = k
      · exact absurd ⟨by rw [y]; exact h1, by rw [y]; exact h2⟩ z
      · omega
def gk (P : Pa) (c p u : Nat) : Nat := (ffB P c p u (pN P) 0).getD 0
theorem gk_is {P : Pa} {c p u : Nat} (hn : pN P ≤ 7) (hu : u < 2 ^ pN P) (hp : pc u < pN P) : ffB P c p u (pN P) 0 = some (gk P c p u) ∧ gk P c p u < pN P ∧ bt u (gk P c p u) = 0 := by
  obtain ⟨k, k1, k2, k3⟩ := (Mx_is (P := P) (c := c) (p := p) hn hu hp).2
  obtain ⟨j, hj⟩ := ffB_ex k2 k3 (pN P) 0 (by omega) (by omega)
  have e : gk P c p u = j := by unfold gk; rw [hj]; rfl
  have := ffB_some (pN P) 0 hj
  rw [e]
  exact ⟨hj, by omega, this.2.2.1⟩
/-- the first best parting -/
def gr (P : Pa) : Nat → Nat → Nat → Nat → Nat
  | 0, _, _, _ => 0
  | c + 1, p, u, q => if q = p then gk P c p u else gr P c (p + 1) (u + 2 ^ gk P c p u) q
/-! the class's row of the most behind -/
def B46 (μ : Mm) (P : Pa) (lo : Nat) : Prop := ∀ v, lo ≤ v → v < 2 ^ pN P → gI μ 46 v = kI (Mx P (pN P - pc v) (pc v) v)
theorem wwb_eq {μ : Mm} {P : Pa} {u k lo : Nat} (hP : PC μ P) (h : B46 μ P lo) (hu : u < 2 ^ pN P) (hlo : lo ≤ u + 1) (hp : pc u < pN P) (hk : k < pN P) (hb : bt u k = 0) : F_X7_worthWithAllBehind (kI (pc u)) (kI k) (kI u) μ = some (kI (gB P (pN P - pc u - 1) (pc u) u k), μ) := by
  have hn := hP.n7
  have h2 := p2_n hn
  obtain ⟨o1, o2, o3⟩ := bt_or (u := u) (k := k) (by omega) (by omega) hb
  have o4 := bt_lt hn hu hk hb
  have o5 : 1 ≤ 2 ^ k := Nat.one_le_two_pow
  unfold F_X7_worthWithAllBehind
  rw [bnd_eq (worthFor_n hP hp hk), o1, rd_kI (by omega) (by omega), h (u + 2 ^ k) (by omega) o4, kI_add, o3]
  unfold gB
  rw [show pN P - (pc u + 1) = pN P - pc u - 1 by omega]
theorem fill_in {μ : Mm} {P : Pa} {u : Nat} {k23 : Int32 → Mm → Option (Unit × Mm)} (hP : PC μ P) (h : B46 μ P (u + 1)) (hu : u + 1 < 2 ^ pN P) : ∀ c i a f, i + c = pN P → c < f → a ≤ 1000 → F_X7_fillMostBehind_38 k23 f (kI u) (kI (pc u)) (kI a) (kI i) μ = k23 (kI u + iI (-1)) (pI μ 46 u (kI (mf (fB P (pN P - pc u - 1) (pc u) u) c i a))) := by
  have hn := hP.n7
  have h2 := p2_n hn
  have hp := (pc_n hn (show u < 2 ^ pN P by omega)).2.1 hu
  intro c
  induction c with
  | zero =>
    intro i a f hi hf ha
    obtain ⟨f, rfl⟩ : ∃ g, f = g + 1 := ⟨f - 1, by omega⟩
    rw [F_X7_fillMostBehind_38, hP.n, if_pos (by rw [kI_le (by omega) (by omega)]; omega), wrI_kI (by omega) (by omega), nm_eq]
    rfl
  | succ c ih =>
    intro i a f hi hf ha
    obtain ⟨f, rfl⟩ : ∃ g, f = g + 1 := ⟨f - 1, by omega⟩
    have hfb := fB_le hP.ok (c := pN P - pc u - 1) (p := pc u) (u := u) (k := i)
    have ems : mf (fB P (pN P - pc u - 1) (pc u) u) (c + 1) i a = mf (fB P (pN P - pc u - 1) (pc u) u) c (i + 1) (if a < fB P (pN P - pc u - 1) (pc u) u i then fB P (pN P - pc u - 1) (pc u) u i else a) := rfl
    rw [ems, F_X7_fillMostBehind_38, hP.n, if_neg (by rw [kI_le (by omega) (by omega)]; omega), bt_bit (by omega) (by omega)]
    rcases bt_2 u i with z | z
    · have ef : fB P (pN P - pc u - 1) (pc u) u i = gB P (pN P - pc u - 1) (pc u) u i := if_neg (by omega)
      rw [z, if_pos k0_eq0, bnd_eq (wwb_eq hP h (by omega) (by omega) hp (by omega) z), nm_eq, ← ef]
      have em : mxI (kI a) (kI (fB P (pN P - pc u - 1) (pc u) u i)) = kI (if a < fB P (pN P - pc u - 1) (pc u) u i then fB P (pN P - pc u - 1) (pc u) u i else a) := by
        unfold mxI
        by_cases y : a < fB P (pN P - pc u - 1) (pc u) u i
        · rw [if_pos (by rw [kI_lt (by omega) (by omega)]; exact y), if_pos y]
        · rw [if_neg (by rw [kI_lt (by omega) (by omega)]; exact y), if_neg y]
      unfold F_X7_fillMostBehind_74
      rw [em, nm_eq, kI_a1]
      exact ih (i + 1) _ f (by omega) (by omega) (by split <;> omega)
    · have ef : fB P (pN P - pc u - 1) (pc u) u i = 0 := if_pos z
      rw [z, if_neg (by rw [iI_lit, kI_eq (by omega) (by omega)]; omega), ef, if_neg (by omega)]
      unfold F_X7_fillMostBehind_74
      rw [nm_eq, kI_a1]
      exact ih (i + 1) a f (by omega) (by omega) ha
theorem fill_out {P : Pa} : ∀ u f (μ : Mm), PC μ P → B46 μ P (u + 1) → u + 1 < 2 ^ pN P → u + 1 < f → ∃ μ', F_X7_fillMostBehind_23 f (kI u) μ = some ((), μ') ∧ B46 μ' P 0 ∧ Fr (fun a => a = 46) μ μ' := by
  intro u
  induction u with
  | zero =>
    intro f μ hP h hu hf
    have hn := hP.n7
    have h2 := p2_n hn
    have hp := (pc_n hn (show 0 < 2 ^ pN P by omega)).2.1 hu
    obtain ⟨f, rfl⟩ : ∃ g, f = g + 2 := ⟨f - 2, by omega⟩
    refine ⟨pI μ 46 0 (kI (mf (fB P (pN P - pc 0 - 1) (pc 0) 0) (pN P) 0 0)), ?_, fun v v1 v2 => ?_, Fr.refl.put rfl⟩
    · rw [F_X7_fillMostBehind_23, if_neg (by rw [iI_lit, kI_lt (by omega) (by omega)]; omega), bnd_eq (bitCount_eq (by omega))]
      refine (fill_in hP h hu (pN P) 0 0 FU (by omega) (by unfold FU; omega) (by omega)).trans ?_
      rw [F_X7_fillMostBehind_23, if_pos]
      rw [kI_iI, iI]
      decide
    · rw [gI_pI]
      by_cases z : v = 0
      · rw [if_pos ⟨rfl, z⟩, z, show pN P - pc 0 = (pN P - pc 0 - 1) + 1 by omega, Mx_s]
        rfl
      · rw [if_neg (by omega)]; exact h v (by omega) v2
  | succ u ih =>
    intro f μ hP h hu hf
    have hn := hP.n7
    have h2 := p2_n hn
    have hp := (pc_n hn (show u + 1 < 2 ^ pN P by omega)).2.1 hu
    obtain ⟨f, rfl⟩ : ∃ g, f = g + 1 := ⟨f - 1, by omega⟩
    have fp : Fr (fun a => a = 46) μ (pI μ 46 (u + 1) (kI (mf (fB P (pN P - pc (u + 1) - 1) (pc (u + 1)) (u + 1)) (pN P) 0 0))) := Fr.refl.put rfl
    obtain ⟨μ', i1, i2, i3⟩ := ih f _ (hP.fr fp (fun a q => by omega)) (fun v v1 v2 => by
      rw [gI_pI]
      by_cases z : v = u + 1
      · rw [if_pos ⟨rfl, z⟩, z, show pN P - pc (u + 1) = (pN P - pc (u + 1) - 1) + 1 by omega, Mx_s]
        rfl
      · rw [if_neg (by omega)]; exact h v (by omega) v2) (by omega) (by omega)
    refine ⟨μ', ?_, i2, fp.trans i3⟩
    rw [F_X7_fillMostBehind_23, if_neg (by rw [iI_lit, kI_lt (by omega) (by omega)]; omega), bnd_eq (bitCount_eq (by omega))]
    refine (fill_in hP h hu (pN P) 0 0 FU (by omega) (by unfold FU; omega) (by omega)).trans ?_
    rw [kI_s1]
    exact i1
theorem fillMost_eq {μ : Mm} {P : Pa} (hP : PC μ P) : ∃ μ', F_X7_fillMostBehind μ = some ((), μ') ∧ B46 μ' P 0 ∧ Fr (fun a => a = 46) μ μ' := by
  have hn := hP.n7
  obtain ⟨h1, h2, h3, h4, h5⟩ := p2_n hn
  have fp : Fr (fun a => a = 46) μ (pI μ 46 (2 ^ pN P - 1) (kI 0)) := Fr.refl.put rfl
  have hB : B46 (pI μ 46 (2 ^ pN P - 1) (kI 0)) P (2 ^ pN P - 1) := fun v v1 v2 => by
    have : v = 2 ^ pN P - 1 := by omega
    rw [gI_pI, if_pos ⟨rfl, this⟩, this, h5, Nat.sub_self]
    rfl
  unfold F_X7_fillMostBehind
  rw [hP.n, h4, nm_eq]
  show ∃ μ', (wrI 128 μ 46 (kI (2 ^ pN P - 1)) (kI 0) fun m2 => nm (kI (2 ^ pN P - 1) - iI 1) fun v3 => F_X7_fillMostBehind_23 FU v3 m2) = some ((), μ') ∧ _
  rw [wrI_kI (by omega) (by omega), nm_eq]
  by_cases n0 : pN P = 0
  · refine ⟨pI μ 46 (2 ^ pN P - 1) (kI 0), ?_, fun v v1 v2 => ?_, fp⟩
    · rw [show FU = 999999 + 1 from rfl, F_X7_fillMostBehind_23, if_pos]
      rw [n0]
      decide
    · rw [n0] at v2
      exact hB v (by rw [n0]; omega) (by rw [n0]; exact v2)
  · have h3 := h3 n0
    rw [iI_lit, kI_sub (by omega), show 2 ^ pN P - 1 - 1 = 2 ^ pN P - 2 by omega]
    obtain ⟨μ', i1, i2, i3⟩ := fill_out (2 ^ pN P - 2) FU _ (hP.fr fp (fun a q => by omega)) (by rw [show 2 ^ pN P - 2 + 1 = 2 ^ pN P - 1 by omega]; exact hB) (by omega) (by unfold FU; omega)
    exact ⟨μ', i1, i2, fp.trans i3⟩
theorem first_loop {μ : Mm} {P : Pa} {u : Nat} (hP : PC μ P) (h : B46 μ P 0) (hu : u < 2 ^ pN P) (hp : pc u < pN P) : ∀ c i f, i + c = pN P → c < f → F_X7_firstBest_2 f (kI (pc u)) (kI u) (kI i) μ = some (kO (ffB P (pN P - pc u - 1) (pc u) u c i), μ) := by
  have hn := hP.n7
  have h2 := p2_n hn
  intro c
  induction c with
  | zero =>
    intro i f hi hf
    obtain ⟨f, rfl⟩ : ∃ g, f = g + 1 := ⟨f - 1, by omega⟩
    rw [F_X7_firstBest_2, hP.n, if_pos (by rw [kI_le (by omega) (by omega)]; omega)]
    rfl
  | succ c ih =>
    intro i f hi hf
    obtain ⟨f, rfl⟩ : ∃ g, f = g + 1 := ⟨f - 1, by omega⟩
    have hM : gI μ 46 u = kI (Mx P (pN P - pc u - 1 + 1) (pc u) u) := by
      rw [h u (by omega) hu, show pN P - pc u - 1 + 1 = pN P - pc u by omega]
    have b1 := Mx_le hP.ok (pN P - pc u - 1 + 1) (pc u) u
    have b2 : gB P (pN P - pc u - 1) (pc u) u i ≤ 99 + 99 * (pN P - pc u - 1) := by
      unfold gB
      have := Mx_le hP.ok (pN P - pc u - 1) (pc u + 1) (u + 2 ^ i)
      have := hP.ok.2.1 (pc u) i
      omega
    have e39 : F_X7_firstBest_39 (F_X7_firstBest_2 f) (kI (pc u)) (kI u) (kI i) μ = some (kO (ffB P (pN P - pc u - 1) (pc u) u c (i + 1)), μ) := by
      unfold F_X7_firstBest_39
      rw [nm_eq, kI_a1]
      exact ih (i + 1) f (by omega) (by omega)
    rw [F_X7_firstBest_2, hP.n, if_neg (by rw [kI_le (by omega) (by omega)]; omega), bt_bit (by omega) (by omega)]
    rcases bt_2 u i with z | z
    · rw [z, if_pos k0_eq0, bnd_eq (wwb_eq hP h hu (by omega) hp (by omega) z), rd_kI (by omega) (by omega), hM, e39]
      have eff : ffB P (pN P - pc u - 1) (pc u) u (c + 1) i = if bt u i = 0 ∧ gB P (pN P - pc u - 1) (pc u) u i = Mx P (pN P - pc u - 1 + 1) (pc u) u then some i else ffB P (pN P - pc u - 1) (pc u) u c (i + 1) := rfl
      rw [eff]
      by_cases y : gB P (pN P - pc u - 1) (pc u) u i = Mx P (pN P - pc u - 1 + 1) (pc u) u
      · rw [if_pos (by rw [y]), if_pos ⟨z, y⟩]
        rfl
      · rw [if_neg (by rw [kI_eq (by omega) (by omega)]; exact y), if_neg (fun q => y q.2)]
    · rw [z, if_neg (by rw [iI_lit, kI_eq (by omega) (by omega)]; omega), e39]
      rw [ffB, if_neg (fun q => by omega)]
theorem best8_loop {μ : Mm} {P : Pa} {q : Nat} (hP : PC μ P) (h : B46 μ P 0) (hq : q < pN P) : ∀ c p u v f, p + c = pN P → c < f → u < 2 ^ pN P → pc u = p → p ≤ q → F_X7_bestParting_23 f (kI q) (kI u) v (kI p) μ = some (kI (gr P c p u q), μ) := by
  have hn := hP.n7
  have h2 := p2_n hn
  intro c
  induction c with
  | zero => exact fun p u v f h1 _ _ _ h5 => absurd h1 (by omega)
  | succ c ih =>
    intro p u v f hi hf hu hpc hpq
    obtain ⟨f, rfl⟩ : ∃ g, f = g + 1 := ⟨f - 1, by omega⟩
    subst hpc
    have hc : pN P - pc u - 1 = c := by omega
    obtain ⟨g1, g2, g3⟩ := gk_is (P := P) (c := c) (p := pc u) hn hu (by omega)
    obtain ⟨o1, o2, o3⟩ := bt_or (u := u) (k := gk P c (pc u) u) (by omega) (by omega) g3
    have o4 := bt_lt hn hu g2 g3
    have fl := first_loop hP h hu (by omega) (pN P) 0 FU (by omega) (by unfold FU; omega)
    rw [hc, g1, kO_some] at fl
    have fl : F_X7_firstBest (kI (pc u)) (kI u) μ = some (kI (gk P c (pc u) u), μ) := fl
    rw [F_X7_bestParting_23, hP.n, if_neg (by rw [kI_lt (by omega) (by omega)]; omega), if_neg (by rw [kI_le (by omega) (by omega)]; omega), bnd_eq fl, if_neg (by rw [kI_iI, iI_eq (by omega) (by omega)]; omega), nm_eq, o1]
    unfold F_X7_bestParting_60
    rw [nm_eq, kI_a1]
    by_cases z : q = pc u
    · have e : gr P (c + 1) (pc u) u q = gk P c (pc u) u := if_pos z
      rw [e]
      obtain ⟨f, rfl⟩ : ∃ g, f = g + 1 := ⟨f - 1, by omega⟩
      rw [F_X7_bestParting_23, if_pos (by rw [kI_lt (by omega) (by omega)]; omega)]
    · have e : gr P (c + 1) (pc u) u q = gr P c (pc u + 1) (u + 2 ^ gk P c (pc u) u) q := if_neg z
      rw [e]
      exact ih (pc u + 1) _ _ f (by omega) (by omega) o4 o3 (by omega)
