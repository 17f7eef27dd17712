/-! BEST OF BOTH -/
/-- the reference's way through the parcels of one: what is best so far, and by which parcel -/
def fd (P : Pa) (c p u s : Nat) : Nat → Nat → Int → Option Nat → Int × Option Nat
  | 0, _, b, K => (b, K)
  | m + 1, i, b, K => if bt u i = 0 ∧ b < ((s + gB P c p u i : Nat) : Int) then fd P c p u s m (i + 1) ((s + gB P c p u i : Nat) : Int) (some i) else fd P c p u s m (i + 1) b K
theorem fd_spec {P : Pa} {c p u s : Nat} : ∀ m i b K, (∀ k, i ≤ k → k < i + m → bt u k = 0 → ((s + gB P c p u k : Nat) : Int) ≤ (fd P c p u s m i b K).1) ∧ b ≤ (fd P c p u s m i b K).1 ∧ (((fd P c p u s m i b K).1 = b ∧ (fd P c p u s m i b K).2 = K) ∨ ∃ k, i ≤ k ∧ k < i + m ∧ bt u k = 0 ∧ (fd P c p u s m i b K).2 = some k ∧ ((s + gB P c p u k : Nat) : Int) = (fd P c p u s m i b K).1 ∧ b < (fd P c p u s m i b K).1 ∧ ∀ j, i ≤ j → j < k → bt u j = 0 → ((s + gB P c p u j : Nat) : Int) < (fd P c p u s m i b K).1)
  | 0, i, b, K => ⟨fun k h1 h2 => absurd h2 (by omega), Int.le_refl _, Or.inl ⟨rfl, rfl⟩⟩
  | m + 1, i, b, K => by
    have e : fd P c p u s (m + 1) i b K = if bt u i = 0 ∧ b < ((s + gB P c p u i : Nat) : Int) then fd P c p u s m (i + 1) ((s + gB P c p u i : Nat) : Int) (some i) else fd P c p u s m (i + 1) b K := rfl
    rw [e]
    by_cases z : bt u i = 0 ∧ b < ((s + gB P c p u i : Nat) : Int)
    · rw [if_pos z]
      obtain ⟨h1, h2, h3⟩ := fd_spec (P := P) (c := c) (p := p) (u := u) (s := s) m (i + 1) ((s + gB P c p u i : Nat) : Int) (some i)
      generalize fd P c p u s m (i + 1) ((s + gB P c p u i : Nat) : Int) (some i) = r at h1 h2 h3
      refine ⟨fun k k1 k2 k3 => ?_, by omega, Or.inr ?_⟩
      · by_cases y : k = i
        · rw [y]; exact h2
        · exact h1 k (by omega) (by omega) k3
      · rcases h3 with ⟨a1, a2⟩ | ⟨k, a1, a2, a3, a4, a5, a6, a7⟩
        · exact ⟨i, Nat.le_refl _, by omega, z.1, a2, a1.symm, by omega, fun j j1 j2 => absurd j1 (by omega)⟩
        · refine ⟨k, by omega, by omega, a3, a4, a5, by omega, fun j j1 j2 j3 => ?_⟩
          by_cases y : j = i
          · rw [y]; exact a6
          · exact a7 j (by omega) j2 j3
    · rw [if_neg z]
      obtain ⟨h1, h2, h3⟩ := fd_spec (P := P) (c := c) (p := p) (u := u) (s := s) m (i + 1) b K
      generalize fd P c p u s m (i + 1) b K = r at h1 h2 h3
      have hi : bt u i = 0 → ((s + gB P c p u i : Nat) : Int) ≤ b := fun q => by
        rcases Int.lt_or_le b ((s + gB P c p u i : Nat) : Int) with w | w
        · exact absurd ⟨q, w⟩ z
        · exact w
      refine ⟨fun k k1 k2 k3 => ?_, h2, ?_⟩
      · by_cases y : k = i
        · rw [y] at k3 ⊢
          have := hi k3
          omega
        · exact h1 k (by omega) (by omega) k3
      · rcases h3 with h3 | ⟨k, a1, a2, a3, a4, a5, a6, a7⟩
        · exact Or.inl h3
        · refine Or.inr ⟨k, by omega, by omega, a3, a4, a5, a6, fun j j1 j2 j3 => ?_⟩
          by_cases y : j = i
          · rw [y] at j3 ⊢
            have := hi j3
            omega
          · exact a7 j (by omega) j2 j3
def CB9 (a j : Nat) : Prop := a = 142 ∨ a = 143 ∨ (a = 113 ∧ j = 47)
theorem PR.cb {μ μ1 : Mm} {P : Pa} (h : PR μ P) (hf : FrC CB9 μ μ1) : PR μ1 P := h.fr hf (fun a j q z => by unfold CB9 at q; unfold CP at z; omega)
/-- what lies in the row of the best -/
def Kst (P : Pa) (c p u : Nat) (pre : Nat → Int32) (m0 m : Mm) (K : Option Nat) : Prop := match K with
  | none => ∀ j, gI m 143 j = gI m0 143 j
  | some k => (∀ j, j < p → gI m 143 j = pre j) ∧ gI m 143 p = kI k ∧ ∀ j, p + 1 ≤ j → j < pN P → gI m 143 j = kI (gr P c (p + 1) (u + 2 ^ k) j)
def PostB (P : Pa) (c p u s : Nat) (B : Int) (m m' : Mm) : Prop := FrC CB9 m m' ∧ (∀ j, j < p → gI m' 142 j = gI m 142 j) ∧ gI m' 113 47 = iI (if B < ((s + Mx P c p u : Nat) : Int) then ((s + Mx P c p u : Nat) : Int) else B) ∧ (B < ((s + Mx P c p u : Nat) : Int) → (∀ j, j < p → gI m' 143 j = gI m 142 j) ∧ ∀ j, p ≤ j → j < pN P → gI m' 143 j = kI (gr P c p u j)) ∧ (¬ B < ((s + Mx P c p u : Nat) : Int) → ∀ j, gI m' 143 j = gI m 143 j)
theorem copyB {P : Pa} {g : Int32 → Int32 → Int32 → Mm → Option (Unit × Mm)} : ∀ c i f (m : Mm), PR m P → i + c = pN P → c < f → ∃ m', F_X9_goParts_25 g f (kI i) m = some ((), m') ∧ (∀ j, i ≤ j → j < pN P → gI m' 143 j = gI m 142 j) ∧ (∀ j, j < i → gI m' 143 j = gI m 143 j) ∧ Fr (fun a => a = 143) m m' := by
  intro c
  induction c with
  | zero =>
    intro i f m hP hi hf
    have hn := hP.n7
    obtain ⟨f, rfl⟩ : ∃ g, f = g + 1 := ⟨f - 1, by omega⟩
    refine ⟨m, ?_, fun j j1 j2 => absurd j1 (by omega), fun _ _ => rfl, Fr.refl⟩
    rw [F_X9_goParts_25, hP.n, if_pos (by rw [kI_le (by omega) (by omega)]; omega)]
  | succ c ih =>
    intro i f m hP hi hf
    have hn := hP.n7
    obtain ⟨f, rfl⟩ : ∃ g, f = g + 1 := ⟨f - 1, by omega⟩
    have fp : Fr (fun a => a = 143) m (pI m 143 i (gI m 142 i)) := Fr.refl.put rfl
    obtain ⟨m', i1, i2, i3, i4⟩ := ih (i + 1) f _ (hP.fr fp.c (fun a j q z => by unfold CP at z; omega)) (by omega) (by omega)
    refine ⟨m', ?_, fun j j1 j2 => ?_, fun j hj => ?_, fp.trans i4⟩
    · rw [F_X9_goParts_25, hP.n, if_neg (by rw [kI_le (by omega) (by omega)]; omega), rd_kI (by omega) (by omega), wrI_kI (by omega) (by omega), nm_eq, kI_a1]
      exact i1
    · by_cases z : j = i
      · rw [z, i3 i (by omega), gI_pI, if_pos ⟨rfl, rfl⟩]
      · rw [i2 j (by omega) j2, fp.1 142 (by omega)]
    · rw [i3 j (by omega), gI_pI, if_neg (by omega)]
theorem iI_lt3 {B : Int} {s : Nat} (h1 : -1 ≤ B) (h2 : B ≤ 100000) (hs : s ≤ 100000) : (iI B < kI s) ↔ B < (s : Int) := by
  rw [kI_iI, iI_lt2 (by omega) (by omega)]
theorem bit_is {u k : Nat} {m : Mm} (hu : u < 128) (hk : k < 7) : F_X9_bit (kI u) (kI k) m = some (kI (bt u k), m) := by
  unfold F_X9_bit
  rw [bt_bit hu hk]
theorem parts_loop {P : Pa} {c p u s d : Nat} {m0 : Mm} (hok : PaOk P) (hpc : p + (c + 1) = pN P) (hu : u < 2 ^ pN P) (hp : pc u = p) (hs : s ≤ 99 * p) (ih : ∀ p u s (m : Mm) (B : Int), p + c = pN P → u < 2 ^ pN P → pc u = p → s ≤ 99 * p → PR m P → gI m 113 47 = iI B → -1 ≤ B → B ≤ 100000 → ∃ m', R_190 d (kI p) (kI u) (kI s) m = some ((), m') ∧ PostB P c p u s B m m') : ∀ mc i f b K (m : Mm), i + mc = pN P → mc < f → PR m P → gI m 113 47 = iI b → -1 ≤ b → b ≤ 100000 → FrC CB9 m0 m → (∀ j, j < p → gI m 142 j = gI m0 142 j) → Kst P c p u (gI m0 142) m0 m K → ∃ m', F_X9_goParts_58 (R_190 d) f (kI p) (kI u) (kI s) (kI i) m = some ((), m') ∧ FrC CB9 m0 m' ∧ (∀ j, j < p → gI m' 142 j = gI m0 142 j) ∧ gI m' 113 47 = iI (fd P c p u s mc i b K).1 ∧ Kst P c p u (gI m0 142) m0 m' (fd P c p u s mc i b K).2 := by
  have hn : pN P ≤ 7 := hok.1
  have h2 := p2_n hn
  intro mc
  induction mc with
  | zero =>
    intro i f b K m hi hf hP hb b1 b2 hfr h142 hK
    obtain ⟨f, rfl⟩ : ∃ g, f = g + 1 := ⟨f - 1, by omega⟩
    refine ⟨m, ?_, hfr, h142, hb, hK⟩
    rw [F_X9_goParts_58, hP.n, if_pos (by rw [kI_le (by omega) (by omega)]; omega)]
  | succ mc ihm =>
    intro i f b K m hi hf hP hb b1 b2 hfr h142 hK
    obtain ⟨f, rfl⟩ : ∃ g, f = g + 1 := ⟨f - 1, by omega⟩
    have e : fd P c p u s (mc + 1) i b K = if bt u i = 0 ∧ b < ((s + gB P c p u i : Nat) : Int) then fd P c p u s mc (i + 1) ((s + gB P c p u i : Nat) : Int) (some i) else fd P c p u s mc (i + 1) b K := rfl
    rw [e, F_X9_goParts_58, hP.n, if_neg (by rw [kI_le (by omega) (by omega)]; omega), bnd_eq (bit_is (by omega) (by omega))]
    have hw := hok.2.1 p i
    have hM := Mx_le hok c (p + 1) (u + 2 ^ i)
    have hg : gB P c p u i = pW P p i + Mx P c (p + 1) (u + 2 ^ i) := rfl
    rcases bt_2 u i with z | z
    · obtain ⟨o1, o2, o3⟩ := bt_or (u := u) (k := i) (by omega) (by omega) z
      have o1 : kI u ||| ((kI 1) <<< (kI i &&& 31)) = kI (u + 2 ^ i) := o1
      have o4 := bt_lt hn hu (show i < pN P by omega) z
      have f3 : FrC CB9 m (pI m 142 p (kI i)) := FrC.refl.put (Or.inl rfl)
      have hP3 := hP.cb f3
      have e4 := hP3.w (p := p) (k := i) (by omega) (by omega)
      obtain ⟨m6, i1, i2, i3, i4, i5, i6⟩ := ih (p + 1) (u + 2 ^ i) (s + pW P p i) (pI m 142 p (kI i)) b (by omega) o4 (by omega) (by omega) hP3 (by rw [gI_pI, if_neg (by omega)]; exact hb) b1 b2
      rw [z, if_neg (by rw [iI_lit, kI_eq (by omega) (by omega)]; omega), wrI_kI (by omega) (by omega), iI_lit, kI_mul, kI_add, rd_kI (by omega) (by omega), e4, iI_lit, kI_add, kI_add, o1, bnd_eq i1]
      unfold F_X9_goParts_115
      rw [nm_eq, iI_lit, kI_add]
      have hfr6 : FrC CB9 m0 m6 := (hfr.trans f3).trans i2
      have h142' : ∀ j, j < p → gI m6 142 j = gI m0 142 j := fun j hj => by
        rw [i3 j (by omega), gI_pI, if_neg (by omega)]
        exact h142 j hj
      have es : s + pW P p i + Mx P c (p + 1) (u + 2 ^ i) = s + gB P c p u i := by rw [hg]; omega
      rw [es] at i4 i5 i6
      by_cases y : b < ((s + gB P c p u i : Nat) : Int)
      · rw [if_pos ⟨rfl, y⟩]
        rw [if_pos y] at i4
        obtain ⟨k1, k2⟩ := i5 y
        refine ihm (i + 1) f _ (some i) m6 (by omega) (by omega) (hP3.cb i2) i4 (by omega) (by omega) hfr6 h142' ⟨fun j hj => ?_, ?_, fun j j1 j2 => k2 j j1 j2⟩
        · rw [k1 j (by omega), gI_pI, if_neg (by omega)]
          exact h142 j hj
        · rw [k1 p (by omega), gI_pI, if_pos ⟨rfl, rfl⟩]
      · rw [if_neg (fun q => y q.2)]
        rw [if_neg y] at i4
        have k1 := i6 y
        have k2 : ∀ j, gI m6 143 j = gI m 143 j := fun j => by rw [k1 j, gI_pI, if_neg (by omega)]
        refine ihm (i + 1) f b K m6 (by omega) (by omega) (hP3.cb i2) i4 b1 b2 hfr6 h142' ?_
        cases K with
        | none => exact fun j => (k2 j).trans (hK j)
        | some k => exact ⟨fun j hj => (k2 j).trans (hK.1 j hj), (k2 p).trans hK.2.1, fun j j1 j2 => (k2 j).trans (hK.2.2 j j1 j2)⟩
    · rw [z, if_pos (show kI 1 = iI 1 from rfl), if_neg (fun q => by omega)]
      unfold F_X9_goParts_115
      rw [nm_eq, kI_a1]
      exact ihm (i + 1) f b K m (by omega) (by omega) hP hb b1 b2 hfr h142 hK
theorem parts_eq {P : Pa} (hok : PaOk P) : ∀ c d, c < d → ∀ p u s (m : Mm) (B : Int), p + c = pN P → u < 2 ^ pN P → pc u = p → s ≤ 99 * p → PR m P → gI m 113 47 = iI B → -1 ≤ B → B ≤ 100000 → ∃ m', R_190 d (kI p) (kI u) (kI s) m = some ((), m') ∧ PostB P c p u s B m m' := by
  have hn : pN P ≤ 7 := hok.1
  have h2 := p2_n hn
  intro c
  induction c with
  | zero =>
    intro d hd p u s m B hp hu hpc hs hP hB b1 b2
    obtain ⟨d, rfl⟩ : ∃ g, d = g + 1 := ⟨d - 1, by omega⟩
    have hpn : p = pN P := by omega
    have hM : ((s + Mx P 0 p u : Nat) : Int) = (s : Int) := rfl
    unfold PostB
    rw [hM]
    show ∃ m', B_X9_goParts (R_190 d) (kI p) (kI u) (kI s) m = some ((), m') ∧ _
    unfold B_X9_goParts
    rw [hP.n, if_pos (by rw [hpn]), hB]
    by_cases z : B < (s : Int)
    · rw [if_pos ((iI_lt3 b1 b2 (by omega)).mpr z), nm_eq]
      have f1 : FrC CB9 m (pI m 113 47 (kI s)) := FrC.refl.put (Or.inr (Or.inr ⟨rfl, rfl⟩))
      obtain ⟨m', i1, i2, i3, i4⟩ := copyB (P := P) (g := R_190 d) (pN P) 0 FU _ (hP.cb f1) (by omega) (by unfold FU; omega)
      refine ⟨m', i1, f1.trans (i4.c.mono fun a j q => Or.inr (Or.inl q)), fun j hj => ?_, ?_, fun _ => ⟨fun j hj => ?_, fun j j1 j2 => absurd j1 (by omega)⟩, fun q => absurd z q⟩
      · rw [i4.1 142 (by omega), gI_pI, if_neg (by omega)]
      · rw [if_pos z, i4.1 113 (by omega), gI_pI, if_pos ⟨rfl, rfl⟩]
        rfl
      · rw [i2 j (by omega) (by omega), gI_pI, if_neg (by omega)]
    · rw [if_neg (fun q => z ((iI_lt3 b1 b2 (by omega)).mp q))]
      exact ⟨m, rfl, FrC.refl, fun _ _ => rfl, by rw [if_neg z]; exact hB, fun q => absurd q z, fun _ _ => rfl⟩
  | succ c ih =>
    intro d hd p u s m B hp hu hpc hs hP hB b1 b2
    obtain ⟨d, rfl⟩ : ∃ g, d = g + 1 := ⟨d - 1, by omega⟩
    show ∃ m', B_X9_goParts (R_190 d) (kI p) (kI u) (kI s) m = some ((), m') ∧ _
    unfold B_X9_goParts
    rw [hP.n, if_neg (by rw [kI_eq (by omega) (by omega)]; omega)]
    obtain ⟨m', i1, i2, i3, i4, i5⟩ := parts_loop (m0 := m) hok hp hu hpc hs (ih d (by omega)) (pN P) 0 FU B none m (by omega) (by unfold FU; omega) hP hB b1 b2 FrC.refl (fun _ _ => rfl) (fun _ => rfl)
    refine ⟨m', i1, i2, i3, ?_⟩
    obtain ⟨s1, s2, s3⟩ := fd_spec (P := P) (c := c) (p := p) (u := u) (s := s) (pN P) 0 B none
    obtain ⟨x1, k', x2, x3, x4⟩ := Mx_is (P := P) (c := c) (p := p) hn hu (by omega)
    have y1 := s1 k' (by omega) (by omega) x3
    rw [x4] at y1
    generalize fd P c p u s (pN P) 0 B none = r at i4 i5 s1 s2 s3 y1
    rcases s3 with ⟨a1, a2⟩ | ⟨k, a1, a2, a3, a4, a5, a6, a7⟩
    · have hno : ¬ B < ((s + Mx P (c + 1) p u : Nat) : Int) := by omega
      rw [a2] at i5
      exact ⟨by rw [if_neg hno, i4, a1], fun q => absurd q hno, fun _ j => i5 j⟩
    · have hk := x1 k (by omega) a3
      have hyes : B < ((s + Mx P (c + 1) p u : Nat) : Int) := by omega
      have heq : gB P c p u k = Mx P (c + 1) p u := by omega
      have hff := ffB_is a3 heq (pN P) 0 (by omega) (by omega) (fun j j1 j2 j3 j4 => by
        have := a7 j (by omega) j2 j3
        omega)
      have hgk : gk P c p u = k := by unfold gk; rw [hff]; rfl
      rw [a4] at i5
      obtain ⟨q1, q2, q3⟩ := i5
      refine ⟨by rw [if_pos hyes, i4, ← a5, heq], fun _ => ⟨fun j hj => q1 j hj, fun j j1 j2 => ?_⟩, fun q => absurd hyes q⟩
      by_cases y : j = p
      · have e : gr P (c + 1) p u j = k := by
          show (if j = p then gk P c p u else _) = k
          rw [if_pos y, hgk]
        rw [e, y]
        exact q2
      · have e : gr P (c + 1) p u j = gr P c (p + 1) (u + 2 ^ k) j := by
          show (if j = p then _ else gr P c (p + 1) (u + 2 ^ gk P c p u) j) = _
          rw [if_neg y, hgk]
        rw [e]
        exact q3 j (by omega) j2
theorem g_best (x : Int32) : Good (F_X8_best x) (F_X9_best x) := by
  intro μ hI
  obtain ⟨P, lot, e, hR, hD⟩ := hI.split
  have hn := hR.1.n7
  have hok := hR.1.ok
  have h2 := p2_n hn
  by_cases hx : x = iI (-1) ∨ ∃ k, k < pN P ∧ x = kI k
  · obtain ⟨m1, a1, a2, a3⟩ := fillMost_eq hR.1
    have f1 : FrC CT μ m1 := a3.c.mono fun a j q => Or.inl (by omega)
    have hR1 := hR.th f1
    have hP1 := hR1.1
    have f2 : FrC CB9 m1 (pI m1 113 47 (iI (-1))) := FrC.refl.put (Or.inr (Or.inr ⟨rfl, rfl⟩))
    have hQ2 := hR1.2.1.cb f2
    have p0 : pc 0 = 0 := by decide
    obtain ⟨m3, b1, b2, b3, b4, b5, b6⟩ := parts_eq hok (pN P) 40 (by omega) 0 0 0 _ (-1) (by omega) (by omega) p0 (by omega) hQ2 (by rw [gI_pI, if_pos ⟨rfl, rfl⟩]) (by omega) (by omega)
    have hyes : (-1 : Int) < ((0 + Mx P (pN P) 0 0 : Nat) : Int) := by omega
    rw [if_pos hyes, Nat.zero_add] at b4
    have b5 := (b5 hyes).2
    have f3 : FrC CT m1 m3 := (f2.trans b2).mono fun a j q => by unfold CB9 at q; unfold CT; omega
    have hI3 := (hI.th f1).th f3
    have h9 : F_X9_best x m1 = if iI 0 ≤ x then (rd 7 x fun j6 => some ((gI m3 143 j6), m3)) else some ((gI m3 113 47), m3) := by
      unfold F_X9_best
      rw [hR1.2.1.n, bnd_eq (inP_yes hn hx), if_neg k1_ne0, nm_eq]
      show (bnd (R_190 40 (kI 0) (kI 0) (kI 0) (pI m1 113 47 (iI (-1)))) _) = _
      rw [bnd_eq b1]
    rcases hx with rfl | ⟨k, hk, rfl⟩
    · refine ⟨kI (Mx P (pN P) 0 0), m1, m3, ?_, ?_, hI3⟩
      · have e0 := a2 0 (by omega) (by omega)
        rw [p0] at e0
        unfold F_X8_best F_X8_best_18 F_X7_bestParting
        rw [if_pos rfl, bnd_eq a1, if_pos rfl, iI_lit, rd_kI (by omega) (by omega), bnd_some, e0]
        rfl
      · rw [h9, if_neg (by rw [iI_le2 (by omega) (by omega)]; omega), b4]
        rfl
    · have nm1 : ¬ kI k = iI (-1) := by rw [kI_iI, iI_eq (by omega) (by omega)]; omega
      refine ⟨kI (gr P (pN P) 0 0 k), m1, m3, ?_, ?_, hI3⟩
      · have l8 := best8_loop hP1 a2 hk (pN P) 0 0 (iI (-1)) FU (by omega) (by unfold FU; omega) (by omega) p0 (by omega)
        unfold F_X8_best F_X8_best_18 F_X7_bestParting
        rw [if_neg nm1, bnd_eq (isOne_yes hR.1 hk), if_neg k1_ne0, bnd_eq a1, if_neg nm1, bnd_id]
        exact l8
      · rw [h9, if_pos (by rw [iI_lit, kI_le (by omega) (by omega)]; omega), rd_kI (by omega) (by omega), b5 k (by omega) hk]
  · have x1 : x ≠ iI (-1) := fun q => hx (Or.inl q)
    have x2 : ∀ k, k < pN P → x ≠ kI k := fun k q1 q2 => hx (Or.inr ⟨k, q1, q2⟩)
    refine Good.bad (v := iI (-1)) hI ?_ ?_
    · unfold F_X8_best
      rw [if_neg x1, bnd_eq (isOne_no hR.1 x2), if_pos k0_eq0]
    · unfold F_X9_best
      rw [hR.2.1.n, bnd_eq (inP_no hn x1 x2), if_pos k0_eq0]
