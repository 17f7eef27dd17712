/-! NUMBERS OF BOTH -/
def z1 (z : Int32) : Int32 := (z * iI (1103515245)) + iI 12345
def z8 (z : Int32) : Int32 := (z.toUInt32 >>> ((iI 8).toUInt32 &&& Int32.toUInt32 31)).toInt32
theorem z8_nn (z : Int32) : ∃ u, u < 2147483648 ∧ z8 z = kI u := by
  rcases i32_cases (z8 z) with q | ⟨k, k1, e⟩
  · exfalso
    have h8 : ((iI 8).toUInt32 &&& Int32.toUInt32 31) = (8 : UInt32) := by decide
    have hlt : (z.toUInt32 >>> (8 : UInt32)).toNat < 16777216 := by
      rw [UInt32.toNat_shiftRight, Nat.shiftRight_eq_div_pow]
      have := z.toUInt32.toNat_lt
      have e8 : (8 : UInt32).toNat % 32 = 8 := by decide
      rw [e8]
      omega
    unfold z8 at q
    rw [h8] at q
    have e : (z.toUInt32 >>> (8 : UInt32)).toInt32.toInt = ((z.toUInt32 >>> (8 : UInt32)).toNat : Int) := BitVec.toInt_eq_toNat_of_lt (by
      show 2 * (z.toUInt32 >>> (8 : UInt32)).toNat < 2 ^ 32
      omega)
    omega
  · exact ⟨k, k1, e⟩
def zj (z : Int32) (i : Nat) : Nat := (z8 z).toInt.toNat % (i + 1)
theorem zj_lt {z : Int32} {i : Nat} : zj z i < i + 1 := Nat.mod_lt _ (by omega)
theorem rm_z8 {β : Type} {z : Int32} {i : Nat} (hi : i < 1000) (G : Int32 → Option β) : rmI ((z.toUInt32 >>> ((iI 8).toUInt32 &&& Int32.toUInt32 31)).toInt32) (kI (i + 1)) G = G (kI (zj z i)) := by
  obtain ⟨u, u1, u2⟩ := z8_nn z
  show rmI (z8 z) (kI (i + 1)) G = _
  unfold zj
  rw [u2, rmI_kI u1 (by omega) (by omega), kI_toInt u1]
  rfl
theorem kI_a1 (k : Nat) : kI k + iI 1 = kI (k + 1) := by rw [iI_lit, kI_add]
theorem kI_s1 (k : Nat) : kI (k + 1) + iI (-1) = kI k := by
  unfold kI iI
  rw [← Int32.ofInt_add]
  congr 1
  omega
/-- a lot made anew by draws -/
def shf : Nat → Int32 → (Nat → Nat) → Int32 × (Nat → Nat)
  | 0, z, L => (z, L)
  | i + 1, z, L => shf i (z1 z) (swL L (i + 1) (zj (z1 z) (i + 1)))
theorem shf_ok {P : Pa} {n : Nat} : ∀ i z L, i < n → LotOk n P L → LotOk n P (shf i z L).2
  | 0, _, _, _, h => h
  | i + 1, z, L, hi, h => shf_ok i (z1 z) _ (by omega) (swL_ok h hi (by have := zj_lt (z := z1 z) (i := i + 1); omega))
theorem shf_7 : ∀ i z L, i < 7 → (∀ j, j < 7 → L j < 4294967296) → ∀ j, j < 7 → (shf i z L).2 j < 4294967296
  | 0, _, _, _, h => h
  | i + 1, z, L, hi, h => shf_7 i (z1 z) _ (by omega) (fun j hj => by
      have := zj_lt (z := z1 z) (i := i + 1)
      rw [swL_at]
      split
      · exact h _ hi
      · split
        · exact h _ (by omega)
        · exact h j hj)
theorem shf8 {k14 : Int32 → Int32 → Int32 → Mm → Option (Unit × Mm)} {d t : Int32} : ∀ i z L f (μ : Mm), i < 7 → i < f → (∀ j, j < 7 → gI μ 48 j = kI (L j)) → ∃ μ', F_X7_drawNumbers_43 k14 24 f d z t (kI i) μ = F_X7_drawNumbers_43 k14 24 (f - i) d (shf i z L).1 t (kI 0) μ' ∧ (∀ j, j < 7 → gI μ' 48 j = kI ((shf i z L).2 j)) ∧ Fr (fun a => a = 48) μ μ' := by
  intro i
  induction i with
  | zero => exact fun z L f μ _ _ h => ⟨μ, rfl, h, Fr.refl⟩
  | succ i ih =>
    intro z L f μ hi hf h
    obtain ⟨f, rfl⟩ : ∃ g, f = g + 1 := ⟨f - 1, by omega⟩
    have hj := zj_lt (z := z1 z) (i := i + 1)
    have s1 := swapM (μ := μ) (a := 48) (i := i + 1) (j := zj (z1 z) (i + 1)) (m := 7) h hi (by omega)
    have fp : Fr (fun a => a = 48) μ (pI (pI μ 48 (i + 1) (kI (L (zj (z1 z) (i + 1))))) 48 (zj (z1 z) (i + 1)) (kI (L (i + 1)))) := (Fr.put (S := fun a => a = 48) Fr.refl rfl).put rfl
    obtain ⟨μ', i1, i2, i3⟩ := ih (z1 z) (swL L (i + 1) (zj (z1 z) (i + 1))) f _ (by omega) (by omega) s1
    refine ⟨μ', ?_, i2, fp.trans i3⟩
    rw [Nat.add_sub_add_right]
    refine Eq.trans ?_ i1
    have e1 := h (i + 1) hi
    have e2 := h (zj (z1 z) (i + 1)) (by omega)
    rw [F_X7_drawNumbers_43, if_neg (by rw [iI_lit, kI_lt (by omega) (by omega)]; omega), nm_eq, kI_a1, rm_z8 (by omega)]
    show (rd 7 (kI (i + 1)) fun j5 => nm (gI μ 48 j5) fun v6 => rd 7 (kI (zj (z1 z) (i + 1))) fun j7 => wrI 7 μ 48 (kI (i + 1)) (gI μ 48 j7) fun m8 => wrI 7 m8 48 (kI (zj (z1 z) (i + 1))) v6 fun m9 => nm (kI (i + 1) + iI (-1)) fun v10 => F_X7_drawNumbers_43 k14 24 f d (z1 z) t v10 m9) = _
    rw [rd_kI (by omega) (by omega), nm_eq, rd_kI (by omega) (by omega), wrI_kI (by omega) (by omega), wrI_kI (by omega) (by omega), nm_eq, kI_s1, e1, e2]
/-- sums by places, with an evening more -/
def sad (P : Pa) (v : Ev) (L S : Nat → Nat) : Nat → Nat := fun p => if p < pN P then S p + pW P (L p) (has0 v (L p)) else S p
theorem sad_wg {P : Pa} {L S : Nat → Nat} (w g : Int32) : sad P (evE P L w g) L S = sad P (evE P L (kI 0) (kI 0)) L S := by
  by_cases h : 0 < pN P
  · rw [ev_wg h w g (kI 0) (kI 0)]
  · funext p
    unfold sad
    rw [if_neg (by omega), if_neg (by omega)]
/-- sums of draws -/
def drw (P : Pa) (lot : Nat → Nat) : Nat → Int32 → (Nat → Nat) → Nat → Nat
  | 0, _, S => S
  | c + 1, z, S => drw P lot c (shf (pN P - 1) z lot).1 (sad P (evE P (shf (pN P - 1) z lot).2 (kI 0) (kI 0)) (shf (pN P - 1) z lot).2 S)
theorem drw_le {P : Pa} {lot : Nat → Nat} (h : PaOk P) : ∀ c z S b, (∀ p, S p ≤ b) → ∀ p, drw P lot c z S p ≤ b + 99 * c
  | 0, _, S, b, q, p => by
    have := q p
    show S p ≤ _
    omega
  | c + 1, z, S, b, q, p => by
    have := drw_le h (lot := lot) c (shf (pN P - 1) z lot).1 (sad P (evE P (shf (pN P - 1) z lot).2 (kI 0) (kI 0)) (shf (pN P - 1) z lot).2 S) (b + 99) (fun p => by
      have := q p
      unfold sad
      split
      · have := h.2.1 ((shf (pN P - 1) z lot).2 p) (has0 (evE P (shf (pN P - 1) z lot).2 (kI 0) (kI 0)) ((shf (pN P - 1) z lot).2 p))
        omega
      · omega) p
    show drw P lot c _ _ p ≤ _
    omega
theorem sum8_loop {P : Pa} {v : Ev} {L : Nat → Nat} {k14 : Int32 → Int32 → Int32 → Mm → Option (Unit × Mm)} {d z : Int32} {t : Nat} (hL : ∀ p, p < pN P → L p < pN P) (hf : Full P v) : ∀ c i S f (μ : Mm), PC μ P → RC μ 50 v → (∀ j, j < 7 → gI μ 48 j = kI (L j)) → (∀ p, p < 7 → gI μ 49 p = kI (S p)) → i + c = pN P → c < f → ∃ μ', F_X7_drawNumbers_123 k14 24 f d z (kI t) 50 (kI i) μ = k14 d z (kI (t + 1)) μ' ∧ (∀ p, p < 7 → gI μ' 49 p = kI (if i ≤ p then sad P v L S p else S p)) ∧ Fr (fun a => a = 49) μ μ' := by
  intro c
  induction c with
  | zero =>
    intro i S f μ hP h h48 h49 hi hff
    have hn := hP.n7
    obtain ⟨f, rfl⟩ : ∃ g, f = g + 1 := ⟨f - 1, by omega⟩
    refine ⟨μ, ?_, fun p hp => ?_, Fr.refl⟩
    · rw [F_X7_drawNumbers_123, gdS_yes sh50, hP.n, if_pos (by rw [kI_le (by omega) (by omega)]; omega), nm_eq, kI_a1]
    · rw [h49 p hp]
      split
      · unfold sad
        rw [if_neg (by omega)]
      · rfl
  | succ c ih =>
    intro i S f μ hP h h48 h49 hi hff
    have hn := hP.n7
    obtain ⟨f, rfl⟩ : ∃ g, f = g + 1 := ⟨f - 1, by omega⟩
    have hp := hL i (by omega)
    have q := hf.2 (L i) hp
    have e1 := h48 i (by omega)
    have e2 : gI μ 52 (L i) = kI (has0 v (L i)) := by rw [h.2.1.2.2 (L i) (by omega), q.2.2]; rfl
    have e3 := worthFor_n hP hp q.1
    have e4 := h49 i (by omega)
    have fp : Fr (fun a => a = 49) μ (pI μ 49 i (kI (S i + pW P (L i) (has0 v (L i))))) := Fr.refl.put rfl
    obtain ⟨μ', i1, i2, i3⟩ := ih (i + 1) (fun p => if p = i then S i + pW P (L i) (has0 v (L i)) else S p) f _ (hP.fr fp (fun a q => by omega)) (h.fr fp (fun a q => by omega)) (fun j hj => by rw [fp.1 48 (by omega)]; exact h48 j hj) (fun p hp => by
      rw [gI_pI]
      by_cases z : p = i
      · rw [if_pos ⟨rfl, z⟩, if_pos z]
      · rw [if_neg (by omega), if_neg z]; exact h49 p hp) (by omega) (by omega)
    refine ⟨μ', ?_, fun p hp => ?_, fp.trans i3⟩
    · rw [F_X7_drawNumbers_123, gdS_yes sh50, hP.n, if_neg (by rw [kI_le (by omega) (by omega)]; omega), rd_kI (by omega) (by omega), nm_eq, rd_kI (by omega) (by omega), e1, rd_kI (by omega) (by omega), e2, bnd_eq e3, e4, kI_add, wrI_kI (by omega) (by omega), nm_eq, kI_a1, i1]
    · rw [i2 p hp]
      by_cases z : i + 1 ≤ p
      · rw [if_pos z, if_pos (by omega)]
        unfold sad
        show kI (if p < pN P then (if p = i then S i + pW P (L i) (has0 v (L i)) else S p) + pW P (L p) (has0 v (L p)) else (if p = i then S i + pW P (L i) (has0 v (L i)) else S p)) = _
        rw [if_neg (show ¬ p = i by omega)]
      · rw [if_neg z]
        by_cases y : p = i
        · rw [if_pos y, if_pos (by omega)]
          unfold sad
          rw [if_pos (by omega), y]
        · rw [if_neg y, if_neg (by omega)]
theorem kI_m1 (n : Nat) : kI n - iI 1 = iI ((n : Int) - 1) := by rw [kI_iI, iI_sub2]
theorem draw8 {P : Pa} {lot : Nat → Nat} {d : Nat} (hd : d ≤ 30) (hl : LotOk (pN P) P lot) (hl7 : ∀ j, j < 7 → lot j < 4294967296) : ∀ c t z S f (μ : Mm), t + c = d → c < f → PC μ P → (∀ j, j < 7 → gI μ 24 j = kI (lot j)) → (∀ p, p < 7 → gI μ 49 p = kI (S p)) → Wp (F_X7_drawNumbers_14 24 f (kI d) z (kI t) μ) fun _ μ' => (∀ p, p < 7 → gI μ' 49 p = kI (drw P lot c z S p)) ∧ Fr (fun a => a = 48 ∨ a = 49 ∨ SA 50 a ∨ SL a) μ μ' := by
  intro c
  induction c with
  | zero =>
    intro t z S f μ ht hf hP h24 h49
    obtain ⟨f, rfl⟩ : ∃ g, f = g + 1 := ⟨f - 1, by omega⟩
    refine ⟨(), μ, ?_, h49, Fr.refl⟩
    rw [F_X7_drawNumbers_14, if_pos (by rw [kI_le (by omega) (by omega)]; omega)]
  | succ c ih =>
    intro t z S f μ ht hf hP h24 h49
    have hn := hP.n7
    obtain ⟨f, rfl⟩ : ∃ g, f = g + 1 := ⟨f - 1, by omega⟩
    rw [F_X7_drawNumbers_14, if_neg (by rw [kI_le (by omega) (by omega)]; omega)]
    refine wp_cp (sp := 0) (dp := 0) (k := 7) (by omega) (by omega) (by omega) (by omega) (fun m1 b1 b2 => ?_)
    have h48 : ∀ j, j < 7 → gI m1 48 j = kI (lot j) := fun j hj => by
      rw [b1 j, if_pos (by omega), show 0 + (j - 0) = j by omega]
      exact h24 j hj
    have hP1 : PC m1 P := hP.fr b2 (fun a q => by omega)
    rw [nm_eq, hP1.n]
    obtain ⟨m2, f2, c1, c2, c3⟩ : ∃ m2 f2, F_X7_drawNumbers_43 (F_X7_drawNumbers_14 24 f) 24 FU (kI d) z (kI t) (kI (pN P) - iI 1) m1 = F_X7_drawNumbers_43 (F_X7_drawNumbers_14 24 f) 24 (f2 + 1) (kI d) (shf (pN P - 1) z lot).1 (kI t) (if pN P = 0 then iI (-1) else kI 0) m2 ∧ (∀ j, j < 7 → gI m2 48 j = kI ((shf (pN P - 1) z lot).2 j)) ∧ Fr (fun a => a = 48) m1 m2 := by
      by_cases n0 : pN P = 0
      · refine ⟨m1, FU - 1, ?_, ?_, Fr.refl⟩
        · rw [if_pos n0, n0]
          rfl
        · rw [n0]
          exact h48
      · obtain ⟨m2, c1, c2, c3⟩ := shf8 (k14 := F_X7_drawNumbers_14 24 f) (d := kI d) (t := kI t) (pN P - 1) z lot FU m1 (by omega) (by unfold FU; omega) h48
        refine ⟨m2, FU - (pN P - 1) - 1, ?_, c2, c3⟩
        rw [if_neg n0, iI_lit, kI_sub (by omega), c1, show FU - (pN P - 1) - 1 + 1 = FU - (pN P - 1) by unfold FU; omega]
    have hlt1 : (if pN P = 0 then iI (-1) else kI 0) < iI 1 := by
      split
      · rw [iI_lt2 (by omega) (by omega)]; omega
      · rw [iI_lit, kI_lt (by omega) (by omega)]; omega
    have hL7 : ∀ j, j < 7 → (shf (pN P - 1) z lot).2 j < 4294967296 := shf_7 _ _ _ (by omega) hl7
    have hLok : LotOk (pN P) P (shf (pN P - 1) z lot).2 := by
      by_cases n0 : pN P = 0
      · rw [n0]
        exact ⟨by omega, fun i j hi => absurd hi (by omega), fun i hi => absurd hi (by omega)⟩
      · exact shf_ok _ _ _ (by omega) hl
    have hP2 : PC m2 P := hP1.fr c3 (fun a q => by omega)
    have hds : drw P lot (c + 1) z S = drw P lot c (shf (pN P - 1) z lot).1 (sad P (evE P (shf (pN P - 1) z lot).2 (kI 0) (kI 0)) (shf (pN P - 1) z lot).2 S) := rfl
    rw [c1, F_X7_drawNumbers_43, if_pos hlt1, hds]
    generalize shf (pN P - 1) z lot = r at c2 hL7 hLok ⊢
    obtain ⟨_, m3, d1, rfl, ⟨w, g, d2⟩, d3⟩ := eveningBy_eq hP2 (r := 48) sh48 (by omega) c2 hL7 hLok
    obtain ⟨hw, he, hfu⟩ := ev_ok hP2.ok hLok w g
    have hP3 : PC m3 P := hP2.fr d3 (fun a q => by unfold SA SL at q; omega)
    rw [bnd_eq d1, gdS_yes sh50]
    obtain ⟨m4, e1, e2, e3⟩ := sum8_loop (k14 := F_X7_drawNumbers_14 24 f) (d := kI d) (z := r.1) (t := t) hLok.2.2 hfu (pN P) 0 S FU m3 hP3 d2 (fun j hj => by rw [d3.1 48 (by unfold SA SL; omega)]; exact c2 j hj) (fun p hp => by
      rw [d3.1 49 (by unfold SA SL; omega), c3.1 49 (by omega), b2.1 49 (by omega)]
      exact h49 p hp) (by omega) (by unfold FU; omega)
    have f04 : Fr (fun a => a = 48 ∨ a = 49 ∨ SA 50 a ∨ SL a) μ m4 := (((b2.mono fun a q => Or.inl q).trans (c3.mono fun a q => Or.inl q)).trans (d3.mono fun a q => Or.inr (Or.inr q))).trans (e3.mono fun a q => Or.inr (Or.inl q))
    obtain ⟨_, m5, i1, i2, i3⟩ := ih (t + 1) r.1 (sad P (evE P r.2 w g) r.2 S) f m4 (by omega) (by omega) (hP3.fr e3 (fun a q => by omega)) (fun j hj => by
      rw [f04.1 24 (by unfold SA SL; omega)]
      exact h24 j hj) (fun p hp => by
      rw [e2 p hp, if_pos (Nat.zero_le _)])
    rw [sad_wg] at i2
    refine ⟨(), m5, ?_, i2, f04.trans i3⟩
    rw [iI_lit, e1, i1]
def C9N (a j : Nat) : Prop := a = 117 ∨ a = 146 ∨ CX9 1 a j
def mxS (S : Nat → Nat) : Nat → Nat → Nat → Nat
  | 0, _, g => g
  | c + 1, i, g => mxS S c (i + 1) (if g < S i then S i else g)
def mnS (S : Nat → Nat) : Nat → Nat → Nat → Nat
  | 0, _, g => g
  | c + 1, i, g => mnS S c (i + 1) (if S i < g then S i else g)
theorem unlike8 {P : Pa} {S : Nat → Nat} {μ : Mm} (hP : PC μ P) (hS : ∀ p, S p < 1000000) (h49 : ∀ p, p < 7 → gI μ 49 p = kI (S p)) : ∀ c i g l f, g < 1000000 → l < 1000000 → (i + c = pN P ∨ (c = 0 ∧ pN P ≤ i)) → i < 1000 → c < f → F_X7_unlike_16 f (kI g) (kI l) (kI i) μ = some (kI (mxS S c i g) - kI (mnS S c i l), μ) := by
  have hn := hP.n7
  intro c
  induction c with
  | zero =>
    intro i g l f hg hl hi h1000 hf
    obtain ⟨f, rfl⟩ : ∃ g, f = g + 1 := ⟨f - 1, by omega⟩
    rw [F_X7_unlike_16, hP.n, if_pos (by rw [kI_le (by omega) (by omega)]; omega)]
    rfl
  | succ c ih =>
    intro i g l f hg hl hi h1000 hf
    obtain ⟨f, rfl⟩ : ∃ g, f = g + 1 := ⟨f - 1, by omega⟩
    have hs := hS i
    have q1 : mxI (kI g) (kI (S i)) = kI (if g < S i then S i else g) := by
      unfold mxI
      by_cases z : g < S i
      · rw [if_pos (by rw [kI_lt (by omega) (by omega)]; exact z), if_pos z]
      · rw [if_neg (by rw [kI_lt (by omega) (by omega)]; exact z), if_neg z]
    have q2 : mnI (kI l) (kI (S i)) = kI (if S i < l then S i else l) := by
      unfold mnI
      by_cases z : S i < l
      · rw [if_pos (by rw [kI_lt (by omega) (by omega)]; exact z), if_pos z]
      · rw [if_neg (by rw [kI_lt (by omega) (by omega)]; exact z), if_neg z]
    rw [F_X7_unlike_16, hP.n, if_neg (by rw [kI_le (by omega) (by omega)]; omega), rd_kI (by omega) (by omega), nm_eq, rd_kI (by omega) (by omega), nm_eq, nm_eq, h49 i (by omega), q1, q2, kI_a1]
    exact ih (i + 1) _ _ f (by split <;> omega) (by split <;> omega) (by omega) (by omega) (by omega)
