/-! NUMBERS OF BOTH -/
def z1 (z : Int32) : Int32 := (z * iI (1103515245)) + iI 12345
def z8 (z : Int32) : Int32 := (z.toUInt32 >>> ((iI 8).toUInt32 &&& Int32.toUInt32 31)).toInt32
theorem z8_nn (z : Int32) : ∃ u, u < 2147483648 ∧ z8 z = kI u := by
  rcases i32_cases (z8 z) with q | ⟨k, k1, e⟩
  · exfalso
    have h8 : ((iI 8).toUInt32 &&& Int32.toUInt32 31) = (8 : UInt32) := by decide
    have hlt : (z.toUInt32 >>> (8 : UInt32)).toNat < 16777216 := by
      rw [UInt32.toNat_shiftRight, Nat.shiftRight_eq_div_pow]
      have := z.toUInt32.toNat_lt
      have e8 : (8 : UInt32).toNat % 32 = 8 := by decide
      rw [e8]
      omega
    unfold z8 at q
    rw [h8] at q
    have e : (z.toUInt32 >>> (8 : UInt32)).toInt32.toInt = ((z.toUInt32 >>> (8 : UInt32)).toNat : Int) := BitVec.toInt_eq_toNat_of_lt (by
      show 2 * (z.toUInt32 >>> (8 : UInt32)).toNat < 2 ^ 32
      omega)
    omega
  · exact ⟨k, k1, e⟩
def zj (z : Int32) (i : Nat) : Nat := (z8 z).toInt.toNat % (i + 1)
theorem zj_lt {z : Int32} {i : Nat} : zj z i < i + 1 := Nat.mod_lt _ (by omega)
theorem rm_z8 {β : Type} {z : Int32} {i : Nat} (hi : i < 1000) (G : Int32 → Option β) : rmI ((z.toUInt32 >>> ((iI 8).toUInt32 &&& Int32.toUInt32 31)).toInt32) (kI (i + 1)) G = G (kI (zj z i)) := by
  obtain ⟨u, u1, u2⟩ := z8_nn z
  show rmI (z8 z) (kI (i + 1)) G = _
  unfold zj
  rw [u2, rmI_kI u1 (by omega) (by omega), kI_toInt u1]
  rfl
theorem kI_a1 (k : Nat) : kI k + iI 1 = kI (k + 1) := by rw [iI_lit, kI_add]
theorem kI_s1 (k : Nat) : kI (k + 1) + iI (-1) = kI k := by
  unfold kI iI
  rw [← Int32.ofInt_add]
  congr 1
  omega
/-- a lot made anew by draws -/
def shf : Nat → Int32 → (Nat → Nat) → Int32 × (Nat → Nat)
  | 0, z, L => (z, L)
  | i + 1, z, L => shf i (z1 z) (swL L (i + 1) (zj (z1 z) (i + 1)))
theorem shf_ok {P : Pa} {n : Nat} : ∀ i z L, i < n → LotOk n P L → LotOk n P (shf i z L).2
  | 0, _, _, _, h => h
  | i + 1, z, L, hi, h => shf_ok i (z1 z) _ (by omega) (swL_ok h hi (by have := zj_lt (z := z1 z) (i := i + 1); omega))
theorem shf_7 : ∀ i z L, i < 7 → (∀ j, j < 7 → L j < 4294967296) → ∀ j, j < 7 → (shf i z L).2 j < 4294967296
  | 0, _, _, _, h => h
  | i + 1, z, L, hi, h => shf_7 i (z1 z) _ (by omega) (fun j hj => by
      have := zj_lt (z := z1 z) (i := i + 1)
      rw [swL_at]
      split
      · exact h _ hi
      · split
        · exact h _ (by omega)
        · exact h j hj)
theorem shf8 {k14 : Int32 → Int32 → Int32 → Mm → Option (Unit × Mm)} {d t : Int32} : ∀ i z L f (μ : Mm), i < 7 → i < f → (∀ j, j < 7 → gI μ 48 j = kI (L j)) → ∃ μ', F_X7_drawNumbers_43 k14 24 f d z t (kI i) μ = F_X7_drawNumbers_43 k14 24 (f - i) d (shf i z L).1 t (kI 0) μ' ∧ (∀ j, j < 7 → gI μ' 48 j = kI ((shf i z L).2 j)) ∧ Fr (fun a => a = 48) μ μ' := by
  intro i
  induction i with
  | zero => exact fun z L f μ _ _ h => ⟨μ, rfl, h, Fr.refl⟩
  | succ i ih =>
    intro z L f μ hi hf h
    obtain ⟨f, rfl⟩ : ∃ g, f = g + 1 := ⟨f - 1, by omega⟩
    have hj := zj_lt (z := z1 z) (i := i + 1)
    have s1 := swapM (μ := μ) (a := 48) (i := i + 1) (j := zj (z1 z) (i + 1)) (m := 7) h hi (by omega)
    have fp : Fr (fun a => a = 48) μ (pI (pI μ 48 (i + 1) (kI (L (zj (z1 z) (i + 1))))) 48 (zj (z1 z) (i + 1)) (kI (L (i + 1)))) := (Fr.put (S := fun a => a = 48) Fr.refl rfl).put rfl
    obtain ⟨μ', i1, i2, i3⟩ := ih (z1 z) (swL L (i + 1) (zj (z1 z) (i + 1))) f _ (by omega) (by omega) s1
    refine ⟨μ', ?_, i2, fp.trans i3⟩
    rw [Nat.add_sub_add_right]
    refine Eq.trans ?_ i1
    have e1 := h (i + 1) hi
    have e2 := h (zj (z1 z) (i + 1)) (by omega)
    rw [F_X7_drawNumbers_43, if_neg (by rw [iI_lit, kI_lt (by omega) (by omega)]; omega), nm_eq, kI_a1, rm_z8 (by omega)]
    show (rd 7 (kI (i + 1)) fun j5 => nm (gI μ 48 j5) fun v6 => rd 7 (kI (zj (z1 z) (i + 1))) fun j7 => wrI 7 μ 48 (kI (i + 1)) (gI μ 48 j7) fun m8 => wrI 7 m8 48 (kI (zj (z1 z) (i + 1))) v6 fun m9 => nm (kI (i + 1) + iI (-1)) fun v10 => F_X7_drawNumbers_43 k14 24 f d (z1 z) t v10 m9) = _
    rw [rd_kI (by omega) (by omega), nm_eq, rd_kI (by omega) (by omega), wrI_kI (by omega) (by omega), wrI_kI (by omega) (by omega), nm_eq, kI_s1, e1, e2]
theorem shf9 {k62 : Int32 → Int32 → Int32 → Int32 → Mm → Option (Int32 × Mm)} {d at' t : Int32} {n : Nat} (hn : n ≤ 7) : ∀ i z L f (μ : Mm), i < n → i < f → (∀ j, j < n → gI μ 117 j = kI (L j)) → ∃ μ', F_X9_numbers_80 k62 f d at' z t (kI i) μ = F_X9_numbers_80 k62 (f - i) d at' (shf i z L).1 t (kI 0) μ' ∧ (∀ j, j < n → gI μ' 117 j = kI ((shf i z L).2 j)) ∧ Fr (fun a => a = 117) μ μ' := by
  intro i
  induction i with
  | zero => exact fun z L f μ _ _ h => ⟨μ, rfl, h, Fr.refl⟩
  | succ i ih =>
    intro z L f μ hi hf h
    obtain ⟨f, rfl⟩ : ∃ g, f = g + 1 := ⟨f - 1, by omega⟩
    have hj := zj_lt (z := z1 z) (i := i + 1)
    have s1 := swapM (μ := μ) (a := 117) (i := i + 1) (j := zj (z1 z) (i + 1)) (m := n) h hi (by omega)
    have fp : Fr (fun a => a = 117) μ (pI (pI μ 117 (i + 1) (kI (L (zj (z1 z) (i + 1))))) 117 (zj (z1 z) (i + 1)) (kI (L (i + 1)))) := (Fr.put (S := fun a => a = 117) Fr.refl rfl).put rfl
    obtain ⟨μ', i1, i2, i3⟩ := ih (z1 z) (swL L (i + 1) (zj (z1 z) (i + 1))) f _ (by omega) (by omega) s1
    refine ⟨μ', ?_, i2, fp.trans i3⟩
    rw [Nat.add_sub_add_right]
    refine Eq.trans ?_ i1
    have e1 := h (i + 1) hi
    have e2 := h (zj (z1 z) (i + 1)) (by omega)
    rw [F_X9_numbers_80, if_neg (by rw [iI_lit, kI_lt (by omega) (by omega)]; omega), nm_eq, kI_a1, rm_z8 (by omega)]
    show (bnd (F_X9_swapLot (kI (i + 1)) (kI (zj (z1 z) (i + 1))) μ) fun _ m6 => nm (kI (i + 1) + iI (-1)) fun v7 => F_X9_numbers_80 k62 f d at' (z1 z) t v7 m6) = _
    unfold F_X9_swapLot
    rw [rd_kI (by omega) (by omega), nm_eq, rd_kI (by omega) (by omega), wrI_kI (by omega) (by omega), wrI_kI (by omega) (by omega), bnd_some, nm_eq, kI_s1, e1, e2]
/-- sums by places, with an evening more -/
def sad (P : Pa) (v : Ev) (L S : Nat → Nat) : Nat → Nat := fun p => if p < pN P then S p + pW P (L p) (has0 v (L p)) else S p
theorem sad_wg {P : Pa} {L S : Nat → Nat} (w g : Int32) : sad P (evE P L w g) L S = sad P (evE P L (kI 0) (kI 0)) L S := by
  by_cases h : 0 < pN P
  · rw [ev_wg h w g (kI 0) (kI 0)]
  · funext p
    unfold sad
    rw [if_neg (by omega), if_neg (by omega)]
/-- sums of draws -/
def drw (P : Pa) (lot : Nat → Nat) : Nat → Int32 → (Nat → Nat) → Nat → Nat
  | 0, _, S => S
  | c + 1, z, S => drw P lot c (shf (pN P - 1) z lot).1 (sad P (evE P (shf (pN P - 1) z lot).2 (kI 0) (kI 0)) (shf (pN P - 1) z lot).2 S)
theorem drw_le {P : Pa} {lot : Nat → Nat} (h : PaOk P) : ∀ c z S b, (∀ p, S p ≤ b) → ∀ p, drw P lot c z S p ≤ b + 99 * c
  | 0, _, S, b, q, p => by
    have := q p
    show S p ≤ _
    omega
  | c + 1, z, S, b, q, p => by
    have := drw_le h (lot := lot) c (shf (pN P - 1) z lot).1 (sad P (evE P (shf (pN P - 1) z lot).2 (kI 0) (kI 0)) (shf (pN P - 1) z lot).2 S) (b + 99) (fun p => by
      have := q p
      unfold sad
      split
      · have := h.2.1 ((shf (pN P - 1) z lot).2 p) (has0 (evE P (shf (pN P - 1) z lot).2 (kI 0) (kI 0)) ((shf (pN P - 1) z lot).2 p))
        omega
      · omega) p
    show drw P lot c _ _ p ≤ _
    omega
theorem sum8_loop {P : Pa} {v : Ev} {L : Nat → Nat} {k14 : Int32 → Int32 → Int32 → Mm → Option (Unit × Mm)} {d z : Int32} {t : Nat} (hL : ∀ p, p < pN P → L p < pN P) (hf : Full P v) : ∀ c i S f (μ : Mm), PC μ P → RC μ 50 v → (∀ j, j < 7 → gI μ 48 j = kI (L j)) → (∀ p, p < 7 → gI μ 49 p = kI (S p)) → i + c = pN P → c < f → ∃ μ', F_X7_drawNumbers_123 k14 24 f d z (kI t) 50 (kI i) μ = k14 d z (kI (t + 1)) μ' ∧ (∀ p, p < 7 → gI μ' 49 p = kI (if i ≤ p then sad P v L S p else S p)) ∧ Fr (fun a => a = 49) μ μ' := by
  intro c
  induction c with
  | zero =>
    intro i S f μ hP h h48 h49 hi hff
    have hn := hP.n7
    obtain ⟨f, rfl⟩ : ∃ g, f = g + 1 := ⟨f - 1, by omega⟩
    refine ⟨μ, ?_, fun p hp => ?_, Fr.refl⟩
    · rw [F_X7_drawNumbers_123, gdS_yes sh50, hP.n, if_pos (by rw [kI_le (by omega) (by omega)]; omega), nm_eq, kI_a1]
    · rw [h49 p hp]
      split
      · unfold sad
        rw [if_neg (by omega)]
      · rfl
  | succ c ih =>
    intro i S f μ hP h h48 h49 hi hff
    have hn := hP.n7
    obtain ⟨f, rfl⟩ : ∃ g, f = g + 1 := ⟨f - 1, by omega⟩
    have hp := hL i (by omega)
    have q := hf.2 (L i) hp
    have e1 := h48 i (by omega)
    have e2 : gI μ 52 (L i) = kI (has0 v (L i)) := by rw [h.2.1.2.2 (L i) (by omega), q.2.2]; rfl
    have e3 := worthFor_n hP hp q.1
    have e4 := h49 i (by omega)
    have fp : Fr (fun a => a = 49) μ (pI μ 49 i (kI (S i + pW P (L i) (has0 v (L i))))) := Fr.refl.put rfl
    obtain ⟨μ', i1, i2, i3⟩ := ih (i + 1) (fun p => if p = i then S i + pW P (L i) (has0 v (L i)) else S p) f _ (hP.fr fp (fun a q => by omega)) (h.fr fp (fun a q => by omega)) (fun j hj => by rw [fp.1 48 (by omega)]; exact h48 j hj) (fun p hp => by
      rw [gI_pI]
      by_cases z : p = i
      · rw [if_pos ⟨rfl, z⟩, if_pos z]
      · rw [if_neg (by omega), if_neg z]; exact h49 p hp) (by omega) (by omega)
    refine ⟨μ', ?_, fun p hp => ?_, fp.trans i3⟩
    · rw [F_X7_drawNumbers_123, gdS_yes sh50, hP.n, if_neg (by rw [kI_le (by omega) (by omega)]; omega), rd_kI (by omega) (by omega), nm_eq, rd_kI (by omega) (by omega), e1, rd_kI (by omega) (by omega), e2, bnd_eq e3, e4, kI_add, wrI_kI (by omega) (by omega), nm_eq, kI_a1, i1]
    · rw [i2 p hp]
      by_cases z : i + 1 ≤ p
      · rw [if_pos z, if_pos (by omega)]
        unfold sad
        show kI (if p < pN P then (if p = i then S i + pW P (L i) (has0 v (L i)) else S p) + pW P (L p) (has0 v (L p)) else (if p = i then S i + pW P (L i) (has0 v (L i)) else S p)) = _
        rw [if_neg (show ¬ p = i by omega)]
      · rw [if_neg z]
        by_cases y : p = i
        · rw [if_pos y, if_pos (by omega)]
          unfold sad
          rw [if_pos (by omega), y]
        · rw [if_neg y, if_neg (by omega)]
theorem sum9_loop {P : Pa} {v : Ev} {L : Nat → Nat} {k62 : Int32 → Int32 → Int32 → Int32 → Mm → Option (Int32 × Mm)} {d at' z : Int32} {t : Nat} (hL : ∀ p, p < pN P → L p < pN P) (hw : WfE (pN P) P L v) (hf : Full P v) : ∀ c i S f (μ : Mm), PR μ P → RR μ 1 P L v → (∀ p, p < pN P → gI μ 146 p = kI (S p)) → i + c = pN P → c < f → ∃ μ', F_X9_numbers_127 k62 f d at' z (kI t) (kI i) μ = k62 d at' z (kI (t + 1)) μ' ∧ (∀ p, p < pN P → gI μ' 146 p = kI (if i ≤ p then sad P v L S p else S p)) ∧ Fr (fun a => a = 146) μ μ' := by
  intro c
  induction c with
  | zero =>
    intro i S f μ hP h h49 hi hff
    have hn := hP.n7
    obtain ⟨f, rfl⟩ : ∃ g, f = g + 1 := ⟨f - 1, by omega⟩
    refine ⟨μ, ?_, fun p hp => ?_, Fr.refl⟩
    · rw [F_X9_numbers_127, hP.n, if_pos (by rw [kI_le (by omega) (by omega)]; omega), nm_eq, kI_a1]
    · rw [h49 p hp, if_neg (by omega)]
  | succ c ih =>
    intro i S f μ hP h h49 hi hff
    have hn := hP.n7
    obtain ⟨f, rfl⟩ : ∃ g, f = g + 1 := ⟨f - 1, by omega⟩
    have hp := hL i (by omega)
    have q := hf.2 (L i) hp
    have e1 := h.2.2.2.2.2.2.2.2 i (by omega)
    have e2 := hasIn_eq hP h hw (p := L i) (by omega)
    rw [q.2.2, cI_some] at e2
    have e2 : F_X9_hasIn (iI 1) (kI (L i)) μ = some (kI (has0 v (L i)), μ) := e2
    have e3 := hP.w (p := L i) (k := has0 v (L i)) (by omega) (by omega)
    have e4 := h49 i (by omega)
    have fp : Fr (fun a => a = 146) μ (pI μ 146 i (kI (S i + pW P (L i) (has0 v (L i))))) := Fr.refl.put rfl
    obtain ⟨μ', i1, i2, i3⟩ := ih (i + 1) (fun p => if p = i then S i + pW P (L i) (has0 v (L i)) else S p) f _ (hP.fr fp.c (fun a j q z => by unfold CP at z; omega)) (h.fr hn fp.c (fun a j q => by omega)) (fun p hp => by
      rw [gI_pI]
      by_cases z : p = i
      · rw [if_pos ⟨rfl, z⟩, if_pos z]
      · rw [if_neg (by omega), if_neg z]; exact h49 p hp) (by omega) (by omega)
    refine ⟨μ', ?_, fun p hp => ?_, fp.trans i3⟩
    · rw [F_X9_numbers_127, hP.n, if_neg (by rw [kI_le (by omega) (by omega)]; omega), rd_kI (by omega) (by omega), rd_kI (by omega) (by omega), rd_kI (by omega) (by omega), e1, bnd_eq e2, iI_lit, kI_mul, kI_add, rd_kI (by omega) (by omega), e3, e4, kI_add, wrI_kI (by omega) (by omega), nm_eq, iI_lit, kI_add, i1]
    · rw [i2 p hp]
      by_cases z : i + 1 ≤ p
      · rw [if_pos z, if_pos (by omega)]
        unfold sad
        show kI (if p < pN P then (if p = i then S i + pW P (L i) (has0 v (L i)) else S p) + pW P (L p) (has0 v (L p)) else (if p = i then S i + pW P (L i) (has0 v (L i)) else S p)) = _
        rw [if_neg (show ¬ p = i by omega)]
      · rw [if_neg z]
        by_cases y : p = i
        · rw [if_pos y, if_pos (by omega)]
          unfold sad
          rw [if_pos (by omega), y]
        · rw [if_neg y, if_neg (by omega)]
theorem kI_m1 (n : Nat) : kI n - iI 1 = iI ((n : Int) - 1) := by rw [kI_iI, iI_sub2]
theorem draw8 {P : Pa} {lot : Nat → Nat} {d : Nat} (hd : d ≤ 30) (hl : LotOk (pN P) P lot) (hl7 : ∀ j, j < 7 → lot j < 4294967296) : ∀ c t z S f (μ : Mm), t + c = d → c < f → PC μ P → (∀ j, j < 7 → gI μ 24 j = kI (lot j)) → (∀ p, p < 7 → gI μ 49 p = kI (S p)) → Wp (F_X7_drawNumbers_14 24 f (kI d) z (kI t) μ) fun _ μ' => (∀ p, p < 7 → gI μ' 49 p = kI (drw P lot c z S p)) ∧ Fr (fun a => a = 48 ∨ a = 49 ∨ SA 50 a ∨ SL a) μ μ' := by
  intro c
  induction c with
  | zero =>
    intro t z S f μ ht hf hP h24 h49
    obtain ⟨f, rfl⟩ : ∃ g, f = g + 1 := ⟨f - 1, by omega⟩
    refine ⟨(), μ, ?_, h49, Fr.refl⟩
    rw [F_X7_drawNumbers_14, if_pos (by rw [kI_le (by omega) (by omega)]; omega)]
  | succ c ih =>
    intro t z S f μ ht hf hP h24 h49
    have hn := hP.n7
    obtain ⟨f, rfl⟩ : ∃ g, f = g + 1 := ⟨f - 1, by omega⟩
    rw [F_X7_drawNumbers_14, if_neg (by rw [kI_le (by omega) (by omega)]; omega)]
    refine wp_cp (sp := 0) (dp := 0) (k := 7) (by omega) (by omega) (by omega) (by omega) (fun m1 b1 b2 => ?_)
    have h48 : ∀ j, j < 7 → gI m1 48 j = kI (lot j) := fun j hj => by
      rw [b1 j, if_pos (by omega), show 0 + (j - 0) = j by omega]
      exact h24 j hj
    have hP1 : PC m1 P := hP.fr b2 (fun a q => by omega)
    rw [nm_eq, hP1.n]
    obtain ⟨m2, f2, c1, c2, c3⟩ : ∃ m2 f2, F_X7_drawNumbers_43 (F_X7_drawNumbers_14 24 f) 24 FU (kI d) z (kI t) (kI (pN P) - iI 1) m1 = F_X7_drawNumbers_43 (F_X7_drawNumbers_14 24 f) 24 (f2 + 1) (kI d) (shf (pN P - 1) z lot).1 (kI t) (if pN P = 0 then iI (-1) else kI 0) m2 ∧ (∀ j, j < 7 → gI m2 48 j = kI ((shf (pN P - 1) z lot).2 j)) ∧ Fr (fun a => a = 48) m1 m2 := by
      by_cases n0 : pN P = 0
      · refine ⟨m1, FU - 1, ?_, ?_, Fr.refl⟩
        · rw [if_pos n0, n0]
          rfl
        · rw [n0]
          exact h48
      · obtain ⟨m2, c1, c2, c3⟩ := shf8 (k14 := F_X7_drawNumbers_14 24 f) (d := kI d) (t := kI t) (pN P - 1) z lot FU m1 (by omega) (by unfold FU; omega) h48
        refine ⟨m2, FU - (pN P - 1) - 1, ?_, c2, c3⟩
        rw [if_neg n0, iI_lit, kI_sub (by omega), c1, show FU - (pN P - 1) - 1 + 1 = FU - (pN P - 1) by unfold FU; omega]
    have hlt1 : (if pN P = 0 then iI (-1) else kI 0) < iI 1 := by
      split
      · rw [iI_lt2 (by omega) (by omega)]; omega
      · rw [iI_lit, kI_lt (by omega) (by omega)]; omega
    have hL7 : ∀ j, j < 7 → (shf (pN P - 1) z lot).2 j < 4294967296 := shf_7 _ _ _ (by omega) hl7
    have hLok : LotOk (pN P) P (shf (pN P - 1) z lot).2 := by
      by_cases n0 : pN P = 0
      · rw [n0]
        exact ⟨by omega, fun i j hi => absurd hi (by omega), fun i hi => absurd hi (by omega)⟩
      · exact shf_ok _ _ _ (by omega) hl
    have hP2 : PC m2 P := hP1.fr c3 (fun a q => by omega)
    have hds : drw P lot (c + 1) z S = drw P lot c (shf (pN P - 1) z lot).1 (sad P (evE P (shf (pN P - 1) z lot).2 (kI 0) (kI 0)) (shf (pN P - 1) z lot).2 S) := rfl
    rw [c1, F_X7_drawNumbers_43, if_pos hlt1, hds]
    generalize shf (pN P - 1) z lot = r at c2 hL7 hLok ⊢
    obtain ⟨_, m3, d1, rfl, ⟨w, g, d2⟩, d3⟩ := eveningBy_eq hP2 (r := 48) sh48 (by omega) c2 hL7 hLok
    obtain ⟨hw, he, hfu⟩ := ev_ok hP2.ok hLok w g
    have hP3 : PC m3 P := hP2.fr d3 (fun a q => by unfold SA SL at q; omega)
    rw [bnd_eq d1, gdS_yes sh50]
    obtain ⟨m4, e1, e2, e3⟩ := sum8_loop (k14 := F_X7_drawNumbers_14 24 f) (d := kI d) (z := r.1) (t := t) hLok.2.2 hfu (pN P) 0 S FU m3 hP3 d2 (fun j hj => by rw [d3.1 48 (by unfold SA SL; omega)]; exact c2 j hj) (fun p hp => by
      rw [d3.1 49 (by unfold SA SL; omega), c3.1 49 (by omega), b2.1 49 (by omega)]
      exact h49 p hp) (by omega) (by unfold FU; omega)
    have f04 : Fr (fun a => a = 48 ∨ a = 49 ∨ SA 50 a ∨ SL a) μ m4 := (((b2.mono fun a q => Or.inl q).trans (c3.mono fun a q => Or.inl q)).trans (d3.mono fun a q => Or.inr (Or.inr q))).trans (e3.mono fun a q => Or.inr (Or.inl q))
    obtain ⟨_, m5, i1, i2, i3⟩ := ih (t + 1) r.1 (sad P (evE P r.2 w g) r.2 S) f m4 (by omega) (by omega) (hP3.fr e3 (fun a q => by omega)) (fun j hj => by
      rw [f04.1 24 (by unfold SA SL; omega)]
      exact h24 j hj) (fun p hp => by
      rw [e2 p hp, if_pos (Nat.zero_le _)])
    rw [sad_wg] at i2
    refine ⟨(), m5, ?_, i2, f04.trans i3⟩
    rw [iI_lit, e1, i1]
theorem lay_loop {P : Pa} {lot : Nat → Nat} (hok : PaOk P) : ∀ c i f (μ : Mm), i + c = pN P → c < f → gI μ 113 1 = kI (pN P) → (∀ j, j < pN P → gI μ 145 j = kI (lot j)) → (∀ j, j < i → gI μ 117 j = kI (lot j)) → ∃ μ', F_X9_layLot_2 f (kI i) μ = some ((), μ') ∧ (∀ j, j < pN P → gI μ' 117 j = kI (lot j)) ∧ Fr (fun a => a = 117) μ μ' := by
  have hn : pN P ≤ 7 := hok.1
  intro c
  induction c with
  | zero =>
    intro i f μ hi hf en h1 h2
    obtain ⟨f, rfl⟩ : ∃ g, f = g + 1 := ⟨f - 1, by omega⟩
    refine ⟨μ, ?_, fun j hj => h2 j (by omega), Fr.refl⟩
    rw [F_X9_layLot_2, en, if_pos (by rw [kI_le (by omega) (by omega)]; omega)]
  | succ c ih =>
    intro i f μ hi hf en h1 h2
    obtain ⟨f, rfl⟩ : ∃ g, f = g + 1 := ⟨f - 1, by omega⟩
    have fp : Fr (fun a => a = 117) μ (pI μ 117 i (kI (lot i))) := Fr.refl.put rfl
    obtain ⟨μ', i1, i2, i3⟩ := ih (i + 1) f (pI μ 117 i (kI (lot i))) (by omega) (by omega) (by rw [fp.1 113 (by omega)]; exact en) (fun j hj => by rw [fp.1 145 (by omega)]; exact h1 j hj) (fun j hj => by
      rw [gI_pI]
      by_cases z : j = i
      · rw [if_pos ⟨rfl, z⟩, z]
      · rw [if_neg (by omega)]; exact h2 j (by omega))
    refine ⟨μ', ?_, i2, fp.trans i3⟩
    rw [F_X9_layLot_2, en, if_neg (by rw [kI_le (by omega) (by omega)]; omega), rd_kI (by omega) (by omega), h1 i (by omega), wrI_kI (by omega) (by omega), nm_eq, kI_a1, i1]
theorem layLot_eq {P : Pa} {lot : Nat → Nat} {μ : Mm} (hP : PR μ P) (h1 : ∀ j, j < pN P → gI μ 145 j = kI (lot j)) : ∃ μ', F_X9_layLot μ = some ((), μ') ∧ (∀ j, j < pN P → gI μ' 117 j = kI (lot j)) ∧ Fr (fun a => a = 117) μ μ' := by
  have hn := hP.n7
  exact lay_loop hP.ok (pN P) 0 FU μ (by omega) (by unfold FU; omega) hP.n h1 (fun j hj => absurd hj (by omega))
theorem keep_loop {P : Pa} {lot : Nat → Nat} (hok : PaOk P) : ∀ c i f (μ : Mm), i + c = pN P → c < f → gI μ 113 1 = kI (pN P) → (∀ j, j < pN P → gI μ 117 j = kI (lot j)) → (∀ j, j < i → gI μ 145 j = kI (lot j)) → ∃ μ', F_X9_keepLot_2 f (kI i) μ = some ((), μ') ∧ (∀ j, j < pN P → gI μ' 145 j = kI (lot j)) ∧ Fr (fun a => a = 145) μ μ' := by
  have hn : pN P ≤ 7 := hok.1
  intro c
  induction c with
  | zero =>
    intro i f μ hi hf en h1 h2
    obtain ⟨f, rfl⟩ : ∃ g, f = g + 1 := ⟨f - 1, by omega⟩
    refine ⟨μ, ?_, fun j hj => h2 j (by omega), Fr.refl⟩
    rw [F_X9_keepLot_2, en, if_pos (by rw [kI_le (by omega) (by omega)]; omega)]
  | succ c ih =>
    intro i f μ hi hf en h1 h2
    obtain ⟨f, rfl⟩ : ∃ g, f = g + 1 := ⟨f - 1, by omega⟩
    have fp : Fr (fun a => a = 145) μ (pI μ 145 i (kI (lot i))) := Fr.refl.put rfl
    obtain ⟨μ', i1, i2, i3⟩ := ih (i + 1) f (pI μ 145 i (kI (lot i))) (by omega) (by omega) (by rw [fp.1 113 (by omega)]; exact en) (fun j hj => by rw [fp.1 117 (by omega)]; exact h1 j hj) (fun j hj => by
      rw [gI_pI]
      by_cases z : j = i
      · rw [if_pos ⟨rfl, z⟩, z]
      · rw [if_neg (by omega)]; exact h2 j (by omega))
    refine ⟨μ', ?_, i2, fp.trans i3⟩
    rw [F_X9_keepLot_2, en, if_neg (by rw [kI_le (by omega) (by omega)]; omega), rd_kI (by omega) (by omega), h1 i (by omega), wrI_kI (by omega) (by omega), nm_eq, kI_a1, i1]
theorem keepLot_eq {P : Pa} {lot : Nat → Nat} {μ : Mm} (hP : PR μ P) (h1 : ∀ j, j < pN P → gI μ 117 j = kI (lot j)) : ∃ μ', F_X9_keepLot μ = some ((), μ') ∧ (∀ j, j < pN P → gI μ' 145 j = kI (lot j)) ∧ Fr (fun a => a = 145) μ μ' := by
  have hn := hP.n7
  exact keep_loop hP.ok (pN P) 0 FU μ (by omega) (by unfold FU; omega) hP.n h1 (fun j hj => absurd hj (by omega))
def C9N (a j : Nat) : Prop := a = 117 ∨ a = 146 ∨ CX9 1 a j
theorem PR.c9n {μ μ1 : Mm} {P : Pa} (h : PR μ P) (hf : FrC C9N μ μ1) : PR μ1 P := h.fr hf (fun a j q z => by unfold C9N CX9 at q; unfold CP at z; omega)
theorem draw9 {P : Pa} {lot : Nat → Nat} {d : Nat} {at' : Int32} (hd : d ≤ 30) (hl : LotOk (pN P) P lot) : ∀ c t z S f (μ : Mm), t + c = d → c < f → PR μ P → (∀ j, j < pN P → gI μ 145 j = kI (lot j)) → (∀ p, p < pN P → gI μ 146 p = kI (S p)) → ∃ μ', F_X9_numbers_62 f (kI d) at' z (kI t) μ = (if at' < iI 0 then F_X9_numbers_210 FU (iI 0) (iI 0) (iI 0) μ' else rd 7 at' fun j3 => some (gI μ' 146 j3, μ')) ∧ (∀ p, p < pN P → gI μ' 146 p = kI (drw P lot c z S p)) ∧ (∀ j, j < pN P → gI μ' 117 j = kI (lot j)) ∧ FrC C9N μ μ' := by
  intro c
  induction c with
  | zero =>
    intro t z S f μ ht hf hP h145 h146
    obtain ⟨f, rfl⟩ : ∃ g, f = g + 1 := ⟨f - 1, by omega⟩
    obtain ⟨m1, a1, a2, a3⟩ := layLot_eq hP h145
    refine ⟨m1, ?_, fun p hp => by rw [a3.1 146 (by omega)]; exact h146 p hp, a2, a3.c.mono fun a j q => Or.inl q⟩
    rw [F_X9_numbers_62, if_pos (by rw [kI_le (by omega) (by omega)]; omega), bnd_eq a1]
  | succ c ih =>
    intro t z S f μ ht hf hP h145 h146
    have hn := hP.n7
    obtain ⟨f, rfl⟩ : ∃ g, f = g + 1 := ⟨f - 1, by omega⟩
    obtain ⟨m1, a1, a2, a3⟩ := layLot_eq hP h145
    have hP1 : PR m1 P := hP.fr a3.c (fun a j q z => by unfold CP at z; omega)
    have en1 := hP1.n
    rw [F_X9_numbers_62, if_neg (by rw [kI_le (by omega) (by omega)]; omega), bnd_eq a1, nm_eq, en1]
    obtain ⟨m2, f2, c1, c2, c3⟩ : ∃ m2 f2, F_X9_numbers_80 (F_X9_numbers_62 f) FU (kI d) at' z (kI t) (kI (pN P) - iI 1) m1 = F_X9_numbers_80 (F_X9_numbers_62 f) (f2 + 1) (kI d) at' (shf (pN P - 1) z lot).1 (kI t) (if pN P = 0 then iI (-1) else kI 0) m2 ∧ (∀ j, j < pN P → gI m2 117 j = kI ((shf (pN P - 1) z lot).2 j)) ∧ Fr (fun a => a = 117) m1 m2 := by
      by_cases n0 : pN P = 0
      · refine ⟨m1, FU - 1, ?_, fun j hj => absurd hj (by omega), Fr.refl⟩
        rw [if_pos n0, n0]
        rfl
      · obtain ⟨m2, c1, c2, c3⟩ := shf9 (k62 := F_X9_numbers_62 f) (d := kI d) (at' := at') (t := kI t) hn (pN P - 1) z lot FU m1 (by omega) (by unfold FU; omega) a2
        refine ⟨m2, FU - (pN P - 1) - 1, ?_, c2, c3⟩
        rw [if_neg n0, iI_lit, kI_sub (by omega), c1, show FU - (pN P - 1) - 1 + 1 = FU - (pN P - 1) by unfold FU; omega]
    have hlt1 : (if pN P = 0 then iI (-1) else kI 0) < iI 1 := by
      split
      · rw [iI_lit, kI_iI, iI_lt2 (by omega) (by omega)]; omega
      · rw [iI_lit, kI_lt (by omega) (by omega)]; omega
    have hLok : LotOk (pN P) P (shf (pN P - 1) z lot).2 := by
      by_cases n0 : pN P = 0
      · exact ⟨Nat.le_refl _, fun i j hi => absurd hi (by omega), fun i hi => absurd hi (by omega)⟩
      · exact shf_ok _ _ _ (by omega) hl
    have hP2 : PR m2 P := hP1.fr c3.c (fun a j q z => by unfold CP at z; omega)
    have hds : drw P lot (c + 1) z S = drw P lot c (shf (pN P - 1) z lot).1 (sad P (evE P (shf (pN P - 1) z lot).2 (kI 0) (kI 0)) (shf (pN P - 1) z lot).2 S) := rfl
    rw [c1, F_X9_numbers_80, if_pos hlt1, hds]
    generalize shf (pN P - 1) z lot = r at c2 hLok ⊢
    obtain ⟨_, m3, d1, d2, d3⟩ := goEvening_eq hP2 c2 hLok (kI 0) (kI 0)
    obtain ⟨hw, he, hfu⟩ := ev_ok hP2.ok hLok (kI 0) (kI 0)
    have hP3 : PR m3 P := hP2.cx d3
    rw [bnd_eq d1]
    obtain ⟨m4, e1, e2, e3⟩ := sum9_loop (k62 := F_X9_numbers_62 f) (d := kI d) (at' := at') (z := r.1) (t := t) hLok.2.2 hw hfu (pN P) 0 S FU m3 hP3 d2 (fun p hp => by
      rw [d3.1 146 p (by unfold CX9; omega), c3.1 146 (by omega), a3.1 146 (by omega)]
      exact h146 p hp) (by omega) (by unfold FU; omega)
    have f04 : FrC C9N μ m4 := (((a3.c.mono fun a j q => Or.inl q).trans (c3.c.mono fun a j q => Or.inl q)).trans (d3.mono fun a j q => Or.inr (Or.inr q))).trans (e3.c.mono fun a j q => Or.inr (Or.inl q))
    obtain ⟨m5, i1, i2, i3, i4⟩ := ih (t + 1) r.1 (sad P (evE P r.2 (kI 0) (kI 0)) r.2 S) f m4 (by omega) (by omega) (hP.c9n f04) (fun j hj => by
      rw [f04.1 145 j (by unfold C9N CX9; omega)]
      exact h145 j hj) (fun p hp => by
      rw [e2 p hp, if_pos (Nat.zero_le _)])
    refine ⟨m5, ?_, i2, i3, f04.trans i4⟩
    have e0 : iI 0 = kI 0 := rfl
    rw [← i1, ← e1]
    rfl
def mxS (S : Nat → Nat) : Nat → Nat → Nat → Nat
  | 0, _, g => g
  | c + 1, i, g => mxS S c (i + 1) (if g < S i then S i else g)
def mnS (S : Nat → Nat) : Nat → Nat → Nat → Nat
  | 0, _, g => g
  | c + 1, i, g => mnS S c (i + 1) (if S i < g then S i else g)
theorem unlike8 {P : Pa} {S : Nat → Nat} {μ : Mm} (hP : PC μ P) (hS : ∀ p, S p < 1000000) (h49 : ∀ p, p < 7 → gI μ 49 p = kI (S p)) : ∀ c i g l f, g < 1000000 → l < 1000000 → (i + c = pN P ∨ (c = 0 ∧ pN P ≤ i)) → i < 1000 → c < f → F_X7_unlike_16 f (kI g) (kI l) (kI i) μ = some (kI (mxS S c i g) - kI (mnS S c i l), μ) := by
  have hn := hP.n7
  intro c
  induction c with
  | zero =>
    intro i g l f hg hl hi h1000 hf
    obtain ⟨f, rfl⟩ : ∃ g, f = g + 1 := ⟨f - 1, by omega⟩
    rw [F_X7_unlike_16, hP.n, if_pos (by rw [kI_le (by omega) (by omega)]; omega)]
    rfl
  | succ c ih =>
    intro i g l f hg hl hi h1000 hf
    obtain ⟨f, rfl⟩ : ∃ g, f = g + 1 := ⟨f - 1, by omega⟩
    have hs := hS i
    have q1 : mxI (kI g) (kI (S i)) = kI (if g < S i then S i else g) := by
      unfold mxI
      by_cases z : g < S i
      · rw [if_pos (by rw [kI_lt (by omega) (by omega)]; exact z), if_pos z]
      · rw [if_neg (by rw [kI_lt (by omega) (by omega)]; exact z), if_neg z]
    have q2 : mnI (kI l) (kI (S i)) = kI (if S i < l then S i else l) := by
      unfold mnI
      by_cases z : S i < l
      · rw [if_pos (by rw [kI_lt (by omega) (by omega)]; exact z), if_pos z]
      · rw [if_neg (by rw [kI_lt (by omega) (by omega)]; exact z), if_neg z]
    rw [F_X7_unlike_16, hP.n, if_neg (by rw [kI_le (by omega) (by omega)]; omega), rd_kI (by omega) (by omega), nm_eq, rd_kI (by omega) (by omega), nm_eq, nm_eq, h49 i (by omega), q1, q2, kI_a1]
    exact ih (i + 1) _ _ f (by split <;> omega) (by split <;> omega) (by omega) (by omega) (by omega)
theorem unlike9 {P : Pa} {S : Nat → Nat} {μ : Mm} (hP : PR μ P) (hS : ∀ p, S p < 1000000) (h146 : ∀ p, p < pN P → gI μ 146 p = kI (S p)) : ∀ c i g l f, g < 1000000 → l < 1000000 → i ≠ 0 → i + c = pN P → c < f → F_X9_numbers_210 f (kI l) (kI g) (kI i) μ = some (kI (mxS S c i g) - kI (mnS S c i l), μ) := by
  have hn := hP.n7
  intro c
  induction c with
  | zero =>
    intro i g l f hg hl h0 hi hf
    obtain ⟨f, rfl⟩ : ∃ g, f = g + 1 := ⟨f - 1, by omega⟩
    rw [F_X9_numbers_210, hP.n, if_pos (by rw [kI_le (by omega) (by omega)]; omega)]
    rfl
  | succ c ih =>
    intro i g l f hg hl h0 hi hf
    obtain ⟨f, rfl⟩ : ∃ g, f = g + 1 := ⟨f - 1, by omega⟩
    have hs := hS i
    have e1 := h146 i (by omega)
    have n0 : ¬ kI i = iI 0 := by rw [iI_lit, kI_eq (by omega) (by omega)]; exact h0
    have t245 : ∀ l', F_X9_numbers_245 (F_X9_numbers_210 f) (kI l') (kI g) (kI i) μ = F_X9_numbers_210 f (kI l') (kI (if g < S i then S i else g)) (kI (i + 1)) μ := by
      intro l'
      unfold F_X9_numbers_245 F_X9_numbers_262 F_X9_numbers_271
      rw [if_neg n0, rd_kI (by omega) (by omega), e1]
      by_cases z : g < S i
      · rw [if_neg (by rw [kI_le (by omega) (by omega)]; omega), if_pos z, rd_kI (by omega) (by omega), nm_eq, nm_eq, e1, kI_a1]
      · rw [if_pos (by rw [kI_le (by omega) (by omega)]; omega), if_neg z, nm_eq, kI_a1]
    have step : F_X9_numbers_210 (f + 1) (kI l) (kI g) (kI i) μ = F_X9_numbers_210 f (kI (if S i < l then S i else l)) (kI (if g < S i then S i else g)) (kI (i + 1)) μ := by
      rw [F_X9_numbers_210, hP.n, if_neg (by rw [kI_le (by omega) (by omega)]; omega), if_neg n0, rd_kI (by omega) (by omega), e1]
      by_cases z : S i < l
      · rw [if_neg (by rw [kI_le (by omega) (by omega)]; omega), if_pos z]
        unfold F_X9_numbers_236
        rw [rd_kI (by omega) (by omega), nm_eq, e1, t245]
      · rw [if_pos (by rw [kI_le (by omega) (by omega)]; omega), if_neg z, t245]
    rw [step]
    exact ih (i + 1) _ _ f (by split <;> omega) (by split <;> omega) (by omega) (by omega) (by omega)
theorem inP_yes {μ : Mm} {n : Nat} {x : Int32} (hn : n ≤ 7) (h : x = iI (-1) ∨ ∃ k, k < n ∧ x = kI k) : F_X9_in x (iI (-1)) (kI n - iI 1) μ = some (kI 1, μ) := by
  rw [kI_m1]
  unfold F_X9_in
  rcases h with rfl | ⟨k, k1, rfl⟩
  · rw [if_neg (by rw [iI_lt2 (by omega) (by omega)]; omega), if_neg (by rw [iI_lt2 (by omega) (by omega)]; omega)]
    rfl
  · rw [kI_iI, if_neg (by rw [iI_lt2 (by omega) (by omega)]; omega), if_neg (by rw [iI_lt2 (by omega) (by omega)]; omega)]
    rfl
theorem inP_no {μ : Mm} {n : Nat} {x : Int32} (hn : n ≤ 7) (h1 : x ≠ iI (-1)) (h2 : ∀ k, k < n → x ≠ kI k) : F_X9_in x (iI (-1)) (kI n - iI 1) μ = some (kI 0, μ) := by
  rw [kI_m1]
  unfold F_X9_in
  have e : x = iI x.toInt := by unfold iI; rw [Int32.ofInt_toInt]
  have b1 := x.toInt_lt
  have b2 := x.le_toInt
  generalize x.toInt = z at e b1 b2
  subst e
  by_cases y : z < -1
  · rw [if_pos (by rw [iI_lt2 (by omega) (by omega)]; exact y)]
    rfl
  · have y1 : ¬ z = -1 := fun q => h1 (by rw [q])
    have y2 : (n : Int) - 1 < z := by
      rcases Int.lt_or_le ((n : Int) - 1) z with q | q
      · exact q
      · exact absurd (by rw [kI_iI, Int.toNat_of_nonneg (by omega)]) (h2 z.toNat (by omega))
    rw [if_neg (by rw [iI_lt2 (by omega) (by omega)]; exact y), if_pos (by rw [iI_lt2 (by omega) (by omega)]; exact y2)]
    rfl
theorem zero9 {P : Pa} {a1 a2 a3 : Int32} : ∀ c i f (μ : Mm), PR μ P → i + c = pN P → c < f → (∀ p, p < i → gI μ 146 p = kI 0) → ∃ μ', F_X9_numbers_29 f a1 a2 a3 (kI i) μ = (bnd (F_X9_keepLot μ') fun _ m2 => F_X9_numbers_62 FU a2 a3 a1 (iI 0) m2) ∧ (∀ p, p < pN P → gI μ' 146 p = kI 0) ∧ Fr (fun a => a = 146) μ μ' := by
  intro c
  induction c with
  | zero =>
    intro i f μ hP hi hf h
    have hn := hP.n7
    obtain ⟨f, rfl⟩ : ∃ g, f = g + 1 := ⟨f - 1, by omega⟩
    refine ⟨μ, ?_, fun p hp => h p (by omega), Fr.refl⟩
    rw [F_X9_numbers_29, hP.n, if_pos (by rw [kI_le (by omega) (by omega)]; omega)]
  | succ c ih =>
    intro i f μ hP hi hf h
    have hn := hP.n7
    obtain ⟨f, rfl⟩ : ∃ g, f = g + 1 := ⟨f - 1, by omega⟩
    have fp : Fr (fun a => a = 146) μ (pI μ 146 i (kI 0)) := Fr.refl.put rfl
    obtain ⟨μ', i1, i2, i3⟩ := ih (i + 1) f (pI μ 146 i (kI 0)) (hP.fr fp.c (fun a j q z => by unfold CP at z; omega)) (by omega) (by omega) (fun p hp => by
      rw [gI_pI]
      by_cases z : p = i
      · rw [if_pos ⟨rfl, z⟩]
      · rw [if_neg (by omega)]; exact h p (by omega))
    refine ⟨μ', ?_, i2, fp.trans i3⟩
    rw [F_X9_numbers_29, hP.n, if_neg (by rw [kI_le (by omega) (by omega)]; omega), wrI_kI (by omega) (by omega), nm_eq, kI_a1]
    exact i1
theorem RR.lay {C : Nat → Nat → Prop} {μ μ1 : Mm} {P : Pa} {lot : Nat → Nat} {e : Ev} (h : RR μ 0 P lot e) (hn : pN P ≤ 7) (hf : FrC C μ μ1) (hs : ∀ a j, C a j → ¬ (((a = 118 ∨ a = 119) ∧ j < 7) ∨ (120 ≤ a ∧ a ≤ 124 ∧ j = 0))) (hl : ∀ j, j < pN P → gI μ1 117 j = kI (lot j)) : RR μ1 0 P lot e := by
  have q : ∀ a j, (((a = 118 ∨ a = 119) ∧ j < 7) ∨ (120 ≤ a ∧ a ≤ 124 ∧ j = 0)) → gI μ1 a j = gI μ a j := fun a j z => hf.1 a j (fun y => hs a j y z)
  obtain ⟨h0, h1, h2, h3, h4, h5, h6, h7, h8⟩ := h
  refine ⟨h0, fun k hk => ?_, fun k hk => ?_, ?_, ?_, ?_, ?_, fun z => absurd z (by omega), hl⟩
  · rw [q 118 _ (by omega)]; exact h1 k hk
  · rw [q 119 _ (by omega)]; exact h2 k hk
  · rw [q 120 _ (by omega)]; exact h3
  · rw [q 121 _ (by omega)]; exact h4
  · rw [q 122 _ (by omega)]; exact h5
  · rw [q 123 _ (by omega)]; exact h6
/-- the reference's lot was moved and is laid back -/
theorem IDeed.lay {μ μ1 : Mm} {P : Pa} {lot : Nat → Nat} {e : Ev} (h : IDeed μ P lot e) (hn : pN P ≤ 7) (hf : FrC CF μ μ1) (hl : ∀ j, j < pN P → gI μ1 117 j = kI (lot j)) : IDeed μ1 P lot e := by
  have q : ∀ a j, ((23 ≤ a ∧ a ≤ 27) ∨ (a = 113 ∧ 15 ≤ j ∧ j ≤ 19)) → gI μ1 a j = gI μ a j := fun a j z => hf.1 a j (fun y => by unfold CF CT SL CX9 at y; omega)
  obtain ⟨h1, h2, h3, h4, h5, h6, h7, h8, h9, h10⟩ := h
  refine ⟨h1.frC hf (fun a j z => by unfold CF CT SL CX9 at z; omega), h2.frC hf (fun a j z => by unfold CF CT SL CX9 at z; omega), h3, h4, h5, h6.lay hn hf (fun a j z => by unfold CF CT SL CX9 at z; omega) hl, ?_, ?_, ?_, ?_⟩
  · rw [q 113 15 (by omega)]; exact h7
  · rw [q 113 16 (by omega)]; exact h8
  · rw [q 113 19 (by omega)]; exact h9
  · rw [q 113 17 (by omega), q 113 18 (by omega)]; exact h10
theorem g_numbers (x y z : Int32) : Good (F_X8_numbers x y z) (F_X9_numbers x y z) := by
  intro μ hI
  obtain ⟨P, lot, e, hR, hD⟩ := hI.split
  have hn := hR.1.n7
  have hok := hR.1.ok
  by_cases hy : ∃ d, 1 ≤ d ∧ d ≤ 30 ∧ y = kI d
  · obtain ⟨d, d1, d30, rfl⟩ := hy
    have hin : ∀ m : Mm, F_X9_in (kI d) (iI 1) (iI 30) m = some (kI 1, m) := fun m => in_yes (μ := m) (k := d) (a := 1) (b := 30) d1 d30 (by omega)
    by_cases hz : z = iI (-1) ∨ ∃ k, k < pN P ∧ z = kI k
    · obtain ⟨m1, a1, a2, a3⟩ := fill_eq (r := 49) (L := 7) (v := iI 0) (μ := μ) sh49 (by omega)
      have hP1 : PC m1 P := hR.1.fr a3 (fun a q => by omega)
      obtain ⟨_, m2, b1, b2, b3⟩ := draw8 (d := d) d30 hD.2.2.1 hD.2.1.2 d 0 x (fun _ => 0) FU m1 (by omega) (by unfold FU; omega) hP1 (fun j hj => by rw [a3.1 24 (by omega)]; exact hD.2.1.1 j hj) a2
      have f2 : FrC CT μ m2 := (a3.c.mono fun a j q => Or.inl (by omega)).trans (b3.c.mono fun a j q => by
        unfold SA SL at q
        show CT a j
        unfold CT SL
        omega)
      have hR2 := hR.th f2
      have hD2 := hD.th hn f2
      have hSb : ∀ p, drw P lot d x (fun _ => 0) p < 1000000 := fun p => by
        have := drw_le hok (lot := lot) d x (fun _ => 0) 0 (fun _ => Nat.le_refl _) p
        omega
      have en2 := hR2.2.1.n
      obtain ⟨m3, c1, c2, c3⟩ := zero9 (a1 := x) (a2 := kI d) (a3 := z) (pN P) 0 FU m2 hR2.2.1 (by omega) (by unfold FU; omega) (fun p hp => absurd hp (by omega))
      have hQ3 : PR m3 P := hR2.2.1.fr c3.c (fun a j q z => by unfold CP at z; omega)
      obtain ⟨m4, e1, e2, e3⟩ := keepLot_eq (lot := lot) hQ3 (fun j hj => by rw [c3.1 117 (by omega)]; exact hD2.2.2.2.2.2.1.2.2.2.2.2.2.2.2 j hj)
      have hQ4 : PR m4 P := hQ3.fr e3.c (fun a j q z => by unfold CP at z; omega)
      obtain ⟨m5, g1, g2, g3, g4⟩ := draw9 (d := d) (at' := z) d30 hD.2.2.1 d 0 x (fun _ => 0) FU m4 (by omega) (by unfold FU; omega) hQ4 e2 (fun p hp => by rw [e3.1 146 (by omega)]; exact c2 p hp)
      have hQ5 := hQ4.c9n g4
      have f5 : FrC CF m2 m5 := ((c3.c.mono fun a j q => Or.inl (by unfold CT; omega)).trans (e3.c.mono fun a j q => Or.inl (by unfold CT; omega))).trans (g4.mono fun a j q => by
        rcases q with q | q | q
        · exact Or.inr (Or.inr (Or.inr q))
        · exact Or.inl (by unfold CT; omega)
        · exact Or.inl (Or.inr (Or.inr (Or.inl q))))
      have hP5 : PC m5 P := hR2.1.frC (((c3.c.mono fun a j q => (by show a = 117 ∨ a = 145 ∨ a = 146 ∨ CX9 1 a j; omega)).trans (e3.c.mono fun a j q => (by show a = 117 ∨ a = 145 ∨ a = 146 ∨ CX9 1 a j; omega))).trans (g4.mono fun a j q => (by
        rcases q with q | q | q
        · exact Or.inl q
        · exact Or.inr (Or.inr (Or.inl q))
        · exact Or.inr (Or.inr (Or.inr q))))) (fun a j q z => by unfold CX9 at q; unfold CPc at z; omega)
      have hI5 := Inv.join (hR2.cf f5 hP5 hQ5) (hD2.lay hn f5 g3)
      have u8 := unlike8 hR2.1 hSb b2
      have u9 := unlike9 hQ5 hSb g2
      have h29 : F_X8_numbers_29 x (kI d) z μ = if z = iI (-1) then bnd (F_X7_unlike m2) fun v4 m5 => some (v4, m5) else rd 7 z fun j3 => some (gI m2 49 j3, m2) := by
        unfold F_X8_numbers_29 F_X7_drawNumbers
        rw [if_pos sh24, bnd_eq a1]
        show bnd (F_X7_drawNumbers_14 24 FU (kI d) x (kI 0) m1) _ = _
        rw [bnd_eq b1]
      have h9 : F_X9_numbers x (kI d) z m2 = if z < iI 0 then F_X9_numbers_210 FU (iI 0) (iI 0) (iI 0) m5 else rd 7 z fun j3 => some (gI m5 146 j3, m5) := by
        unfold F_X9_numbers
        rw [bnd_eq (hin m2), if_neg k1_ne0, en2, bnd_eq (inP_yes hn hz), if_neg k1_ne0]
        show F_X9_numbers_29 FU x (kI d) z (kI 0) m2 = _
        rw [c1, bnd_eq e1]
        exact g1
      rcases hz with rfl | ⟨k, hk, rfl⟩
      · refine ⟨kI (mxS (drw P lot d x (fun _ => 0)) (pN P - 1) 1 (drw P lot d x (fun _ => 0) 0)) - kI (mnS (drw P lot d x (fun _ => 0)) (pN P - 1) 1 (drw P lot d x (fun _ => 0) 0)), m2, m5, ?_, ?_, hI5⟩
        · unfold F_X8_numbers
          rw [if_neg (by rw [iI_lit, kI_lt (by omega) (by omega)]; omega), if_neg (by rw [iI_lit, kI_lt (by omega) (by omega)]; omega), if_pos rfl, h29, if_pos rfl]
          unfold F_X7_unlike
          rw [iI_lit, rd_kI (by omega) (by omega), nm_eq, rd_kI (by omega) (by omega), nm_eq, b2 0 (by omega)]
          have := u8 (pN P - 1) 1 (drw P lot d x (fun _ => 0) 0) (drw P lot d x (fun _ => 0) 0) FU (hSb 0) (hSb 0) (by omega) (by omega) (by unfold FU; omega)
          rw [iI_lit, bnd_eq this]
        · rw [h9, if_pos (by rw [iI_lt2 (by omega) (by omega)]; omega)]
          by_cases n0 : pN P = 0
          · have e5 := hQ5.n
            rw [show FU = 999999 + 1 from rfl, F_X9_numbers_210, e5, if_pos (by rw [iI_lit, kI_le (by omega) (by omega)]; omega), n0]
            have hS0 : ∀ c z, drw P lot c z (fun _ => 0) 0 = 0 := by
              intro c
              have hs : ∀ v L, sad P v L (fun _ => 0) = fun _ => 0 := fun v L => by
                funext p
                unfold sad
                rw [if_neg (by omega)]
              induction c with
              | zero => exact fun _ => rfl
              | succ c ih =>
                intro z
                show drw P lot c _ (sad P _ _ (fun _ => 0)) 0 = 0
                rw [hs]
                exact ih _
            show some (kI 0 - kI 0, m5) = some (kI (drw P lot d x (fun _ => 0) 0) - kI (drw P lot d x (fun _ => 0) 0), m5)
            rw [hS0]
          · have e5 := hQ5.n
            have q0 := g2 0 (by omega)
            have := u9 (pN P - 1) 1 (drw P lot d x (fun _ => 0) 0) (drw P lot d x (fun _ => 0) 0) 999999 (hSb 0) (hSb 0) (by omega) (by omega) (by omega)
            rw [show FU = 999999 + 1 from rfl, F_X9_numbers_210, e5, if_neg (by rw [iI_lit, kI_le (by omega) (by omega)]; omega), if_pos rfl]
            unfold F_X9_numbers_236 F_X9_numbers_245 F_X9_numbers_262 F_X9_numbers_271
            rw [iI_lit, rd_kI (by omega) (by omega), nm_eq, if_pos rfl, rd_kI (by omega) (by omega), nm_eq, nm_eq, q0, kI_a1, this]
      · refine ⟨kI (drw P lot d x (fun _ => 0) k), m2, m5, ?_, ?_, hI5⟩
        · unfold F_X8_numbers
          rw [if_neg (by rw [iI_lit, kI_lt (by omega) (by omega)]; omega), if_neg (by rw [iI_lit, kI_lt (by omega) (by omega)]; omega), if_neg (by rw [kI_iI, iI_eq (by omega) (by omega)]; omega), bnd_eq (isOne_yes hR.1 hk), if_neg k1_ne0, h29, if_neg (by rw [kI_iI, iI_eq (by omega) (by omega)]; omega), rd_kI (by omega) (by omega), b2 k (by omega)]
        · rw [h9, if_neg (by rw [iI_lit, kI_lt (by omega) (by omega)]; omega), rd_kI (by omega) (by omega), g2 k hk]
    · have z1 : z ≠ iI (-1) := fun q => hz (Or.inl q)
      have z2 : ∀ k, k < pN P → z ≠ kI k := fun k h1 h2 => hz (Or.inr ⟨k, h1, h2⟩)
      refine Good.bad (v := iI (-1)) hI ?_ ?_
      · unfold F_X8_numbers
        rw [if_neg (by rw [iI_lit, kI_lt (by omega) (by omega)]; omega), if_neg (by rw [iI_lit, kI_lt (by omega) (by omega)]; omega), if_neg z1, bnd_eq (isOne_no hR.1 z2), if_pos k0_eq0]
      · unfold F_X9_numbers
        rw [bnd_eq (hin μ), if_neg k1_ne0, hR.2.1.n, bnd_eq (inP_no hn z1 z2), if_pos k0_eq0]
  · have hin : F_X9_in y (iI 1) (iI 30) μ = some (kI 0, μ) := in_no (μ := μ) (x := y) (a := 1) (b := 30) (by omega) (by omega) (fun k h1 h2 q => hy ⟨k, h1, h2, q⟩)
    refine Good.bad (v := iI (-1)) hI ?_ ?_
    · unfold F_X8_numbers
      rcases i32_cases y with q | ⟨k, k1, rfl⟩
      · rw [if_pos (by rw [iI_lit, neg_lt q (by omega)]; trivial)]
      · by_cases k0 : k < 1
        · rw [if_pos (by rw [iI_lit, kI_lt (by omega) (by omega)]; exact k0)]
        · rw [if_neg (by rw [iI_lit, kI_lt (by omega) (by omega)]; exact k0), if_pos (by
            rw [iI_lit, kI_lt (by omega) (by omega)]
            rcases Nat.lt_or_ge 30 k with q | q
            · exact q
            · exact absurd ⟨k, by omega, q, rfl⟩ hy)]
    · unfold F_X9_numbers
      rw [bnd_eq hin, if_pos k0_eq0]
