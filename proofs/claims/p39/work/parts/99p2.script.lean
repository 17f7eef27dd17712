/-! p39, THE SCRIPT: what is read of it; the same at each call -/
theorem and_kI (x : Int32) {M : Nat} (hM : M < 2147483648) : ∃ e, e ≤ M ∧ x &&& kI M = kI e := by
  have hb : (kI M).toBitVec = BitVec.ofNat 32 M := by
    unfold kI iI
    show BitVec.ofInt 32 (M : Int) = _
    rw [BitVec.ofInt_natCast]
  refine ⟨(x.toBitVec &&& BitVec.ofNat 32 M).toNat, ?_, ?_⟩
  · rw [BitVec.toNat_and]
    have h1 := @Nat.and_le_right x.toBitVec.toNat (BitVec.ofNat 32 M).toNat
    rw [BitVec.toNat_ofNat] at h1 ⊢
    have h2 := Nat.mod_le M (2 ^ 32)
    omega
  · apply Int32.toBitVec_inj.mp
    rw [Int32.toBitVec_and, hb]
    unfold kI iI
    show _ = BitVec.ofInt 32 _
    rw [BitVec.ofInt_natCast, BitVec.ofNat_toNat]
    simp
theorem shr_kI {c : Nat} (hc : c < 2147483648) (y : Int32) : ∃ d, d ≤ c ∧ kI c >>> y = kI d := by
  have hb : (kI c).toBitVec = BitVec.ofNat 32 c := by
    unfold kI iI
    show BitVec.ofInt 32 (c : Int) = _
    rw [BitVec.ofInt_natCast]
  have hn : (BitVec.ofNat 32 c).toNat = c := by rw [BitVec.toNat_ofNat]; omega
  have hm : (BitVec.ofNat 32 c).msb = false := by
    rw [BitVec.msb_eq_decide, hn]
    simp
    omega
  obtain ⟨s, hs⟩ : ∃ s : Nat, (kI c >>> y).toBitVec = (kI c).toBitVec.sshiftRight s := ⟨_, Int32.toBitVec_shiftRight _ _⟩
  refine ⟨c / 2 ^ s, Nat.div_le_self _ _, ?_⟩
  apply Int32.toBitVec_inj.mp
  rw [hs, hb, BitVec.sshiftRight_eq_of_msb_false hm]
  apply BitVec.eq_of_toNat_eq
  have hk : (kI (c / 2 ^ s)).toBitVec = BitVec.ofNat 32 (c / 2 ^ s) := by
    unfold kI iI
    show BitVec.ofInt 32 ((c / 2 ^ s : Nat) : Int) = _
    rw [BitVec.ofInt_natCast]
  have hle := Nat.div_le_self c (2 ^ s)
  rw [hk, BitVec.toNat_ushiftRight, hn, BitVec.toNat_ofNat, Nat.shiftRight_eq_div_pow]
  generalize c / 2 ^ s = y at hle
  omega
theorem cell_ex (SC : SCT) (hL : SC.1 ≤ 260) {i : Nat} (hi : i ≤ 100) : ∃ c, c < 16777216 ∧ ∀ m, F_L_cell SC (kI i) m = some (kI c, m) := by
  have e : Int32.ofNat SC.1 = kI SC.1 := rfl
  by_cases h : SC.1 ≤ i
  · refine ⟨i * 8693, by omega, fun m => ?_⟩
    unfold F_L_cell
    rw [e, if_pos (by rw [kI_le (by omega) (by omega)]; exact h), iI_lit, kI_mul]
  · obtain ⟨c, c1, c2⟩ := and_kI (SC.2 i) (M := 16777215) (by omega)
    refine ⟨c, by omega, fun m => ?_⟩
    unfold F_L_cell
    rw [e, if_neg (by rw [kI_le (by omega) (by omega)]; exact h), rd_kI (by omega) (by omega), iI_lit, c2]
theorem people_ex (SC : SCT) (hL : SC.1 ≤ 260) : ∃ n, 1 ≤ n ∧ n ≤ 6 ∧ ∀ m, F_L_people SC m = some (kI n, m) := by
  obtain ⟨c, c1, c2⟩ := cell_ex SC hL (i := 0) (by omega)
  refine ⟨1 + c % 6, by omega, by omega, fun m => ?_⟩
  unfold F_L_people
  rw [iI_lit, c2, bnd_some, iI_lit, rmI_kI (by omega) (by omega) (by omega), iI_lit, kI_add]
theorem way_ex (SC : SCT) (hL : SC.1 ≤ 260) (p : Int32) : ∃ w, w ≤ 2 ∧ ∀ m, F_L_way SC p m = some (kI w, m) := by
  obtain ⟨c, c1, c2⟩ := cell_ex SC hL (i := 0) (by omega)
  obtain ⟨d, d1, d2⟩ := shr_kI (c := c) (by omega) (((iI 3) + ((iI 2) * p)) &&& 31)
  obtain ⟨e, e1, e2⟩ := and_kI (kI d) (M := 3) (by omega)
  refine ⟨e % 3, by omega, fun m => ?_⟩
  have e2 : kI d &&& iI 3 = kI e := e2
  unfold F_L_way
  rw [show iI 0 = kI 0 from rfl, c2, bnd_some, d2, e2, show iI 3 = kI 3 from rfl, rmI_kI (by omega) (by omega) (by omega)]
theorem most_ex (SC : SCT) (hL : SC.1 ≤ 260) : ∃ w, 1 ≤ w ∧ w ≤ 3 ∧ ∀ m, F_L_most SC m = some (kI w, m) := by
  obtain ⟨c, c1, c2⟩ := cell_ex SC hL (i := 0) (by omega)
  obtain ⟨d, d1, d2⟩ := shr_kI (c := c) (by omega) ((iI 15) &&& 31)
  refine ⟨1 + d % 3, by omega, by omega, fun m => ?_⟩
  unfold F_L_most
  rw [show iI 0 = kI 0 from rfl, c2, bnd_some, d2, show iI 3 = kI 3 from rfl, rmI_kI (by omega) (by omega) (by omega), iI_lit, kI_add]
theorem again_ex (SC : SCT) (hL : SC.1 ≤ 260) : ∃ w, w ≤ 1 ∧ ∀ m, F_L_again SC m = some (kI w, m) := by
  obtain ⟨c, c1, c2⟩ := cell_ex SC hL (i := 0) (by omega)
  obtain ⟨d, d1, d2⟩ := shr_kI (c := c) (by omega) ((iI 17) &&& 31)
  obtain ⟨e, e1, e2⟩ := and_kI (kI d) (M := 1) (by omega)
  refine ⟨e, e1, fun m => ?_⟩
  have e2 : kI d &&& iI 1 = kI e := e2
  unfold F_L_again
  rw [show iI 0 = kI 0 from rfl, c2, bnd_some, d2, e2]
theorem worth_ex (SC : SCT) (hL : SC.1 ≤ 260) {p : Nat} (hp : p < 7) (k : Int32) : ∃ w, w ≤ 99 ∧ ∀ m, F_L_worth SC (kI p) k m = some (kI w, m) := by
  obtain ⟨c0, c1, c2⟩ := cell_ex SC hL (i := 0) (by omega)
  obtain ⟨b, b1, b2⟩ := cell_ex SC hL (i := 1 + p) (by omega)
  obtain ⟨d, d1, d2⟩ := shr_kI (c := c0) (by omega) ((iI 18) &&& 31)
  obtain ⟨e, e1, e2⟩ := and_kI (kI d) (M := 1) (by omega)
  obtain ⟨a, a1, a2⟩ := shr_kI (c := b) (by omega) (((iI 3) * k) &&& 31)
  have e2 : kI d &&& iI 1 = kI e := e2
  have q0 : ∀ m, F_L_cell SC (iI 0) m = some (kI c0, m) := c2
  have q1 : ∀ m, F_L_cell SC ((iI 1) + kI p) m = some (kI b, m) := fun m => by rw [iI_lit, kI_add]; exact b2 m
  by_cases z : e = 0
  · refine ⟨a % 100, by omega, fun m => ?_⟩
    unfold F_L_worth
    rw [q1, bnd_some, q0, bnd_some, d2, e2, z, if_pos (show kI 0 = iI 0 from rfl), a2, show iI 100 = kI 100 from rfl, rmI_kI (by omega) (by omega) (by omega)]
  · refine ⟨a % 5, by omega, fun m => ?_⟩
    unfold F_L_worth
    rw [q1, bnd_some, q0, bnd_some, d2, e2, if_neg (by rw [iI_lit, kI_eq (by omega) (by omega)]; exact z), a2, show iI 5 = kI 5 from rfl, rmI_kI (by omega) (by omega) (by omega)]
theorem like_ex (SC : SCT) (hL : SC.1 ≤ 260) {p : Nat} (hp : p < 7) (k : Int32) : ∃ w, w ≤ 9 ∧ ∀ m, F_L_like SC (kI p) k m = some (kI w, m) := by
  obtain ⟨b, b1, b2⟩ := cell_ex SC hL (i := 7 + p) (by omega)
  obtain ⟨a, a1, a2⟩ := shr_kI (c := b) (by omega) (((iI 3) * k) &&& 31)
  have q1 : ∀ m, F_L_cell SC ((iI 7) + kI p) m = some (kI b, m) := fun m => by rw [iI_lit, kI_add]; exact b2 m
  refine ⟨a % 10, by omega, fun m => ?_⟩
  unfold F_L_like
  rw [q1, bnd_some, a2, show iI 10 = kI 10 from rfl, rmI_kI (by omega) (by omega) (by omega)]
theorem hasLaw_ex (SC : SCT) (hL : SC.1 ≤ 260) : ∃ w, w ≤ 1 ∧ ∀ m, F_L_hasLaw SC m = some (kI w, m) := by
  obtain ⟨c, c1, c2⟩ := cell_ex SC hL (i := 0) (by omega)
  obtain ⟨d, d1, d2⟩ := shr_kI (c := c) (by omega) ((iI 19) &&& 31)
  obtain ⟨e, e1, e2⟩ := and_kI (kI d) (M := 1) (by omega)
  have e2 : kI d &&& iI 1 = kI e := e2
  by_cases z : e = 1
  · refine ⟨1, by omega, fun m => ?_⟩
    unfold F_L_hasLaw
    rw [show iI 0 = kI 0 from rfl, c2, bnd_some, d2, e2, z, if_pos (show kI 1 = iI 1 from rfl)]
    rfl
  · refine ⟨0, by omega, fun m => ?_⟩
    unfold F_L_hasLaw
    rw [show iI 0 = kI 0 from rfl, c2, bnd_some, d2, e2, if_neg (by rw [iI_lit, kI_eq (by omega) (by omega)]; exact z)]
    rfl
/-! the lot that the script tells -/
/-- all but these two rows are as they were -/
def Ex (μ μ1 : Mm) : Prop := ∀ a, a ≤ 112 → gI μ1 a = gI μ a ∧ gL μ1 a = gL μ a ∧ gR μ1 a = gR μ a
theorem Ex.refl {μ : Mm} : Ex μ μ := fun _ _ => ⟨rfl, rfl, rfl⟩
theorem Ex.trans {μ μ1 μ2 : Mm} (h : Ex μ μ1) (k : Ex μ1 μ2) : Ex μ μ2 := fun a ha => ⟨(k a ha).1.trans (h a ha).1, (k a ha).2.1.trans (h a ha).2.1, (k a ha).2.2.trans (h a ha).2.2⟩
theorem Ex.pI {μ : Mm} {a j : Nat} {v : Int32} (ha : 112 < a) : Ex μ (pI μ a j v) := fun x hx => ⟨gI_pI_ne (by omega), rfl, rfl⟩
theorem Ex.nw {μ : Mm} {a x : Nat} (ha : 112 < a) : Ex μ (pR (clr μ a) a 0 x) := fun y hy => ⟨gI_clr_ne (by omega), gL_clr_ne (by omega), (gR_pR_ne (by omega)).trans (gR_clr_ne (by omega))⟩
theorem nwA_kI {β : Type} {mx x : Nat} (h : x ≤ mx) (hm : mx < 2147483648) (μ : Mm) (a : Nat) (G : Mm → Option β) : nwA mx μ a (kI x) G = G (pR (clr μ a) a 0 x) := by
  unfold nwA
  rw [kI_toInt (by omega), if_pos (by omega)]
  rfl
theorem gR_nw {μ : Mm} {a x : Nat} : gR (pR (clr μ a) a 0 x) a 0 = x := by rw [gR_pR_at]; simp
/-- a row that holds a lot of n -/
def LotR (m : Mm) (n : Nat) (L : Nat → Nat) : Prop := gR m 113 0 = n ∧ (∀ j, j < n → gI m 113 j = kI (L j)) ∧ (∀ j, j < n → L j < n) ∧ ∀ i j, i < n → j < n → L i = L j → i = j
theorem swI {n i j : Nat} {L : Nat → Nat} (hi : i < n) (hj : j < n) (h1 : ∀ q, q < n → L q < n) (h2 : ∀ a b, a < n → b < n → L a = L b → a = b) : (∀ q, q < n → swL L i j q < n) ∧ ∀ a b, a < n → b < n → swL L i j a = swL L i j b → a = b := by
  have P : Pa := (n, fun _ _ => 0, fun _ _ => 0, fun _ => 0, 1, 0, fun w _ _ _ _ _ => w)
  have h := swL_ok (n := n) (P := (n, fun _ _ => 0, fun _ _ => 0, fun _ => 0, 1, 0, fun w _ _ _ _ _ => w)) (lot := L) (i := i) (j := j) ⟨Nat.le_refl _, h2, h1⟩ hi hj
  exact ⟨h.2.2, h.2.1⟩
theorem lot30 (SC : SCT) (hL : SC.1 ≤ 260) {n : Nat} (hn : n ≤ 6) : ∀ k f (m : Mm) (L : Nat → Nat), k < n → k < f → LotR m n L → ∃ m' L', F_L_lot_30 SC f (kI k) m = some (113, m') ∧ LotR m' n L' ∧ Ex m m' := by
  obtain ⟨b, b1, b2⟩ := cell_ex SC hL (i := 13) (by omega)
  have q1 : ∀ m, F_L_cell SC (iI 13) m = some (kI b, m) := b2
  intro k
  induction k with
  | zero =>
    intro f m L _ hf h
    obtain ⟨f, rfl⟩ : ∃ g, f = g + 1 := ⟨f - 1, by omega⟩
    refine ⟨m, L, ?_, h, Ex.refl⟩
    rw [F_L_lot_30, if_pos (by rw [iI_lit, kI_le (by omega) (by omega)]; exact Nat.le_refl _)]
  | succ k ih =>
    intro f m L hk hf h
    obtain ⟨f, rfl⟩ : ∃ g, f = g + 1 := ⟨f - 1, by omega⟩
    obtain ⟨a, a1, a2⟩ := shr_kI (c := b) (by omega) (((iI 3) * kI (k + 1)) &&& 31)
    obtain ⟨h1, h2, h3, h4⟩ := h
    have hj : a % (k + 2) < n := by have := Nat.mod_lt a (show 0 < k + 2 by omega); omega
    have sw := swI hk hj h3 h4
    have e0 : ∀ x, x < n → gI (pI (pI m 113 (k + 1) (kI (L (a % (k + 2))))) 113 (a % (k + 2)) (kI (L (k + 1)))) 113 x = kI (swL L (k + 1) (a % (k + 2)) x) := swapM h2 hk hj
    have l0 : LotR (pI (pI m 113 (k + 1) (kI (L (a % (k + 2))))) 113 (a % (k + 2)) (kI (L (k + 1)))) n (swL L (k + 1) (a % (k + 2))) := ⟨h1, e0, sw.1, sw.2⟩
    obtain ⟨m', L', i1, i2, i3⟩ := ih f _ _ (by omega) (by omega) l0
    refine ⟨m', L', ?_, i2, (Ex.pI (by omega)).trans ((Ex.pI (by omega)).trans i3)⟩
    rw [F_L_lot_30, if_neg (by rw [iI_lit, kI_le (by omega) (by omega)]; omega), q1, bnd_some, a2, show iI 1 = kI 1 from rfl, kI_add, rmI_kI (by omega) (by omega) (by omega), show k + 1 + 1 = k + 2 from rfl, h1, rd_kI (by omega) (by omega), nm_eq, rd_kI (by omega) (by omega), wrI_kI (by omega) (by omega), show gR (pI m 113 (k + 1) (gI m 113 (a % (k + 2)))) 113 0 = n from h1, wrI_kI (by omega) (by omega), nm_eq, kI_s1, h2 _ hj, h2 _ hk]
    exact i1
theorem lot11 (SC : SCT) (hL : SC.1 ≤ 260) {n : Nat} (hn : n ≤ 6) (h0 : 1 ≤ n) : ∀ c i f (m : Mm), i + c = n → c < f → gR m 113 0 = n → (∀ j, j < i → gI m 113 j = kI j) → ∃ m' L', F_L_lot_11 SC f (kI n) (kI i) m = some (113, m') ∧ LotR m' n L' ∧ Ex m m' := by
  intro c
  induction c with
  | zero =>
    intro i f m hi hf h1 h2
    obtain ⟨f, rfl⟩ : ∃ g, f = g + 1 := ⟨f - 1, by omega⟩
    obtain ⟨m', L', i1, i2, i3⟩ := lot30 SC hL hn (n - 1) FU m (fun j => j) (by omega) (by unfold FU; omega) ⟨h1, fun j hj => h2 j (by omega), fun j hj => hj, fun _ _ _ _ h => h⟩
    refine ⟨m', L', ?_, i2, i3⟩
    rw [F_L_lot_11, if_pos (by rw [kI_le (by omega) (by omega)]; omega), iI_lit, kI_sub h0, nm_eq]
    exact i1
  | succ c ih =>
    intro i f m hi hf h1 h2
    obtain ⟨f, rfl⟩ : ∃ g, f = g + 1 := ⟨f - 1, by omega⟩
    obtain ⟨m', L', i1, i2, i3⟩ := ih (i + 1) f (pI m 113 i (kI i)) (by omega) (by omega) h1 (fun j hj => by
      rw [gI_pI]
      by_cases z : j = i
      · rw [if_pos ⟨rfl, z⟩, z]
      · rw [if_neg (fun q => z q.2)]; exact h2 j (by omega))
    refine ⟨m', L', ?_, i2, (Ex.pI (by omega)).trans i3⟩
    rw [F_L_lot_11, if_neg (by rw [kI_le (by omega) (by omega)]; omega), h1, wrI_kI (by omega) (by omega), nm_eq, iI_lit, kI_add]
    exact i1
theorem lot_ex (SC : SCT) (hL : SC.1 ≤ 260) {n : Nat} (hn : n ≤ 6) (h0 : 1 ≤ n) (hp : ∀ m, F_L_people SC m = some (kI n, m)) (m : Mm) : ∃ m' L, F_L_lot SC m = some (113, m') ∧ LotR m' n L ∧ Ex m m' := by
  obtain ⟨m', L, i1, i2, i3⟩ := lot11 SC hL hn h0 n 0 FU (pR (clr m 113) 113 0 n) (by omega) (by unfold FU; omega) gR_nw (fun j hj => absurd hj (by omega))
  refine ⟨m', L, ?_, i2, (Ex.nw (by omega)).trans i3⟩
  unfold F_L_lot
  rw [hp, bnd_some, nwA_kI (by omega) (by omega)]
  exact i1
