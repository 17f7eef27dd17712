/-! A TEXT, READ BY THE REFERENCE -/
def rI9 (c : Nat) : Int32 := if c = 256 then iI (-1) else nB (kI c)
theorem nB_lo {c : Nat} (h : c < 128) : nB (kI c) = kI c := (by decide +kernel : ∀ c, c < 128 → nB (kI c) = kI c) c h
theorem nB_hi {c : Nat} (h : 128 ≤ c) (h2 : c < 256) : (nB (kI c)).toInt < 0 := (by decide +kernel : ∀ c, c < 256 → 128 ≤ c → (nB (kI c)).toInt < 0) c h2 h
theorem rI9_lo {c : Nat} (h : c < 128) : rI9 c = kI c := by
  unfold rI9
  rw [if_neg (by omega), nB_lo h]
theorem rI9_hi {c : Nat} (hc : c ≤ 256) (h : 128 ≤ c) : (rI9 c).toInt < 0 := by
  unfold rI9
  by_cases z : c = 256
  · rw [if_pos z]; decide
  · rw [if_neg z]; exact nB_hi h (by omega)
theorem rI9_eq {c k : Nat} (hc : c ≤ 256) (hk : k < 128) : (rI9 c = kI k) ↔ c = k := by
  by_cases z : c < 128
  · rw [rI9_lo z, kI_eq (by omega) (by omega)]
  · have := rI9_hi hc (by omega)
    constructor
    · intro h; rw [h, kI_toInt (by omega)] at this; omega
    · intro h; omega
def CE9 (a j : Nat) : Prop := (a = 113 ∧ 28 ≤ j ∧ j ≤ 31) ∨ ((a = 130 ∨ a = 131) ∧ 130 ≤ j)
def H9 (b : Nat → Nat) (l : Nat) (m0 : Mm) : Prop := l ≤ 120 ∧ (∀ i, i < l → b i ≤ 255) ∧ gI m0 113 27 = kI l ∧ ∀ i, i < l → gI m0 129 i = nB (kI (b i))
def P9 (m0 m : Mm) (p op : Nat) (D : List Ins) : Prop := FrC CE9 m0 m ∧ gI m 113 28 = kI p ∧ gI m 113 29 = iI (-1) ∧ gI m 113 30 = kI op ∧ gI m 113 31 = kI D.length ∧ ∀ i, i < D.length → gI m 130 (130 + i) = kI (D.getD i (0, 0)).1 ∧ gI m 131 (130 + i) = kI (D.getD i (0, 0)).2
def Q9 (l : Nat) (m0 m : Mm) (f n h : Nat) : Prop := FrC CE9 m0 m ∧ gI m 113 29 = kI f ∧ f ≤ l ∧ gI m 113 28 = kI h ∧ h ≤ l ∧ gI m 113 31 = kI n
def Ex9 (b : Nat → Nat) (l : Nat) (m0 : Mm) (op : Nat) (X : Mm → Option (Unit × Mm)) (p : Nat) (r : Res) : Prop := ∀ m D, P9 m0 m p op D → D.length ≤ p → Wp (X m) fun _ m' => match r.2 with
  | some t => P9 m0 m' r.1 op (D ++ t)
  | none => ∃ n h, Q9 l m0 m' r.1 n h ∧ n + p ≤ D.length + h + 1
theorem m1_0le : ¬ iI 0 ≤ iI (-1) := by rw [iI_le2 (by omega) (by omega)]; omega
theorem k_0le {f : Nat} (h : f < 100000) : iI 0 ≤ kI f := by rw [iI_lit, kI_le (by omega) (by omega)]; omega
section T9
variable {b : Nat → Nat} {l : Nat} {m0 : Mm}
theorem cch_le9 (H : H9 b l m0) (p : Nat) : cch b l p ≤ 256 := by
  unfold cch
  split
  · next z => have := H.2.1 p z; omega
  · omega
theorem lkq9 {m : Mm} {p : Nat} (H : H9 b l m0) (hp : p ≤ l) (hf : FrC CE9 m0 m) (h : gI m 113 28 = kI p) : F_X9_look m = some (rI9 (cch b l p), m) := by
  have hl := H.1
  have t1 : gI m 113 27 = kI l := by rw [hf.1 113 27 (by unfold CE9; omega)]; exact H.2.2.1
  unfold F_X9_look
  rw [t1, h]
  by_cases z : p < l
  · have b1 := H.2.1 p z
    rw [if_neg (by rw [kI_le (by omega) (by omega)]; omega), rd_kI (by omega) (by omega), hf.1 129 p (by unfold CE9; omega), H.2.2.2 p z, cch_at z]
    unfold rI9
    rw [if_neg (by omega)]
  · have : p = l := by omega
    rw [if_pos (by rw [kI_le (by omega) (by omega)]; omega), this, cch_end]
    rfl
theorem lk9 {m : Mm} {p op : Nat} {D : List Ins} (H : H9 b l m0) (hp : p ≤ l) (h : P9 m0 m p op D) : F_X9_look m = some (rI9 (cch b l p), m) := lkq9 H hp h.1 h.2.1
theorem adv9 {m : Mm} {p op : Nat} {D : List Ins} (h : P9 m0 m p op D) : P9 m0 (pI m 113 28 (gI m 113 28 + iI 1)) (p + 1) op D := by
  obtain ⟨h1, h2, h3, h4, h5, h6⟩ := h
  refine ⟨h1.put (Or.inl ⟨rfl, by omega, by omega⟩), ?_, ?_, ?_, ?_, fun i hi => ?_⟩
  · rw [gI_pI, if_pos ⟨rfl, rfl⟩, h2, kI_a1]
  · rw [gI_pI, if_neg (by omega)]; exact h3
  · rw [gI_pI, if_neg (by omega)]; exact h4
  · rw [gI_pI, if_neg (by omega)]; exact h5
  · rw [gI_pI, if_neg (by omega), gI_pI, if_neg (by omega)]; exact h6 i hi
theorem opn9 {m : Mm} {p op op' : Nat} {D : List Ins} (h : P9 m0 m p op D) : P9 m0 (pI m 113 30 (kI op')) p op' D := by
  obtain ⟨h1, h2, h3, h4, h5, h6⟩ := h
  refine ⟨h1.put (Or.inl ⟨rfl, by omega, by omega⟩), ?_, ?_, ?_, ?_, fun i hi => ?_⟩
  · rw [gI_pI, if_neg (by omega)]; exact h2
  · rw [gI_pI, if_neg (by omega)]; exact h3
  · rw [gI_pI, if_pos ⟨rfl, rfl⟩]
  · rw [gI_pI, if_neg (by omega)]; exact h5
  · rw [gI_pI, if_neg (by omega), gI_pI, if_neg (by omega)]; exact h6 i hi
theorem opn9q {m : Mm} {v : Int32} {f n h : Nat} (q : Q9 l m0 m f n h) : Q9 l m0 (pI m 113 30 v) f n h := by
  obtain ⟨h1, h2, h3, h4, h5, h6⟩ := q
  refine ⟨h1.put (Or.inl ⟨rfl, by omega, by omega⟩), ?_, h3, ?_, h5, ?_⟩
  · rw [gI_pI, if_neg (by omega)]; exact h2
  · rw [gI_pI, if_neg (by omega)]; exact h4
  · rw [gI_pI, if_neg (by omega)]; exact h6
theorem add9 {m : Mm} {x : Int32} {o v p op : Nat} {D : List Ins} (hx : nB (x.toInt8.toInt32) = kI o) (h : P9 m0 m p op D) (hD : D.length < 130) : ∃ m', F_X9_addStep x (kI v) m = some ((), m') ∧ P9 m0 m' p op (D ++ [(o, v)]) := by
  obtain ⟨h1, h2, h3, h4, h5, h6⟩ := h
  have e : ((iI 130) + kI D.length) = kI (130 + D.length) := by rw [iI_lit, kI_add]
  refine ⟨pI (pI (pI m 130 (130 + D.length) (kI o)) 131 (130 + D.length) (kI v)) 113 31 (kI (D.length + 1)), ?_, ((h1.put (Or.inr ⟨Or.inl rfl, by omega⟩)).put (Or.inr ⟨Or.inr rfl, by omega⟩)).put (Or.inl ⟨rfl, by omega, by omega⟩), ?_, ?_, ?_, ?_, fun i hi => ?_⟩
  · unfold F_X9_addStep
    rw [h5, e, hx, wrI_kI (by omega) (by omega), gI_pI, if_neg (by omega), h5, e, wrI_kI (by omega) (by omega), nm_eq, gI_pI, if_neg (by omega), gI_pI, if_neg (by omega), h5, kI_a1]
  · rw [gI_pI, if_neg (by omega), gI_pI, if_neg (by omega), gI_pI, if_neg (by omega)]; exact h2
  · rw [gI_pI, if_neg (by omega), gI_pI, if_neg (by omega), gI_pI, if_neg (by omega)]; exact h3
  · rw [gI_pI, if_neg (by omega), gI_pI, if_neg (by omega), gI_pI, if_neg (by omega)]; exact h4
  · rw [gI_pI, if_pos ⟨rfl, rfl⟩, List.length_append]; rfl
  · rw [List.length_append] at hi
    have hi : i < D.length + 1 := hi
    rw [getD_app2 hi]
    refine ⟨?_, ?_⟩
    · rw [gI_pI, if_neg (by omega), gI_pI, if_neg (by omega), gI_pI]
      by_cases z : i = D.length
      · rw [if_pos ⟨rfl, by omega⟩, if_pos z]
      · rw [if_neg (by omega), if_neg z]
        exact (h6 i (by omega)).1
    · rw [gI_pI, if_neg (by omega), gI_pI]
      by_cases z : i = D.length
      · rw [if_pos ⟨rfl, by omega⟩, if_pos z]
      · rw [if_neg (by omega), if_neg z, gI_pI, if_neg (by omega)]
        exact (h6 i (by omega)).2
theorem add9q {m : Mm} {x v : Int32} {f n h : Nat} (q : Q9 l m0 m f n h) (hn : n < 130) : ∃ m', F_X9_addStep x v m = some ((), m') ∧ Q9 l m0 m' f (n + 1) h := by
  obtain ⟨h1, h2, h3, h4, h5, h6⟩ := q
  have e : ((iI 130) + kI n) = kI (130 + n) := by rw [iI_lit, kI_add]
  refine ⟨pI (pI (pI m 130 (130 + n) (nB (x.toInt8.toInt32))) 131 (130 + n) v) 113 31 (kI (n + 1)), ?_, ((h1.put (Or.inr ⟨Or.inl rfl, by omega⟩)).put (Or.inr ⟨Or.inr rfl, by omega⟩)).put (Or.inl ⟨rfl, by omega, by omega⟩), ?_, h3, ?_, h5, ?_⟩
  · unfold F_X9_addStep
    rw [h6, e, wrI_kI (by omega) (by omega), gI_pI, if_neg (by omega), h6, e, wrI_kI (by omega) (by omega), nm_eq, gI_pI, if_neg (by omega), gI_pI, if_neg (by omega), h6, kI_a1]
  · rw [gI_pI, if_neg (by omega), gI_pI, if_neg (by omega), gI_pI, if_neg (by omega)]; exact h2
  · rw [gI_pI, if_neg (by omega), gI_pI, if_neg (by omega), gI_pI, if_neg (by omega)]; exact h4
  · rw [gI_pI, if_pos ⟨rfl, rfl⟩]
theorem faulty9 {m : Mm} {p op : Nat} {D : List Ins} (hp : p ≤ l) (h : P9 m0 m p op D) : ∃ m', F_X9_faulty m = some ((), m') ∧ Q9 l m0 m' p D.length p := by
  obtain ⟨h1, h2, h3, h4, h5, h6⟩ := h
  refine ⟨pI m 113 29 (kI p), ?_, h1.put (Or.inl ⟨rfl, by omega, by omega⟩), ?_, hp, ?_, hp, ?_⟩
  · unfold F_X9_faulty
    rw [h3, if_neg m1_0le, nm_eq, h2]
  · rw [gI_pI, if_pos ⟨rfl, rfl⟩]
  · rw [gI_pI, if_neg (by omega)]; exact h2
  · rw [gI_pI, if_neg (by omega)]; exact h5
theorem in9 {c : Nat} {m : Mm} (hc : c ≤ 256) : F_X9_in (rI9 c) (iI 48) (iI 57) m = some (if isD c = true then kI 1 else kI 0, m) := by
  by_cases y : isD c = true
  · have d := isD_iff.mp y
    rw [if_pos y, rI9_lo (by omega)]
    exact in_yes (a := 48) (b := 57) d.1 d.2 (by omega)
  · have y' : ¬ (48 ≤ c ∧ c ≤ 57) := fun w => y (isD_iff.mpr w)
    rw [if_neg y]
    exact in_no (a := 48) (b := 57) (by omega) (by omega) (fun k k1 k2 w => y' (by have := (rI9_eq hc (by omega)).mp w; omega))
theorem name9 {c : Nat} {m : Mm} (hc : c ≤ 256) : F_X9_nameOf (rI9 c) m = some (kO (nmO c), m) := by
  by_cases z : c < 128
  · rw [rI9_lo z, ← aI_kI (show c ≠ 256 by omega)]
    exact name8 hc
  · have h := rI9_hi hc (by omega)
    have hn : nmO c = none := by
      unfold nmO
      rw [if_neg (by omega), if_neg (by omega), if_neg (by omega), if_neg (by omega), if_neg (by omega), if_neg (by omega)]
    rw [hn]
    unfold F_X9_nameOf tsw
    rw [if_neg (by omega)]
    rfl
theorem fig9_loop {op : Nat} {D : List Ins} (H : H9 b l m0) : ∀ c n p v f (m : Mm), n + c = 4 → c < f → p ≤ l → v < 10 ^ n → P9 m0 m p op D → ∃ m', F_X9_figure_4 f (kI v) (kI n) m = F_X9_figure_52 (kI (dgs (cch b l) c p v).2) (kI (n + ((dgs (cch b l) c p v).1 - p))) m' ∧ P9 m0 m' (dgs (cch b l) c p v).1 op D := by
  intro c
  induction c with
  | zero =>
    intro n p v f m hn hf hp hv h
    obtain ⟨f, rfl⟩ : ∃ g, f = g + 1 := ⟨f - 1, by omega⟩
    refine ⟨m, ?_, h⟩
    rw [F_X9_figure_4, if_pos (by rw [iI_lit, kI_le (by omega) (by omega)]; omega)]
    show _ = F_X9_figure_52 (kI v) (kI (n + (p - p))) m
    rw [Nat.sub_self, Nat.add_zero]
  | succ c ih =>
    intro n p v f m hn hf hp hv h
    obtain ⟨f, rfl⟩ : ∃ g, f = g + 1 := ⟨f - 1, by omega⟩
    have hle := cch_le9 H p
    have edg : dgs (cch b l) (c + 1) p v = if isD (cch b l p) = true then dgs (cch b l) c (p + 1) (10 * v + (cch b l p - 48)) else (p, v) := rfl
    have hv4 : 10 ^ n ≤ 10 ^ 3 := Nat.pow_le_pow_right (by omega) (by omega)
    rw [edg, F_X9_figure_4, if_neg (by rw [iI_lit, kI_le (by omega) (by omega)]; omega), bnd_eq (lk9 H hp h), bnd_eq (in9 hle)]
    by_cases z : isD (cch b l p) = true
    · have d := isD_iff.mp z
      have zl := isD_lt z
      have e2 : (((iI 10) * kI v) + rI9 (cch b l p)) - iI 48 = kI (10 * v + (cch b l p - 48)) := by
        rw [rI9_lo (by omega), iI_lit, kI_mul, kI_add, iI_lit, kI_sub (by omega)]
        congr 1
        omega
      rw [if_pos z, if_pos z, if_neg k1_ne0, bnd_eq (lk9 H hp h), nm_eq, nm_eq, nm_eq, e2, kI_a1]
      have hpw : 10 ^ (n + 1) = 10 ^ n * 10 := Nat.pow_succ ..
      obtain ⟨m', i1, i2⟩ := ih (n + 1) (p + 1) (10 * v + (cch b l p - 48)) f _ (by omega) (by omega) (by omega) (by omega) (adv9 h)
      have g := dgs_gr (b := b) (l := l) c (p + 1) (10 * v + (cch b l p - 48)) (by omega)
      refine ⟨m', ?_, i2⟩
      rw [i1]
      congr 2
      omega
    · rw [if_neg z, if_neg z, if_pos k0_eq0]
      refine ⟨m, ?_, h⟩
      show _ = F_X9_figure_52 (kI v) (kI (n + (p - p))) m
      rw [Nat.sub_self, Nat.add_zero]
def figR (C : Nat → Nat) (p : Nat) : Res := if isD (C p) = true then numR C p else (p, none)
theorem fig9 {op p : Nat} (H : H9 b l m0) (hp : p ≤ l) : Ex9 b l m0 op (fun m => F_X9_figure m) p (figR (cch b l) p) := by
  intro m D h hD
  have hl := H.1
  have hle := cch_le9 H p
  obtain ⟨m1, a1, a2⟩ := fig9_loop H 4 0 p 0 FU m (by omega) (by unfold FU; omega) hp (by show 0 < 1; omega) h
  have g := dgs_gr (b := b) (l := l) 4 p 0 hp
  have st : F_X9_figure m = F_X9_figure_52 (kI (dgs (cch b l) 4 p 0).2) (kI (0 + ((dgs (cch b l) 4 p 0).1 - p))) m1 := a1
  have t74 : ∀ m x, F_X9_figure_74 x m = F_X9_addStep (iI 1) x m := fun m x => by unfold F_X9_figure_74; rw [bnd_idU]
  show Wp (F_X9_figure m) _
  rw [st]
  unfold F_X9_figure_52 F_X9_figure_70 figR
  by_cases z : isD (cch b l p) = true
  · have hp1 := isD_lt z
    have e : dgs (cch b l) 4 p 0 = dgs (cch b l) 3 (p + 1) (10 * 0 + (cch b l p - 48)) := if_pos z
    have g3 := dgs_gr (b := b) (l := l) 3 (p + 1) (10 * 0 + (cch b l p - 48)) (by omega)
    rw [← e] at g3
    have hle2 := cch_le9 H (dgs (cch b l) 4 p 0).1
    rw [if_pos z, if_neg (by rw [iI_lit, kI_eq (by omega) (by omega)]; omega), bnd_eq (lk9 H g.2.1 a2), bnd_eq (in9 hle2)]
    unfold numR
    by_cases y : isD (cch b l (dgs (cch b l) 4 p 0).1) = true
    · obtain ⟨m2, b1, b2⟩ := faulty9 g.2.1 a2
      obtain ⟨m3, c1, c2⟩ := add9q (x := iI 1) (v := kI (dgs (cch b l) 4 p 0).2) b2 (by omega)
      rw [if_pos y, if_pos y, if_neg k1_ne0, bnd_eq b1, t74, c1]
      exact ⟨(), m3, rfl, _, _, c2, by omega⟩
    · obtain ⟨m3, c1, c2⟩ := add9 (x := iI 1) (o := 1) (v := (dgs (cch b l) 4 p 0).2) (by decide) a2 (by omega)
      rw [if_neg y, if_neg y, if_pos k0_eq0, t74, c1]
      exact ⟨(), m3, rfl, c2⟩
  · have e : dgs (cch b l) 4 p 0 = (p, 0) := if_neg z
    rw [e] at a2 ⊢
    obtain ⟨m2, b1, b2⟩ := faulty9 hp a2
    obtain ⟨m3, c1, c2⟩ := add9q (x := iI 1) (v := kI 0) b2 (by omega)
    rw [if_neg z, if_pos (by show kI (0 + (p - p)) = iI 0; rw [Nat.sub_self]; rfl), bnd_eq b1, t74, c1]
    exact ⟨(), m3, rfl, _, _, c2, by show D.length + 1 + p ≤ D.length + p + 1; omega⟩
theorem op_nB {c : Nat} (h : c < 128) : nB ((rI9 c).toInt8.toInt32) = kI c := by
  rw [rI9_lo h, (feed_val (by omega)).2, nB_lo h]
theorem prdif9 {α : Type} {Y : Mm → Option α} {c : Nat} {m : Mm} (hc : c ≤ 256) (hl : F_X9_look m = some (rI9 c, m)) (Z : Mm → Option α) : (bnd (F_X9_look m) fun v1 m2 => (if v1 = (iI 42) then Z m2 else (bnd (F_X9_look m2) fun v3 m4 => (if v3 = (iI 47) then Z m4 else (bnd (F_X9_look m4) fun v5 m6 => (if v5 = (iI 37) then Z m6 else Y m6)))))) = if oPrd c = true then Z m else Y m := by
  have e : ∀ k, k < 128 → ¬ c = k → ¬ rI9 c = iI (k : Int) := fun k hk h w => h ((rI9_eq hc hk).mp w)
  have e2 : ∀ k, k < 128 → c = k → rI9 c = iI (k : Int) := fun k hk h => (rI9_eq hc hk).mpr h
  unfold oPrd
  by_cases z : c = 42 ∨ c = 47 ∨ c = 37
  · rw [if_pos (decide_eq_true z)]
    rcases z with z | z | z
    · rw [bnd_eq hl, if_pos (show rI9 c = iI 42 from e2 42 (by omega) z)]
    · rw [bnd_eq hl, if_neg (show ¬ rI9 c = iI 42 from e 42 (by omega) (by omega)), bnd_eq hl, if_pos (show rI9 c = iI 47 from e2 47 (by omega) z)]
    · rw [bnd_eq hl, if_neg (show ¬ rI9 c = iI 42 from e 42 (by omega) (by omega)), bnd_eq hl, if_neg (show ¬ rI9 c = iI 47 from e 47 (by omega) (by omega)), bnd_eq hl, if_pos (show rI9 c = iI 37 from e2 37 (by omega) z)]
  · rw [if_neg (fun w => z (of_decide_eq_true w))]
    rw [bnd_eq hl, if_neg (show ¬ rI9 c = iI 42 from e 42 (by omega) (by omega)), bnd_eq hl, if_neg (show ¬ rI9 c = iI 47 from e 47 (by omega) (by omega)), bnd_eq hl, if_neg (show ¬ rI9 c = iI 37 from e 37 (by omega) (by omega))]
theorem prdloop9 {g : Mm → Option (Unit × Mm)} {op p0 : Nat} {O : Nat → Res} {D : List Ins} (H : H9 b l m0) (hg : ∀ p, p ≤ l → GR l p (O p)) (hs : ∀ p, p ≤ l → Ex9 b l m0 op g p (O p)) : ∀ M p t f (m : Mm), l - p < M → l - p + 1 < f → p ≤ l → D.length ≤ p0 → p0 + t.length ≤ p → P9 m0 m p op (D ++ t) → Wp (F_X9_product_4 g f m) fun _ m' => match (lev (cch b l) oPrd O M p t).2 with
    | some t' => P9 m0 m' (lev (cch b l) oPrd O M p t).1 op (D ++ t')
    | none => ∃ n h, Q9 l m0 m' (lev (cch b l) oPrd O M p t).1 n h ∧ n + p0 ≤ D.length + h + 1 := by
  have hl := H.1
  intro M
  induction M with
  | zero => exact fun p t f m h => absurd h (by omega)
  | succ M ih =>
    intro p t f m hM hf hp hD0 hD h
    obtain ⟨f, rfl⟩ : ∃ x, f = x + 1 := ⟨f - 1, by omega⟩
    have hle := cch_le9 H p
    rw [F_X9_product_4, h.2.2.1, if_neg m1_0le]
    have ecc := prdif9 (α := Unit × Mm) (Y := fun m => some ((), m)) hle (lk9 H hp h) (F_X9_product_38 (F_X9_product_4 g f) g)
    rw [ecc]
    have el : lev (cch b l) oPrd O (M + 1) p t = if oPrd (cch b l p) = true then match O (p + 1) with
        | (p', none) => (p', none)
        | (p', some t') => lev (cch b l) oPrd O M p' (t ++ t' ++ [(cch b l p, 0)])
      else (p, some t) := rfl
    rw [el]
    by_cases z : oPrd (cch b l p) = true
    · rw [if_pos z, if_pos z]
      have zl := cch_lt (b := b) (ok_oPrd _ z).1
      have g1 := hg (p + 1) (by omega)
      obtain ⟨_, m3, a1, a2⟩ := hs (p + 1) (by omega) _ (D ++ t) (adv9 h) (by rw [List.length_append]; omega)
      unfold F_X9_product_38
      rw [bnd_eq (lk9 H hp h), nm_eq, bnd_eq a1]
      generalize O (p + 1) = r at g1 a2
      obtain ⟨p', o⟩ := r
      cases o with
      | none =>
        have a2 : ∃ n h, Q9 l m0 m3 p' n h ∧ n + (p + 1) ≤ (D ++ t).length + h + 1 := a2
        obtain ⟨n, hh, a3, a4⟩ := a2
        rw [List.length_append] at a4
        have a5 := a3.2.2.2.2.1
        obtain ⟨m5, b1, b2⟩ := add9q (x := rI9 (cch b l p)) (v := iI 0) a3 (by omega)
        obtain ⟨f, rfl⟩ : ∃ x, f = x + 1 := ⟨f - 1, by omega⟩
        have b3 := b2.2.2.1
        rw [bnd_eq b1, F_X9_product_4, b2.2.1, if_pos (k_0le (by omega))]
        exact ⟨(), m5, rfl, _, _, b2, by omega⟩
      | some t' =>
        have g1 : p + 1 < p' ∧ p' ≤ l ∧ p + 1 + t'.length ≤ p' ∧ 1 ≤ t'.length := g1
        have a2 : P9 m0 m3 p' op (D ++ t ++ t') := a2
        obtain ⟨m5, b1, b2⟩ := add9 (x := rI9 (cch b l p)) (v := 0) (op_nB (ok_oPrd _ z).2.1) a2 (by rw [List.length_append, List.length_append]; omega)
        have e3 : D ++ t ++ t' ++ [(cch b l p, 0)] = D ++ (t ++ t' ++ [(cch b l p, 0)]) := by
          rw [List.append_assoc, List.append_assoc, List.append_assoc]
        rw [e3] at b2
        have b1 : F_X9_addStep (rI9 (cch b l p)) (iI 0) m3 = some ((), m5) := b1
        rw [bnd_eq b1]
        exact ih p' _ f m5 (by omega) (by omega) g1.2.1 hD0 (by
          rw [List.length_append, List.length_append]
          show p0 + (t.length + t'.length + 1) ≤ p'
          omega) b2
    · rw [if_neg z, if_neg z]
      exact ⟨(), m, rfl, h⟩
theorem prdc9 {g : Mm → Option (Unit × Mm)} {op : Nat} {O : Nat → Res} (H : H9 b l m0) (hg : ∀ p, p ≤ l → GR l p (O p)) (hs : ∀ p, p ≤ l → Ex9 b l m0 op g p (O p)) (p : Nat) (hp : p ≤ l) : Ex9 b l m0 op (B_X9_product g) p (levS (cch b l) oPrd O p) := by
  intro m D h hD
  have hl := H.1
  obtain ⟨_, m2, a1, a2⟩ := hs p hp m D h hD
  have g1 := hg p hp
  show Wp (bnd (g m) fun _ m2 => F_X9_product_4 g FU m2) _
  unfold levS
  rw [bnd_eq a1]
  generalize O p = r at g1 a2
  obtain ⟨p', o⟩ := r
  cases o with
  | none =>
    have a2 : ∃ n h, Q9 l m0 m2 p' n h ∧ n + p ≤ D.length + h + 1 := a2
    obtain ⟨n, hh, a3, a4⟩ := a2
    have a5 := a3.2.2.1
    rw [show FU = 999999 + 1 from rfl, F_X9_product_4, a3.2.1, if_pos (k_0le (by omega))]
    exact ⟨(), m2, rfl, _, _, a3, a4⟩
  | some t =>
    have g1 : p < p' ∧ p' ≤ l ∧ p + t.length ≤ p' ∧ 1 ≤ t.length := g1
    have a2 : P9 m0 m2 p' op (D ++ t) := a2
    exact prdloop9 H hg hs 130 p' t FU m2 (by omega) (by unfold FU; omega) g1.2.1 hD (by omega) a2
theorem sumif9 {α : Type} {Y : Mm → Option α} {c : Nat} {m : Mm} (hc : c ≤ 256) (hl : F_X9_look m = some (rI9 c, m)) (Z : Mm → Option α) : (bnd (F_X9_look m) fun v1 m2 => (if v1 = (iI 43) then Z m2 else (bnd (F_X9_look m2) fun v3 m4 => (if v3 = (iI 45) then Z m4 else Y m4)))) = if oSum c = true then Z m else Y m := by
  have e : ∀ k, k < 128 → ¬ c = k → ¬ rI9 c = iI (k : Int) := fun k hk h w => h ((rI9_eq hc hk).mp w)
  have e2 : ∀ k, k < 128 → c = k → rI9 c = iI (k : Int) := fun k hk h => (rI9_eq hc hk).mpr h
  unfold oSum
  by_cases z : c = 43 ∨ c = 45
  · rw [if_pos (decide_eq_true z)]
    rcases z with z | z
    · rw [bnd_eq hl, if_pos (show rI9 c = iI 43 from e2 43 (by omega) z)]
    · rw [bnd_eq hl, if_neg (show ¬ rI9 c = iI 43 from e 43 (by omega) (by omega)), bnd_eq hl, if_pos (show rI9 c = iI 45 from e2 45 (by omega) z)]
  · rw [if_neg (fun w => z (of_decide_eq_true w))]
    rw [bnd_eq hl, if_neg (show ¬ rI9 c = iI 43 from e 43 (by omega) (by omega)), bnd_eq hl, if_neg (show ¬ rI9 c = iI 45 from e 45 (by omega) (by omega))]
theorem sumloop9 {g : Mm → Option (Unit × Mm)} {op p0 : Nat} {O : Nat → Res} {D : List Ins} (H : H9 b l m0) (hg : ∀ p, p ≤ l → GR l p (O p)) (hs : ∀ p, p ≤ l → Ex9 b l m0 op g p (O p)) : ∀ M p t f (m : Mm), l - p < M → l - p + 1 < f → p ≤ l → D.length ≤ p0 → p0 + t.length ≤ p → P9 m0 m p op (D ++ t) → Wp (F_X9_sum_4 g f m) fun _ m' => match (lev (cch b l) oSum O M p t).2 with
    | some t' => P9 m0 m' (lev (cch b l) oSum O M p t).1 op (D ++ t')
    | none => ∃ n h, Q9 l m0 m' (lev (cch b l) oSum O M p t).1 n h ∧ n + p0 ≤ D.length + h + 1 := by
  have hl := H.1
  intro M
  induction M with
  | zero => exact fun p t f m h => absurd h (by omega)
  | succ M ih =>
    intro p t f m hM hf hp hD0 hD h
    obtain ⟨f, rfl⟩ : ∃ x, f = x + 1 := ⟨f - 1, by omega⟩
    have hle := cch_le9 H p
    rw [F_X9_sum_4, h.2.2.1, if_neg m1_0le]
    have ecc := sumif9 (α := Unit × Mm) (Y := fun m => some ((), m)) hle (lk9 H hp h) (F_X9_sum_29 (F_X9_sum_4 g f) g)
    rw [ecc]
    have el : lev (cch b l) oSum O (M + 1) p t = if oSum (cch b l p) = true then match O (p + 1) with
        | (p', none) => (p', none)
        | (p', some t') => lev (cch b l) oSum O M p' (t ++ t' ++ [(cch b l p, 0)])
      else (p, some t) := rfl
    rw [el]
    by_cases z : oSum (cch b l p) = true
    · rw [if_pos z, if_pos z]
      have zl := cch_lt (b := b) (ok_oSum _ z).1
      have g1 := hg (p + 1) (by omega)
      obtain ⟨_, m3, a1, a2⟩ := hs (p + 1) (by omega) _ (D ++ t) (adv9 h) (by rw [List.length_append]; omega)
      unfold F_X9_sum_29
      rw [bnd_eq (lk9 H hp h), nm_eq, bnd_eq a1]
      generalize O (p + 1) = r at g1 a2
      obtain ⟨p', o⟩ := r
      cases o with
      | none =>
        have a2 : ∃ n h, Q9 l m0 m3 p' n h ∧ n + (p + 1) ≤ (D ++ t).length + h + 1 := a2
        obtain ⟨n, hh, a3, a4⟩ := a2
        rw [List.length_append] at a4
        have a5 := a3.2.2.2.2.1
        obtain ⟨m5, b1, b2⟩ := add9q (x := rI9 (cch b l p)) (v := iI 0) a3 (by omega)
        obtain ⟨f, rfl⟩ : ∃ x, f = x + 1 := ⟨f - 1, by omega⟩
        have b3 := b2.2.2.1
        rw [bnd_eq b1, F_X9_sum_4, b2.2.1, if_pos (k_0le (by omega))]
        exact ⟨(), m5, rfl, _, _, b2, by omega⟩
      | some t' =>
        have g1 : p + 1 < p' ∧ p' ≤ l ∧ p + 1 + t'.length ≤ p' ∧ 1 ≤ t'.length := g1
        have a2 : P9 m0 m3 p' op (D ++ t ++ t') := a2
        obtain ⟨m5, b1, b2⟩ := add9 (x := rI9 (cch b l p)) (v := 0) (op_nB (ok_oSum _ z).2.1) a2 (by rw [List.length_append, List.length_append]; omega)
        have e3 : D ++ t ++ t' ++ [(cch b l p, 0)] = D ++ (t ++ t' ++ [(cch b l p, 0)]) := by
          rw [List.append_assoc, List.append_assoc, List.append_assoc]
        rw [e3] at b2
        have b1 : F_X9_addStep (rI9 (cch b l p)) (iI 0) m3 = some ((), m5) := b1
        rw [bnd_eq b1]
        exact ih p' _ f m5 (by omega) (by omega) g1.2.1 hD0 (by
          rw [List.length_append, List.length_append]
          show p0 + (t.length + t'.length + 1) ≤ p'
          omega) b2
    · rw [if_neg z, if_neg z]
      exact ⟨(), m, rfl, h⟩
theorem sumc9 {g : Mm → Option (Unit × Mm)} {op : Nat} {O : Nat → Res} (H : H9 b l m0) (hg : ∀ p, p ≤ l → GR l p (O p)) (hs : ∀ p, p ≤ l → Ex9 b l m0 op g p (O p)) (p : Nat) (hp : p ≤ l) : Ex9 b l m0 op (B_X9_sum g) p (levS (cch b l) oSum O p) := by
  intro m D h hD
  have hl := H.1
  obtain ⟨_, m2, a1, a2⟩ := hs p hp m D h hD
  have g1 := hg p hp
  show Wp (bnd (g m) fun _ m2 => F_X9_sum_4 g FU m2) _
  unfold levS
  rw [bnd_eq a1]
  generalize O p = r at g1 a2
  obtain ⟨p', o⟩ := r
  cases o with
  | none =>
    have a2 : ∃ n h, Q9 l m0 m2 p' n h ∧ n + p ≤ D.length + h + 1 := a2
    obtain ⟨n, hh, a3, a4⟩ := a2
    have a5 := a3.2.2.1
    rw [show FU = 999999 + 1 from rfl, F_X9_sum_4, a3.2.1, if_pos (k_0le (by omega))]
    exact ⟨(), m2, rfl, _, _, a3, a4⟩
  | some t =>
    have g1 : p < p' ∧ p' ≤ l ∧ p + t.length ≤ p' ∧ 1 ≤ t.length := g1
    have a2 : P9 m0 m2 p' op (D ++ t) := a2
    exact sumloop9 H hg hs 130 p' t FU m2 (by omega) (by unfold FU; omega) g1.2.1 hD (by omega) a2
theorem cif9 {α : Type} {X Y : α} {c : Nat} (hc : c ≤ 256) : (if rI9 c = iI 60 then X else if rI9 c = iI 61 then X else if rI9 c = iI 62 then X else Y) = if oCmp c = true then X else Y := by
  have e : ∀ k, k < 128 → ¬ c = k → ¬ rI9 c = iI (k : Int) := fun k hk h w => h ((rI9_eq hc hk).mp w)
  unfold oCmp
  by_cases z : c = 60 ∨ c = 61 ∨ c = 62
  · rw [if_pos (decide_eq_true z)]
    rcases z with rfl | rfl | rfl
    · exact if_pos rfl
    · rw [if_neg (by decide)]; exact if_pos rfl
    · rw [if_neg (by decide), if_neg (by decide)]; exact if_pos rfl
  · rw [if_neg (fun w => z (of_decide_eq_true w)), if_neg (show ¬ rI9 c = iI 60 from e 60 (by omega) (by omega)), if_neg (show ¬ rI9 c = iI 61 from e 61 (by omega) (by omega)), if_neg (show ¬ rI9 c = iI 62 from e 62 (by omega) (by omega))]
theorem cmpc9 {g : Mm → Option (Unit × Mm)} {op : Nat} {O : Nat → Res} (H : H9 b l m0) (hg : ∀ p, p ≤ l → GR l p (O p)) (hs : ∀ p, p ≤ l → Ex9 b l m0 op g p (O p)) (p : Nat) (hp : p ≤ l) : Ex9 b l m0 op (B_X9_compared g) p (cmpS (cch b l) oCmp O p) := by
  intro m D h hD
  have hl := H.1
  obtain ⟨_, m2, a1, a2⟩ := hs p hp m D h hD
  have g1 := hg p hp
  show Wp (B_X9_compared g m) _
  unfold B_X9_compared cmpS
  rw [bnd_eq a1]
  generalize O p = r at g1 a2
  obtain ⟨p', o⟩ := r
  cases o with
  | none =>
    have a2 : ∃ n h, Q9 l m0 m2 p' n h ∧ n + p ≤ D.length + h + 1 := a2
    obtain ⟨n, hh, a3, a4⟩ := a2
    have a5 := a3.2.2.1
    rw [bnd_eq (lkq9 H a3.2.2.2.2.1 a3.1 a3.2.2.2.1), a3.2.1, if_pos (k_0le (by omega))]
    exact ⟨(), m2, rfl, _, _, a3, a4⟩
  | some t =>
    have g1 : p < p' ∧ p' ≤ l ∧ p + t.length ≤ p' ∧ 1 ≤ t.length := g1
    have a2 : P9 m0 m2 p' op (D ++ t) := a2
    have hle := cch_le9 H p'
    rw [bnd_eq (lk9 H g1.2.1 a2), a2.2.2.1, if_neg m1_0le, cif9 hle]
    show Wp _ fun _ m' => match (if oCmp (cch b l p') = true then match O (p' + 1) with
      | (p2, none) => (p2, none)
      | (p2, some t2) => (p2, some (t ++ t2 ++ [(cch b l p', 0)]))
    else (p', some t)).2 with
      | some t' => P9 m0 m' (if oCmp (cch b l p') = true then match O (p' + 1) with
      | (p2, none) => (p2, none)
      | (p2, some t2) => (p2, some (t ++ t2 ++ [(cch b l p', 0)]))
    else (p', some t)).1 op (D ++ t')
      | none => ∃ n h, Q9 l m0 m' (if oCmp (cch b l p') = true then match O (p' + 1) with
      | (p2, none) => (p2, none)
      | (p2, some t2) => (p2, some (t ++ t2 ++ [(cch b l p', 0)]))
    else (p', some t)).1 n h ∧ n + p ≤ D.length + h + 1
    by_cases z : oCmp (cch b l p') = true
    · rw [if_pos z, if_pos z]
      have zl := cch_lt (b := b) (ok_oCmp _ z).1
      have g2 := hg (p' + 1) (by omega)
      obtain ⟨_, m3, b1, b2⟩ := hs (p' + 1) (by omega) _ (D ++ t) (adv9 a2) (by rw [List.length_append]; omega)
      unfold F_X9_compared_35
      rw [nm_eq, bnd_eq b1]
      generalize O (p' + 1) = r at g2 b2
      obtain ⟨p2, o2⟩ := r
      cases o2 with
      | none =>
        have b2 : ∃ n h, Q9 l m0 m3 p2 n h ∧ n + (p' + 1) ≤ (D ++ t).length + h + 1 := b2
        obtain ⟨n, hh, a3, a4⟩ := b2
        rw [List.length_append] at a4
        have a5 := a3.2.2.2.2.1
        obtain ⟨m5, c1, c2⟩ := add9q (x := rI9 (cch b l p')) (v := iI 0) a3 (by omega)
        rw [bnd_eq c1]
        exact ⟨(), m5, rfl, _, _, c2, by omega⟩
      | some t2 =>
        have g2 : p' + 1 < p2 ∧ p2 ≤ l ∧ p' + 1 + t2.length ≤ p2 ∧ 1 ≤ t2.length := g2
        have b2 : P9 m0 m3 p2 op (D ++ t ++ t2) := b2
        obtain ⟨m5, c1, c2⟩ := add9 (x := rI9 (cch b l p')) (v := 0) (op_nB (ok_oCmp _ z).2.1) b2 (by rw [List.length_append, List.length_append]; omega)
        have e3 : D ++ t ++ t2 ++ [(cch b l p', 0)] = D ++ (t ++ t2 ++ [(cch b l p', 0)]) := by
          rw [List.append_assoc, List.append_assoc, List.append_assoc]
        rw [e3] at c2
        have c1 : F_X9_addStep (rI9 (cch b l p')) (iI 0) m3 = some ((), m5) := c1
        rw [bnd_eq c1]
        exact ⟨(), m5, rfl, c2⟩
    · rw [if_neg z, if_neg z]
      exact ⟨(), m2, rfl, a2⟩
theorem andif9 {α : Type} {c : Nat} (hc : c ≤ 256) (Z Y : Option α) : (if rI9 c = iI 38 then Z else Y) = if oAnd c = true then Z else Y := by
  unfold oAnd
  by_cases z : c = 38
  · rw [if_pos (decide_eq_true z), if_pos (show rI9 c = iI 38 from (rI9_eq (k := 38) hc (by omega)).mpr z)]
  · rw [if_neg (fun w => z (of_decide_eq_true w)), if_neg (show ¬ rI9 c = iI 38 from fun w => z ((rI9_eq (k := 38) hc (by omega)).mp w))]
theorem andloop9 {g : Mm → Option (Unit × Mm)} {op p0 : Nat} {O : Nat → Res} {D : List Ins} (H : H9 b l m0) (hg : ∀ p, p ≤ l → GR l p (O p)) (hs : ∀ p, p ≤ l → Ex9 b l m0 op g p (O p)) : ∀ M p t f (m : Mm), l - p < M → l - p + 1 < f → p ≤ l → D.length ≤ p0 → p0 + t.length ≤ p → P9 m0 m p op (D ++ t) → Wp (F_X9_both_4 g f m) fun _ m' => match (lev (cch b l) oAnd O M p t).2 with
    | some t' => P9 m0 m' (lev (cch b l) oAnd O M p t).1 op (D ++ t')
    | none => ∃ n h, Q9 l m0 m' (lev (cch b l) oAnd O M p t).1 n h ∧ n + p0 ≤ D.length + h + 1 := by
  have hl := H.1
  intro M
  induction M with
  | zero => exact fun p t f m h => absurd h (by omega)
  | succ M ih =>
    intro p t f m hM hf hp hD0 hD h
    obtain ⟨f, rfl⟩ : ∃ x, f = x + 1 := ⟨f - 1, by omega⟩
    have hle := cch_le9 H p
    rw [F_X9_both_4, h.2.2.1, if_neg m1_0le, bnd_eq (lk9 H hp h), andif9 hle]
    have el : lev (cch b l) oAnd O (M + 1) p t = if oAnd (cch b l p) = true then match O (p + 1) with
        | (p', none) => (p', none)
        | (p', some t') => lev (cch b l) oAnd O M p' (t ++ t' ++ [(cch b l p, 0)])
      else (p, some t) := rfl
    rw [el]
    by_cases z : oAnd (cch b l p) = true
    · rw [if_pos z, if_pos z]
      have zl := cch_lt (b := b) (ok_oAnd _ z).1
      have zc : cch b l p = 38 := of_decide_eq_true z
      have g1 := hg (p + 1) (by omega)
      obtain ⟨_, m3, a1, a2⟩ := hs (p + 1) (by omega) _ (D ++ t) (adv9 h) (by rw [List.length_append]; omega)
      rw [nm_eq, bnd_eq a1, zc]
      generalize O (p + 1) = r at g1 a2
      obtain ⟨p', o⟩ := r
      cases o with
      | none =>
        have a2 : ∃ n h, Q9 l m0 m3 p' n h ∧ n + (p + 1) ≤ (D ++ t).length + h + 1 := a2
        obtain ⟨n, hh, a3, a4⟩ := a2
        rw [List.length_append] at a4
        have a5 := a3.2.2.2.2.1
        obtain ⟨m5, b1, b2⟩ := add9q (x := iI 38) (v := iI 0) a3 (by omega)
        obtain ⟨f, rfl⟩ : ∃ x, f = x + 1 := ⟨f - 1, by omega⟩
        have b3 := b2.2.2.1
        rw [bnd_eq b1, F_X9_both_4, b2.2.1, if_pos (k_0le (by omega))]
        exact ⟨(), m5, rfl, _, _, b2, by omega⟩
      | some t' =>
        have g1 : p + 1 < p' ∧ p' ≤ l ∧ p + 1 + t'.length ≤ p' ∧ 1 ≤ t'.length := g1
        have a2 : P9 m0 m3 p' op (D ++ t ++ t') := a2
        obtain ⟨m5, b1, b2⟩ := add9 (x := iI 38) (o := 38) (v := 0) (by decide) a2 (by rw [List.length_append, List.length_append]; omega)
        have e3 : D ++ t ++ t' ++ [(38, 0)] = D ++ (t ++ t' ++ [(38, 0)]) := by
          rw [List.append_assoc, List.append_assoc, List.append_assoc]
        rw [e3] at b2
        have b1 : F_X9_addStep (iI 38) (iI 0) m3 = some ((), m5) := b1
        rw [bnd_eq b1]
        exact ih p' _ f m5 (by omega) (by omega) g1.2.1 hD0 (by
          rw [List.length_append, List.length_append]
          show p0 + (t.length + t'.length + 1) ≤ p'
          omega) b2
    · rw [if_neg z, if_neg z]
      exact ⟨(), m, rfl, h⟩
theorem andc9 {g : Mm → Option (Unit × Mm)} {op : Nat} {O : Nat → Res} (H : H9 b l m0) (hg : ∀ p, p ≤ l → GR l p (O p)) (hs : ∀ p, p ≤ l → Ex9 b l m0 op g p (O p)) (p : Nat) (hp : p ≤ l) : Ex9 b l m0 op (B_X9_both g) p (levS (cch b l) oAnd O p) := by
  intro m D h hD
  have hl := H.1
  obtain ⟨_, m2, a1, a2⟩ := hs p hp m D h hD
  have g1 := hg p hp
  show Wp (bnd (g m) fun _ m2 => F_X9_both_4 g FU m2) _
  unfold levS
  rw [bnd_eq a1]
  generalize O p = r at g1 a2
  obtain ⟨p', o⟩ := r
  cases o with
  | none =>
    have a2 : ∃ n h, Q9 l m0 m2 p' n h ∧ n + p ≤ D.length + h + 1 := a2
    obtain ⟨n, hh, a3, a4⟩ := a2
    have a5 := a3.2.2.1
    rw [show FU = 999999 + 1 from rfl, F_X9_both_4, a3.2.1, if_pos (k_0le (by omega))]
    exact ⟨(), m2, rfl, _, _, a3, a4⟩
  | some t =>
    have g1 : p < p' ∧ p' ≤ l ∧ p + t.length ≤ p' ∧ 1 ≤ t.length := g1
    have a2 : P9 m0 m2 p' op (D ++ t) := a2
    exact andloop9 H hg hs 130 p' t FU m2 (by omega) (by unfold FU; omega) g1.2.1 hD (by omega) a2
theorem oorif9 {α : Type} {c : Nat} (hc : c ≤ 256) (Z Y : Option α) : (if rI9 c = iI 124 then Z else Y) = if oOr c = true then Z else Y := by
  unfold oOr
  by_cases z : c = 124
  · rw [if_pos (decide_eq_true z), if_pos (show rI9 c = iI 124 from (rI9_eq (k := 124) hc (by omega)).mpr z)]
  · rw [if_neg (fun w => z (of_decide_eq_true w)), if_neg (show ¬ rI9 c = iI 124 from fun w => z ((rI9_eq (k := 124) hc (by omega)).mp w))]
theorem oorloop9 {g : Mm → Option (Unit × Mm)} {op p0 : Nat} {O : Nat → Res} {D : List Ins} (H : H9 b l m0) (hg : ∀ p, p ≤ l → GR l p (O p)) (hs : ∀ p, p ≤ l → Ex9 b l m0 op g p (O p)) : ∀ M p t f (m : Mm), l - p < M → l - p + 1 < f → p ≤ l → D.length ≤ p0 → p0 + t.length ≤ p → P9 m0 m p op (D ++ t) → Wp (F_X9_either_4 g f m) fun _ m' => match (lev (cch b l) oOr O M p t).2 with
    | some t' => P9 m0 m' (lev (cch b l) oOr O M p t).1 op (D ++ t')
    | none => ∃ n h, Q9 l m0 m' (lev (cch b l) oOr O M p t).1 n h ∧ n + p0 ≤ D.length + h + 1 := by
  have hl := H.1
  intro M
  induction M with
  | zero => exact fun p t f m h => absurd h (by omega)
  | succ M ih =>
    intro p t f m hM hf hp hD0 hD h
    obtain ⟨f, rfl⟩ : ∃ x, f = x + 1 := ⟨f - 1, by omega⟩
    have hle := cch_le9 H p
    rw [F_X9_either_4, h.2.2.1, if_neg m1_0le, bnd_eq (lk9 H hp h), oorif9 hle]
    have el : lev (cch b l) oOr O (M + 1) p t = if oOr (cch b l p) = true then match O (p + 1) with
        | (p', none) => (p', none)
        | (p', some t') => lev (cch b l) oOr O M p' (t ++ t' ++ [(cch b l p, 0)])
      else (p, some t) := rfl
    rw [el]
    by_cases z : oOr (cch b l p) = true
    · rw [if_pos z, if_pos z]
      have zl := cch_lt (b := b) (ok_oOr _ z).1
      have zc : cch b l p = 124 := of_decide_eq_true z
      have g1 := hg (p + 1) (by omega)
      obtain ⟨_, m3, a1, a2⟩ := hs (p + 1) (by omega) _ (D ++ t) (adv9 h) (by rw [List.length_append]; omega)
      rw [nm_eq, bnd_eq a1, zc]
      generalize O (p + 1) = r at g1 a2
      obtain ⟨p', o⟩ := r
      cases o with
      | none =>
        have a2 : ∃ n h, Q9 l m0 m3 p' n h ∧ n + (p + 1) ≤ (D ++ t).length + h + 1 := a2
        obtain ⟨n, hh, a3, a4⟩ := a2
        rw [List.length_append] at a4
        have a5 := a3.2.2.2.2.1
        obtain ⟨m5, b1, b2⟩ := add9q (x := iI 124) (v := iI 0) a3 (by omega)
        obtain ⟨f, rfl⟩ : ∃ x, f = x + 1 := ⟨f - 1, by omega⟩
        have b3 := b2.2.2.1
        rw [bnd_eq b1, F_X9_either_4, b2.2.1, if_pos (k_0le (by omega))]
        exact ⟨(), m5, rfl, _, _, b2, by omega⟩
      | some t' =>
        have g1 : p + 1 < p' ∧ p' ≤ l ∧ p + 1 + t'.length ≤ p' ∧ 1 ≤ t'.length := g1
        have a2 : P9 m0 m3 p' op (D ++ t ++ t') := a2
        obtain ⟨m5, b1, b2⟩ := add9 (x := iI 124) (o := 124) (v := 0) (by decide) a2 (by rw [List.length_append, List.length_append]; omega)
        have e3 : D ++ t ++ t' ++ [(124, 0)] = D ++ (t ++ t' ++ [(124, 0)]) := by
          rw [List.append_assoc, List.append_assoc, List.append_assoc]
        rw [e3] at b2
        have b1 : F_X9_addStep (iI 124) (iI 0) m3 = some ((), m5) := b1
        rw [bnd_eq b1]
        exact ih p' _ f m5 (by omega) (by omega) g1.2.1 hD0 (by
          rw [List.length_append, List.length_append]
          show p0 + (t.length + t'.length + 1) ≤ p'
          omega) b2
    · rw [if_neg z, if_neg z]
      exact ⟨(), m, rfl, h⟩
theorem oorc9 {g : Mm → Option (Unit × Mm)} {op : Nat} {O : Nat → Res} (H : H9 b l m0) (hg : ∀ p, p ≤ l → GR l p (O p)) (hs : ∀ p, p ≤ l → Ex9 b l m0 op g p (O p)) (p : Nat) (hp : p ≤ l) : Ex9 b l m0 op (B_X9_either g) p (levS (cch b l) oOr O p) := by
  intro m D h hD
  have hl := H.1
  obtain ⟨_, m2, a1, a2⟩ := hs p hp m D h hD
  have g1 := hg p hp
  show Wp (bnd (g m) fun _ m2 => F_X9_either_4 g FU m2) _
  unfold levS
  rw [bnd_eq a1]
  generalize O p = r at g1 a2
  obtain ⟨p', o⟩ := r
  cases o with
  | none =>
    have a2 : ∃ n h, Q9 l m0 m2 p' n h ∧ n + p ≤ D.length + h + 1 := a2
    obtain ⟨n, hh, a3, a4⟩ := a2
    have a5 := a3.2.2.1
    rw [show FU = 999999 + 1 from rfl, F_X9_either_4, a3.2.1, if_pos (k_0le (by omega))]
    exact ⟨(), m2, rfl, _, _, a3, a4⟩
  | some t =>
    have g1 : p < p' ∧ p' ≤ l ∧ p + t.length ≤ p' ∧ 1 ≤ t.length := g1
    have a2 : P9 m0 m2 p' op (D ++ t) := a2
    exact oorloop9 H hg hs 130 p' t FU m2 (by omega) (by unfold FU; omega) g1.2.1 hD (by omega) a2
end T9
