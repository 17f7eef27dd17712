/-! THE CLASS'S EVENING: once more, its end, its beginning, its copies -/
theorem fill_loop {r L : Nat} {v : Int32} (hr : (shp r).2 = L) (hL : L ≤ 1000) : ∀ c i f (μ : Mm), i + c = L → c < f → ∃ μ', F_J7_fill_53178_5 r f v (kI i) (kI L) μ = some ((), μ') ∧ (∀ j, i ≤ j → j < L → gI μ' r j = v) ∧ (∀ j, j < i → gI μ' r j = gI μ r j) ∧ Fr (fun a => a = r) μ μ' := by
  intro c
  induction c with
  | zero =>
    intro i f μ hi hf
    obtain ⟨f, rfl⟩ : ∃ g, f = g + 1 := ⟨f - 1, by omega⟩
    refine ⟨μ, ?_, fun j h1 h2 => absurd h2 (by omega), fun j _ => rfl, Fr.refl⟩
    unfold F_J7_fill_53178_5
    simp (disch := omega) only [show L ≤ i by omega, iI_lit, kI_add, kI_mul, kI_eq, kI_lt, kI_le, kI_neg1, neg1_kI, neg1_lt0, neg1_0le, kO_none, kO_some, nm_eq, bnd_some, rz_0, rz_1, zb_0, zb_1, rd_kI, wrI_kI, wrL_kI, dvI_kI, rmI_kI, if_true, if_false, ite_true, ite_false, reduceIte, Nat.lt_irrefl, Nat.le_refl, not_true, not_false_iff, true_and, and_true, false_and, and_false, and_self, Bool.false_eq_true, eq_self, Decidable.not_not]
  | succ c ih =>
    intro i f μ hi hf
    obtain ⟨f, rfl⟩ : ∃ g, f = g + 1 := ⟨f - 1, by omega⟩
    obtain ⟨μ', i1, i2, i3, i4⟩ := ih (i + 1) f (pI μ r i v) (by omega) (by omega)
    refine ⟨μ', ?_, fun j h1 h2 => ?_, fun j h1 => ?_, (Fr.put (S := fun a => a = r) Fr.refl rfl).trans i4⟩
    · unfold F_J7_fill_53178_5
      simp (disch := omega) only [hr, show ¬ L ≤ i by omega, i1, iI_lit, kI_add, kI_mul, kI_eq, kI_lt, kI_le, kI_neg1, neg1_kI, neg1_lt0, neg1_0le, kO_none, kO_some, nm_eq, bnd_some, rz_0, rz_1, zb_0, zb_1, rd_kI, wrI_kI, wrL_kI, dvI_kI, rmI_kI, if_true, if_false, ite_true, ite_false, reduceIte, Nat.lt_irrefl, Nat.le_refl, not_true, not_false_iff, true_and, and_true, false_and, and_false, and_self, Bool.false_eq_true, eq_self, Decidable.not_not]
    · by_cases z : j = i
      · rw [i3 j (by omega), gI_pI, if_pos ⟨rfl, z⟩]
      · exact i2 j (by omega) h2
    · rw [i3 j (by omega), gI_pI, if_neg (by omega)]
theorem fill_eq {r L : Nat} {v : Int32} {μ : Mm} (hr : shp r = (1, L)) (hL : L ≤ 1000) : ∃ μ', F_J7_fill_53178 r v μ = some ((), μ') ∧ (∀ j, j < L → gI μ' r j = v) ∧ Fr (fun a => a = r) μ μ' := by
  obtain ⟨μ', i1, i2, -, i4⟩ := fill_loop (r := r) (L := L) (v := v) (by rw [hr]) hL L 0 FU μ (by omega) (by unfold FU; omega)
  refine ⟨μ', ?_, fun j h => i2 j (Nat.zero_le _) h, i4⟩
  unfold F_J7_fill_53178
  rw [hr, if_pos rfl, nm_eq, iI_lit]
  exact i1
/-- nothing opened -/
def wrE (w g n : Int32) : Ev := (fun _ => none, fun _ => 0, 0, none, none, fun _ => none, 0, w, g, n)
theorem RC_mk {μ : Mm} {t : Nat} {w g n : Int32} (h0 : shp t = (9, 2)) (h1 : ∀ k, k < 7 → gI μ (t + 3) k = iI (-1)) (h2 : ∀ k, k < 7 → gI μ (t + 4) k = kI 0) (h3 : ∀ k, k < 7 → gI μ (t + 2) k = iI (-1)) (h4 : gI μ t 4 = kI 0) (h5 : gI μ t 5 = iI (-1)) (h6 : gI μ t 6 = iI (-1)) (h7 : gI μ t 7 = kI 0) (h8 : gI μ t 8 = w) (h9 : gI μ t 9 = g) (h10 : gI μ t 10 = n) : RC μ t (wrE w g n) := ⟨h0, ⟨h1, h2, h3⟩, h4, h5, h6, h7, h8, h9, h10⟩
theorem wrap_eq {μ : Mm} {t : Nat} (h0 : shp t = (9, 2)) : ∃ μ', F_X2_wrapAll t μ = some ((), μ') ∧ RC μ' t (wrE (gI μ t 8) (gI μ t 9) (gI μ t 10)) ∧ Fr (SE t) μ μ' := by
  obtain ⟨m2, a1, a2, a3⟩ := fill_eq (r := t + 2) (L := 7) (v := iI (-1)) (μ := μ) (shr_2_2 h0) (by omega)
  obtain ⟨m4, b1, b2, b3⟩ := fill_eq (r := t + 3) (L := 7) (v := iI (-1)) (μ := m2) (shr_2_3 h0) (by omega)
  obtain ⟨m6, c1, c2, c3⟩ := fill_eq (r := t + 4) (L := 7) (v := kI 0) (μ := m4) (shr_2_4 h0) (by omega)
  refine ⟨pI (pI (pI (pI m6 t 4 (kI 0)) t 5 (iI (-1))) t 6 (iI (-1))) t 7 (kI 0), ?_, ?_, ?_⟩
  · unfold F_X2_wrapAll
    rw [if_pos h0, a1, bnd_some, b1, bnd_some]
    simp (disch := omega) only [iI_lit]
    rw [c1, bnd_some]
    rfl
  · have k : ∀ j, gI m6 t j = gI μ t j := fun j => by rw [c3.1 t (by omega), b3.1 t (by omega), a3.1 t (by omega)]
    refine RC_mk h0 (fun j hj => ?_) (fun j hj => ?_) (fun j hj => ?_) ?_ ?_ ?_ ?_ ?_ ?_ ?_
    · simp [gI_pI]; rw [c3.1 (t + 3) (by omega)]; exact b2 j hj
    · simp [gI_pI]; exact c2 j hj
    · simp [gI_pI]; rw [c3.1 (t + 2) (by omega), b3.1 (t + 2) (by omega)]; exact a2 j hj
    all_goals simp [gI_pI, k]
  · have a0 : SE t t := Or.inl rfl
    have a2 : SE t (t + 2) := Or.inr (by omega)
    have a3' : SE t (t + 3) := Or.inr (by omega)
    have a4 : SE t (t + 4) := Or.inr (by omega)
    have f : Fr (SE t) μ m6 := ((a3.mono (fun a q => by rw [q]; exact a2)).trans (b3.mono (fun a q => by rw [q]; exact a3'))).trans (c3.mono (fun a q => by rw [q]; exact a4))
    exact (((f.put a0).put a0).put a0).put a0
def SA (t a : Nat) : Prop := t ≤ a ∧ a ≤ t + 4
theorem Fr.cpy {S : Nat → Prop} {μ μ1 : Mm} {a : Nat} {f : Nat → Int32} (h : Fr S μ μ1) (ha : S a) : Fr S μ (rI μ1 a f) := h.row ha
def Wp {β : Type} (F : Option (β × Mm)) (Q : β → Mm → Prop) : Prop := ∃ r μ', F = some (r, μ') ∧ Q r μ'
theorem wp_cp {β : Type} {Q : β → Mm → Prop} {μ : Mm} {n0 n1 a0 a1 sp dp k : Nat} {G : Mm → Option (β × Mm)} (hs : sp + k ≤ n0) (hd : dp + k ≤ n1) (h0 : n0 ≤ 2147483647) (h1 : n1 ≤ 2147483647) (K : ∀ m1, (∀ j, gI m1 a1 j = if dp ≤ j ∧ j < dp + k then gI μ a0 (sp + (j - dp)) else gI μ a1 j) → Fr (fun a => a = a1) μ m1 → Wp (G m1) Q) : Wp (cpI n0 n1 μ a0 (kI sp) a1 (kI dp) (kI k) G) Q := by
  rw [cpI_kI hs hd h0 h1]
  refine K _ (fun j => ?_) (Fr.row (S := fun a => a = a1) Fr.refl rfl)
  rw [gI_rI, if_pos rfl]
  rfl
theorem Wp.mono {β : Type} {F : Option (β × Mm)} {Q Q' : β → Mm → Prop} (h : Wp F Q) (k : ∀ r m, Q r m → Q' r m) : Wp F Q' := by
  obtain ⟨r, m, h1, h2⟩ := h
  exact ⟨r, m, h1, k r m h2⟩
theorem wp_bnd {γ β : Type} {F : Option (γ × Mm)} {G : γ → Mm → Option (β × Mm)} {Q : γ → Mm → Prop} {Q' : β → Mm → Prop} (h : Wp F Q) (k : ∀ r m, Q r m → Wp (G r m) Q') : Wp (bnd F G) Q' := by
  obtain ⟨r, m, h1, h2⟩ := h
  rw [h1, bnd_some]
  exact k r m h2
theorem become_eq {μ : Mm} {t u : Nat} {e : Ev} (h0 : shp t = (9, 2)) (hne : t ≠ u) (h : RC μ u e) (hb : BdE e) : Wp (F_X2_become t u μ) fun _ μ' => RC μ' t e ∧ (∀ j, j < 7 → gI μ' (t + 1) j = gI μ (u + 1) j) ∧ Fr (SA t) μ μ' := by
  have hd := shE2 h0 h.1
  obtain ⟨g0, ⟨h1, h2, h3⟩, h4, h5, h6, h7, h8, h9, h10⟩ := h
  have hA := hb.2.2.2.2.2.2
  have hz : eA e = 0 ∨ eA e = 1 := by omega
  have d00 : ¬ u = t := fun z => hne z.symm
  have zbx : ∀ (β : Type) (G : Option β), zb (kI (eA e)) G = G := fun β G => by rcases hz with z | z <;> rw [z] <;> rfl
  unfold F_X2_become
  rw [if_pos h0, if_pos g0]
  simp only [iI_lit]
  refine wp_cp (by omega) (by omega) (by omega) (by omega) fun m1 p1 f1 => ?_
  refine wp_cp (by omega) (by omega) (by omega) (by omega) fun m2 p2 f2 => ?_
  refine wp_cp (by omega) (by omega) (by omega) (by omega) fun m3 p3 f3 => ?_
  refine wp_cp (by omega) (by omega) (by omega) (by omega) fun m4 p4 f4 => ?_
  have q1 : ∀ j, j < 7 → gI m4 (t + 1) j = gI μ (u + 1) j := fun j hj => by
    rw [f4.1 (t + 1) (by omega), f3.1 (t + 1) (by omega), f2.1 (t + 1) (by omega), p1, if_pos (by omega)]; simp
  have q2 : ∀ j, j < 7 → gI m4 (t + 2) j = gI μ (u + 2) j := fun j hj => by
    rw [f4.1 (t + 2) (by omega), f3.1 (t + 2) (by omega), p2, if_pos (by omega), f1.1 (u + 2) (by omega)]; simp
  have q3 : ∀ j, j < 7 → gI m4 (t + 3) j = gI μ (u + 3) j := fun j hj => by
    rw [f4.1 (t + 3) (by omega), p3, if_pos (by omega), f2.1 (u + 3) (by omega), f1.1 (u + 3) (by omega)]; simp
  have q4 : ∀ j, j < 7 → gI m4 (t + 4) j = gI μ (u + 4) j := fun j hj => by
    rw [p4, if_pos (by omega), f3.1 (u + 4) (by omega), f2.1 (u + 4) (by omega), f1.1 (u + 4) (by omega)]; simp
  have f : Fr (SA t) μ m4 := (((f1.mono fun a q => by unfold SA; omega).trans (f2.mono fun a q => by unfold SA; omega)).trans (f3.mono fun a q => by unfold SA; omega)).trans (f4.mono fun a q => by unfold SA; omega)
  have qu : ∀ j, gI m4 u j = gI μ u j := fun j => f.1 u (by unfold SA; omega) j
  have at0 : SA t t := by unfold SA; omega
  simp only [nm_eq, gI_pI, d00, false_and, if_false, qu, h4, h5, h6, h7, h8, h9, h10, zbx]
  refine ⟨_, _, rfl, ⟨h0, ⟨fun k hk => ?_, fun k hk => ?_, fun k hk => ?_⟩, ?_, ?_, ?_, ?_, ?_, ?_, ?_⟩, fun j hj => ?_, ((((((f.put at0).put at0).put at0).put at0).put at0).put at0).put at0⟩
  · simp [gI_pI, q3 k hk, h1 k hk]
  · simp [gI_pI, q4 k hk, h2 k hk]
  · simp [gI_pI, q2 k hk, h3 k hk]
  all_goals simp [gI_pI]
  exact q1 j hj
/-- a new evening by a row of places -/
theorem begin_eq {μ : Mm} {t r : Nat} (h0 : shp t = (9, 2)) (hr : shp r = (1, 7)) (hd : r < t ∨ t + 4 < r) : Wp (F_X2_beginBy t r μ) fun _ μ' => RC μ' t (wrE (gI μ t 8) (gI μ t 9) (kI 0)) ∧ (∀ j, j < 7 → gI μ' (t + 1) j = gI μ r j) ∧ Fr (SA t) μ μ' := by
  unfold F_X2_beginBy
  rw [if_pos h0, if_pos hr]
  simp only [iI_lit]
  refine wp_cp (by omega) (by omega) (by omega) (by omega) fun m1 p1 f1 => ?_
  obtain ⟨m3, a1, a2, a3⟩ := wrap_eq (μ := m1) h0
  rw [a1, bnd_some, nm_eq]
  have at0 : SA t t := by unfold SA; omega
  obtain ⟨g0, ⟨h1, h2, h3⟩, h4, h5, h6, h7, h8, h9, h10⟩ := a2
  refine ⟨_, _, rfl, ⟨h0, ⟨fun k hk => ?_, fun k hk => ?_, fun k hk => ?_⟩, ?_, ?_, ?_, ?_, ?_, ?_, ?_⟩, fun j hj => ?_, ((f1.mono fun a q => by unfold SA; omega).trans (a3.mono fun a q => by unfold SE at q; unfold SA; omega)).put at0⟩
  · simp [gI_pI, h1 k hk]; rfl
  · simp [gI_pI, h2 k hk]; rfl
  · simp [gI_pI, h3 k hk]; rfl
  · simp [gI_pI, h4]; rfl
  · simp [gI_pI, h5]; rfl
  · simp [gI_pI, h6]; rfl
  · simp [gI_pI, h7]; rfl
  · simp [gI_pI, h8]; exact f1.1 t (by omega) 8
  · simp [gI_pI, h9]; exact f1.1 t (by omega) 9
  · simp [gI_pI]; rfl
  · simp [gI_pI]
    rw [a3.1 (t + 1) (by unfold SE; omega), p1, if_pos (by omega)]; simp
