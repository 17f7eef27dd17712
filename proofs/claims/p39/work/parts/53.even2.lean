/-! STEPS OF AN EVENING -/
def opE (p : Nat) (e : Ev) : Ev := (up (eO e) (eP e) (some p), eT e, eP e + 1, none, none, up (eH e) p (some (eP e)), eA e, kI p, kI (eP e), eN e + kI 1)
def rbE (p k q : Nat) (e : Ev) : Ev := (up (eO e) k (some p), up (eT e) k (eT e k + 1), eP e, some q, some k, up (up (eH e) q none) p (some k), eA e, kI p, kI k, eN e + kI 1)
def LotOk (m : Nat) (P : Pa) (lot : Nat → Nat) : Prop := m ≤ pN P ∧ (∀ i j, i < m → j < m → lot i = lot j → i = j) ∧ ∀ i, i < m → lot i < pN P
def came (e : Ev) (j : Nat) : Prop := j < eP e ∨ (j = eP e ∧ eR e ≠ none)
def WfE (m : Nat) (P : Pa) (lot : Nat → Nat) (e : Ev) : Prop := BdE e ∧ eP e ≤ m ∧ (∀ k, k < eP e → ∃ q, q < pN P ∧ eO e k = some q) ∧ (∀ k, eP e ≤ k → eO e k = none ∧ eT e k = 0) ∧ (∀ p k, eH e p = some k ↔ eO e k = some p) ∧ (∀ k q, eO e k = some q → ∃ j, came e j ∧ lot j = q) ∧ (∀ r, eR e = some r → eP e < m ∧ (∃ j, came e j ∧ lot j = r) ∧ eH e r = none) ∧ (∀ j, came e j → eR e ≠ some (lot j) → eH e (lot j) ≠ none)
theorem cu_free {m : Nat} {P : Pa} {lot : Nat → Nat} {e : Ev} {c : Nat} (hP : PaOk P) (hl : LotOk m P lot) (h : WfE m P lot e) (hm : eP e < m) (hc : cu P lot e = some c) : c < pN P ∧ eH e c = none ∧ (∀ k, eO e k ≠ some c) ∧ ∃ j, j ≤ eP e ∧ lot j = c := by
  obtain ⟨hb, h1, h2, h3, h4, h5, h6, h8⟩ := h
  have key : c < pN P ∧ eH e c = none ∧ ∃ j, j ≤ eP e ∧ lot j = c := by
    unfold cu at hc
    cases hR : eR e with
    | some r =>
      rw [hR] at hc
      cases hc
      obtain ⟨g1, ⟨j, g2, g3⟩, g4⟩ := h6 c hR
      have hj : j ≤ eP e := by rcases g2 with g2 | g2 <;> omega
      exact ⟨by rw [← g3]; exact hl.2.2 j (by omega), g4, j, hj, g3⟩
    | none =>
      rw [hR] at hc
      by_cases q : eP e < pN P
      · rw [if_pos q] at hc
        cases hc
        refine ⟨hl.2.2 _ hm, ?_, _, Nat.le_refl _, rfl⟩
        cases hh : eH e (lot (eP e)) with
        | none => rfl
        | some k =>
          obtain ⟨j, g1, g2⟩ := h5 k _ ((h4 _ _).mp hh)
          have hj : j < eP e := by
            rcases g1 with g1 | g1
            · exact g1
            · exact absurd hR g1.2
          have := hl.2.1 j (eP e) (by omega) hm g2
          omega
      · rw [if_neg q] at hc
        cases hc
  refine ⟨key.1, key.2.1, fun k q => ?_, key.2.2⟩
  have := (h4 c k).mpr q
  rw [key.2.1] at this
  cases this
theorem up_at {α : Type} {f : Nat → α} {k : Nat} {v : α} : up f k v k = v := if_pos rfl
theorem up_ne {α : Type} {f : Nat → α} {k x : Nat} {v : α} (h : x ≠ k) : up f k v x = f x := if_neg h
theorem wf_op {m : Nat} {P : Pa} {lot : Nat → Nat} {e : Ev} {c : Nat} (hP : PaOk P) (hl : LotOk m P lot) (h : WfE m P lot e) (hm : eP e < m) (hc : cu P lot e = some c) : WfE m P lot (opE c e) := by
  obtain ⟨c1, c2, c3, jc, c4, c5⟩ := cu_free hP hl h hm hc
  obtain ⟨hb, h1, h2, h3, h4, h5, h6, h8⟩ := h
  have hm7 : m ≤ 7 := Nat.le_trans hl.1 hP.1
  refine ⟨⟨?_, hb.2.1, fun k q hq => ?_, fun p k hk => ?_, fun r hr => (by cases hr), fun r hr => (by cases hr), hb.2.2.2.2.2.2⟩, ?_, fun k hk => ?_, fun k hk => ?_, fun p k => ?_, fun k q hq => ?_, fun r hr => (by cases hr), fun j hj _ => ?_⟩
  · show eP e + 1 ≤ 7
    omega
  · change up (eO e) (eP e) (some c) k = some q at hq
    by_cases z : k = eP e
    · rw [z, up_at] at hq; cases hq; have := hP.1; omega
    · rw [up_ne z] at hq; exact hb.2.2.1 k q hq
  · change up (eH e) c (some (eP e)) p = some k at hk
    by_cases z : p = c
    · rw [z, up_at] at hk; cases hk; omega
    · rw [up_ne z] at hk; exact hb.2.2.2.1 p k hk
  · show eP e + 1 ≤ m
    omega
  · change k < eP e + 1 at hk
    show ∃ q, q < pN P ∧ up (eO e) (eP e) (some c) k = some q
    by_cases z : k = eP e
    · exact ⟨c, c1, by rw [z, up_at]⟩
    · rw [up_ne z]; exact h2 k (by omega)
  · change eP e + 1 ≤ k at hk
    show up (eO e) (eP e) (some c) k = none ∧ eT e k = 0
    rw [up_ne (by omega)]
    exact h3 k (by omega)
  · show up (eH e) c (some (eP e)) p = some k ↔ up (eO e) (eP e) (some c) k = some p
    by_cases z : p = c
    · rw [z, up_at]
      by_cases y : k = eP e
      · rw [y, up_at]; simp
      · rw [up_ne y]
        constructor
        · intro q; cases q; exact absurd rfl y
        · intro q; exact absurd q (c3 k)
    · rw [up_ne z]
      by_cases y : k = eP e
      · rw [y, up_at, h4, (h3 (eP e) (Nat.le_refl _)).1]
        constructor
        · intro q; cases q
        · intro q; cases q; exact absurd rfl z
      · rw [up_ne y]; exact h4 p k
  · change up (eO e) (eP e) (some c) k = some q at hq
    have old : ∀ j, came e j → came (opE c e) j := fun j hj => Or.inl (by
      show j < eP e + 1
      rcases hj with hj | hj <;> omega)
    by_cases z : k = eP e
    · rw [z, up_at] at hq
      cases hq
      exact ⟨jc, Or.inl (by show jc < eP e + 1; omega), c5⟩
    · rw [up_ne z] at hq
      obtain ⟨j, g1, g2⟩ := h5 k q hq
      exact ⟨j, old j g1, g2⟩
  · show up (eH e) c (some (eP e)) (lot j) ≠ none
    by_cases z : lot j = c
    · rw [z, up_at]; intro w; cases w
    · rw [up_ne z]
      have hj : j < eP e + 1 := by
        rcases hj with hj | hj
        · exact hj
        · exact absurd rfl hj.2
      have cj : came e j := by
        by_cases w : j = eP e
        · refine Or.inr ⟨w, fun hR => z ?_⟩
          unfold cu at hc
          rw [hR] at hc
          have hc : (if eP e < pN P then some (lot (eP e)) else none) = some c := hc
          rw [if_pos (by have := hl.1; omega)] at hc
          cases hc
          rw [w]
        · exact Or.inl (by omega)
      refine h8 j cj (fun hR => z ?_)
      unfold cu at hc
      rw [hR] at hc
      exact Option.some.inj hc
theorem wf_rb {m : Nat} {P : Pa} {lot : Nat → Nat} {e : Ev} {c k q : Nat} (hP : PaOk P) (hl : LotOk m P lot) (h : WfE m P lot e) (hm : eP e < m) (hc : cu P lot e = some c) (hk : mayB P e k = true) (hq : eO e k = some q) : WfE m P lot (rbE c k q e) := by
  obtain ⟨c1, c2, c3, jc, c4, c5⟩ := cu_free hP hl h hm hc
  obtain ⟨hb, h1, h2, h3, h4, h5, h6, h8⟩ := h
  obtain ⟨k1, k2, k3⟩ := mayB_iff.mp hk
  have hm7 : m ≤ 7 := Nat.le_trans hl.1 hP.1
  have hM := hP.2.2.2.2.2.1
  have hqc : q ≠ c := fun z => c3 k (by rw [hq, z])
  have hq7 := hb.2.2.1 k q hq
  have hn7 := hP.1
  have hhq : eH e q = some k := (h4 q k).mpr hq
  have camej : came (rbE c k q e) jc := by
    by_cases z : jc < eP e
    · exact Or.inl z
    · exact Or.inr ⟨by show jc = eP e; omega, by intro z; cases z⟩
  have old : ∀ j, came e j → came (rbE c k q e) j := fun j hj => by
    rcases hj with hj | hj
    · exact Or.inl hj
    · exact Or.inr ⟨hj.1, by intro z; cases z⟩
  refine ⟨⟨hb.1, fun x => ?_, fun x y hy => ?_, fun p x hx => ?_, fun r hr => ?_, fun r hr => ?_, hb.2.2.2.2.2.2⟩, h1, fun x hx => ?_, fun x hx => ?_, fun p x => ?_, fun x y hy => ?_, fun r hr => ?_, fun j hj hne => ?_⟩
  · show up (eT e) k (eT e k + 1) x ≤ 3
    by_cases z : x = k
    · rw [z, up_at]; omega
    · rw [up_ne z]; exact hb.2.1 x
  · change up (eO e) k (some c) x = some y at hy
    by_cases z : x = k
    · rw [z, up_at] at hy; cases hy; omega
    · rw [up_ne z] at hy; exact hb.2.2.1 x y hy
  · change up (up (eH e) q none) c (some k) p = some x at hx
    by_cases z : p = c
    · rw [z, up_at] at hx; cases hx; have := hb.1; omega
    · rw [up_ne z] at hx
      by_cases y : p = q
      · rw [y, up_at] at hx; cases hx
      · rw [up_ne y] at hx; exact hb.2.2.2.1 p x hx
  · cases hr; exact hq7
  · cases hr; have := hb.1; omega
  · show ∃ y, y < pN P ∧ up (eO e) k (some c) x = some y
    by_cases z : x = k
    · exact ⟨c, c1, by rw [z, up_at]⟩
    · rw [up_ne z]; exact h2 x hx
  · change eP e ≤ x at hx
    show up (eO e) k (some c) x = none ∧ up (eT e) k (eT e k + 1) x = 0
    rw [up_ne (by omega), up_ne (by omega)]
    exact h3 x hx
  · show up (up (eH e) q none) c (some k) p = some x ↔ up (eO e) k (some c) x = some p
    by_cases z : p = c
    · rw [z, up_at]
      by_cases y : x = k
      · rw [y, up_at]; simp
      · rw [up_ne y]
        constructor
        · intro w; cases w; exact absurd rfl y
        · intro w; exact absurd w (c3 x)
    · rw [up_ne z]
      by_cases y : x = k
      · rw [y, up_at]
        by_cases w : p = q
        · rw [w, up_at]
          constructor
          · intro v; cases v
          · intro v; cases v; exact absurd rfl hqc
        · rw [up_ne w, h4, hq]
          constructor
          · intro v; cases v; exact absurd rfl w
          · intro v; cases v; exact absurd rfl z
      · rw [up_ne y]
        by_cases w : p = q
        · rw [w, up_at]
          constructor
          · intro v; cases v
          · intro v
            have := (h4 q x).mpr v
            rw [hhq] at this
            cases this
            exact absurd rfl y
        · rw [up_ne w]; exact h4 p x
  · change up (eO e) k (some c) x = some y at hy
    by_cases z : x = k
    · rw [z, up_at] at hy
      cases hy
      exact ⟨jc, camej, c5⟩
    · rw [up_ne z] at hy
      obtain ⟨j, g1, g2⟩ := h5 x y hy
      exact ⟨j, old j g1, g2⟩
  · cases hr
    obtain ⟨j, g1, g2⟩ := h5 k q hq
    refine ⟨hm, ⟨j, old j g1, g2⟩, ?_⟩
    show up (up (eH e) q none) c (some k) q = none
    rw [up_ne hqc, up_at]
  · show up (up (eH e) q none) c (some k) (lot j) ≠ none
    by_cases z : lot j = c
    · rw [z, up_at]; intro w; cases w
    · have zq : lot j ≠ q := fun w => hne (by show some q = some (lot j); rw [w])
      rw [up_ne z, up_ne zq]
      have hj : j < eP e ∨ j = eP e := by
        rcases hj with hj | hj
        · exact Or.inl hj
        · exact Or.inr hj.1
      have cj : came e j := by
        rcases hj with w | w
        · exact Or.inl w
        · refine Or.inr ⟨w, fun hR => z ?_⟩
          unfold cu at hc
          rw [hR] at hc
          have hc : (if eP e < pN P then some (lot (eP e)) else none) = some c := hc
          rw [if_pos (by have := hl.1; omega)] at hc
          cases hc
          rw [w]
      refine h8 j cj (fun hR => z ?_)
      unfold cu at hc
      rw [hR] at hc
      exact Option.some.inj hc
def opM (μ : Mm) (t p o : Nat) : Mm := pI (pI (pI (pI (pI (pI (pI (pI μ t 4 (kI (o + 1))) t 5 (iI (-1))) t 6 (iI (-1))) (t + 2) p (kI o)) (t + 3) o (kI p)) t 8 (kI p)) t 9 (kI o)) t 10 (gI μ t 10 + kI 1)
theorem unwrap_eq {μ : Mm} {t p : Nat} {e : Ev} (h : RC μ t e) (hp : p < 7) (ho : eP e < 7) : F_X2_unwrap t (kI p) μ = some (kI (eP e), opM μ t p (eP e)) := by
  obtain ⟨h0, -, h4, -⟩ := h
  unfold F_X2_unwrap F_X2_give opM
  simp (disch := omega) only [if_pos h0, h4, ho, iI_lit, kI_add, kI_mul, kI_eq, kI_lt, kI_le, kI_neg1, neg1_kI, neg1_lt0, neg1_0le, kO_none, kO_some, nm_eq, bnd_some, rz_0, rz_1, zb_0, zb_1, rd_kI, wrI_kI, wrL_kI, dvI_kI, rmI_kI, if_true, if_false, ite_true, ite_false, reduceIte, Nat.lt_irrefl, Nat.le_refl, not_true, not_false_iff, true_and, and_true, false_and, and_false, and_self, Bool.false_eq_true, eq_self, Decidable.not_not]
  simp [gI_pI]
theorem unwrap_RC {μ : Mm} {t p : Nat} {e : Ev} (h : RC μ t e) : RC (opM μ t p (eP e)) t (opE p e) := by
  obtain ⟨h0, ⟨h1, h2, h3⟩, h4, h5, h6, h7, h8, h9, h10⟩ := h
  refine ⟨h0, ⟨fun k hk => ?_, fun k hk => ?_, fun k hk => ?_⟩, ?_, ?_, ?_, ?_, ?_, ?_, ?_⟩
  · show _ = kO (up (eO e) (eP e) (some p) k)
    by_cases z : k = eP e
    · simp [opM, gI_pI, z, up_at, kO_some]
    · simp [opM, gI_pI, z, up_ne z, h1 k hk]
  · show _ = kI (eT e k)
    simp [opM, gI_pI, h2 k hk]
  · show _ = kO (up (eH e) p (some (eP e)) k)
    by_cases z : k = p
    · simp [opM, gI_pI, z, up_at, kO_some]
    · simp [opM, gI_pI, z, up_ne z, h3 k hk]
  · show _ = kI (eP e + 1)
    simp [opM, gI_pI]
  · show _ = kO none
    simp [opM, gI_pI, kO_none]
  · show _ = kO none
    simp [opM, gI_pI, kO_none]
  · show _ = kI (eA e)
    simp [opM, gI_pI, h7]
  · show _ = kI p
    simp [opM, gI_pI]
  · show _ = kI (eP e)
    simp [opM, gI_pI]
  · show _ = eN e + kI 1
    simp [opM, gI_pI, h10]
theorem unwrap_Fr {μ : Mm} {t p o : Nat} : Fr (SE t) μ (opM μ t p o) := by
  have a0 : SE t t := Or.inl rfl
  have a2 : SE t (t + 2) := Or.inr (by omega)
  have a3 : SE t (t + 3) := Or.inr (by omega)
  exact (((((((Fr.refl.put a0).put a0).put a0).put a2).put a3).put a0).put a0).put a0
def rbM (μ : Mm) (t p k q v : Nat) : Mm := pI (pI (pI (pI (pI (pI (pI (pI (pI μ (t + 2) q (iI (-1))) (t + 4) k (kI (v + 1))) t 5 (kI q)) t 6 (kI k)) (t + 2) p (kI k)) (t + 3) k (kI p)) t 8 (kI p)) t 9 (kI k)) t 10 (gI μ t 10 + kI 1)
theorem rob_eq {μ : Mm} {t p k q : Nat} {e : Ev} (h : RC μ t e) (hp : p < 7) (hk : k < 7) (hq : eO e k = some q) (hq7 : q < 7) : F_X2_rob t (kI p) (kI k) μ = some (kI q, rbM μ t p k q (eT e k)) := by
  obtain ⟨h0, ⟨h1, h2, h3⟩, -⟩ := h
  have e1 := h1 k hk
  rw [hq, kO_some] at e1
  have e2 := h2 k hk
  have e3 : gI (pI μ (t + 2) q (iI (-1))) (t + 4) k = kI (eT e k) := by simp [gI_pI, e2]
  unfold F_X2_rob F_X2_give rbM
  simp (disch := omega) only [if_pos h0, e1, e3, Nat.zero_le, iI_lit, kI_add, kI_mul, kI_eq, kI_lt, kI_le, kI_neg1, neg1_kI, neg1_lt0, neg1_0le, kO_none, kO_some, nm_eq, bnd_some, rz_0, rz_1, zb_0, zb_1, rd_kI, wrI_kI, wrL_kI, dvI_kI, rmI_kI, if_true, if_false, ite_true, ite_false, reduceIte, Nat.lt_irrefl, Nat.le_refl, not_true, not_false_iff, true_and, and_true, false_and, and_false, and_self, Bool.false_eq_true, eq_self, Decidable.not_not]
  simp [gI_pI]
theorem rob_RC {μ : Mm} {t p k q : Nat} {e : Ev} (h : RC μ t e) : RC (rbM μ t p k q (eT e k)) t (rbE p k q e) := by
  obtain ⟨h0, ⟨h1, h2, h3⟩, h4, h5, h6, h7, h8, h9, h10⟩ := h
  refine ⟨h0, ⟨fun x hx => ?_, fun x hx => ?_, fun x hx => ?_⟩, ?_, ?_, ?_, ?_, ?_, ?_, ?_⟩
  · show _ = kO (up (eO e) k (some p) x)
    by_cases z : x = k
    · simp [rbM, gI_pI, z, up_at, kO_some]
    · simp [rbM, gI_pI, z, up_ne z, h1 x hx]
  · show _ = kI (up (eT e) k (eT e k + 1) x)
    by_cases z : x = k
    · simp [rbM, gI_pI, z, up_at]
    · simp [rbM, gI_pI, z, up_ne z, h2 x hx]
  · show _ = kO (up (up (eH e) q none) p (some k) x)
    by_cases z : x = p
    · simp [rbM, gI_pI, z, up_at, kO_some]
    · by_cases y : x = q
      · have zq : q ≠ p := fun w => z (y.trans w)
        rw [y, up_ne zq, up_at, kO_none]
        simp [rbM, gI_pI, zq]
      · simp [rbM, gI_pI, z, y, up_ne z, up_ne y, h3 x hx]
  · show _ = kI (eP e)
    simp [rbM, gI_pI, h4]
  · show _ = kO (some q)
    simp [rbM, gI_pI, kO_some]
  · show _ = kO (some k)
    simp [rbM, gI_pI, kO_some]
  · show _ = kI (eA e)
    simp [rbM, gI_pI, h7]
  · show _ = kI p
    simp [rbM, gI_pI]
  · show _ = kI k
    simp [rbM, gI_pI]
  · show _ = eN e + kI 1
    simp [rbM, gI_pI, h10]
theorem rob_Fr {μ : Mm} {t p k q v : Nat} : Fr (SE t) μ (rbM μ t p k q v) := by
  have a0 : SE t t := Or.inl rfl
  have a2 : SE t (t + 2) := Or.inr (by omega)
  have a3 : SE t (t + 3) := Or.inr (by omega)
  have a4 : SE t (t + 4) := Or.inr (by omega)
  exact ((((((((Fr.refl.put a2).put a4).put a0).put a0).put a2).put a3).put a0).put a0).put a0
