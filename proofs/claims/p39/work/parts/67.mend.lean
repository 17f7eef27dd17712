/-! MENDINGS -/
theorem kn_num {n w num at9 : Nat} (hn : n ≤ 7) (h : Kn n w num at9) : w ≤ 4 ∧ num < 70 ∧ at9 < 49 ∧ (w = 2 → num < 7 ∧ at9 = num) := by
  rcases h with ⟨h1, p, k, h2, h3, h4, h5⟩ | ⟨h1, p, k, h2, h3, h4, h5, h6⟩ | ⟨h1, h2, h3⟩ | ⟨h1, h2, h3⟩ | ⟨h1, h2, h3⟩ <;> omega
theorem knows_yes {μ : Mm} {P : Pa} (h : PC μ P) {w num at9 : Nat} (hk : Kn (pN P) w num at9) : F_X4_knows (kI num) (kI w) μ = some (kI 1, μ) := by
  have hn := h.n7
  unfold F_X4_knows F_X4_knows_73
  rcases hk with ⟨rfl, p, k, h2, h3, rfl, h5⟩ | ⟨rfl, p, k, h2, h3, h4, rfl, h6⟩ | ⟨rfl, h2, h3⟩ | ⟨rfl, rfl, h3⟩ | ⟨rfl, rfl, h3⟩
  · rw [tsw0_at (by show _ < 5; omega) (by omega)]
    simp only [List.getD_cons_zero, List.getD_cons_succ]
    rw [bnd_eq (isPair_yes h h2 h3)]
    rfl
  · rw [tsw0_at (by show _ < 5; omega) (by omega)]
    simp only [List.getD_cons_zero, List.getD_cons_succ]
    rw [bnd_eq (isPair_yes h h2 h3)]
    simp (disch := omega) only [show (10 * p + k) / 10 = p by omega, show (10 * p + k) % 10 = k by omega, h4, Nat.one_ne_zero, iI_lit, kI_add, kI_mul, kI_eq, kI_lt, kI_le, kI_neg1, neg1_kI, neg1_lt0, neg1_0le, kO_none, kO_some, nm_eq, bnd_some, rz_0, rz_1, zb_0, zb_1, rd_kI, wrI_kI, wrL_kI, dvI_kI, rmI_kI, if_true, if_false, ite_true, ite_false, reduceIte, Nat.lt_irrefl, Nat.le_refl, not_true, not_false_iff, true_and, and_true, false_and, and_false, and_self, Bool.false_eq_true, eq_self, Decidable.not_not]
  · rw [tsw0_at (by show _ < 5; omega) (by omega)]
    simp only [List.getD_cons_zero, List.getD_cons_succ]
    rw [bnd_eq (isOne_yes h h2)]
    rfl
  · rw [tsw0_at (by show _ < 5; omega) (by omega)]
    rfl
  · rw [tsw0_at (by show _ < 5; omega) (by omega)]
    rfl
theorem tsw4_4 {β : Type} {a b c d e : Option β} : tsw (kI 4) 0 [a, b, c, d] e = e := by
  refine tsw0_out (fun k hk => ?_) (by show 4 < 1000; omega)
  have hk : k < 4 := hk
  rw [ne_eq, kI_eq (by omega) (by omega)]
  omega
theorem tsw5_out {β : Type} {y : Int32} {a b c d e f : Option β} (hy : ∀ k, k < 5 → y ≠ kI k) : tsw y 0 [a, b, c, d, e] f = f :=
  tsw0_out (fs := [a, b, c, d, e]) (fun k hk => hy k hk) (by show 5 < 1000; omega)
theorem knows_no {μ : Mm} {P : Pa} (h : PC μ P) {x y : Int32} (hx : ∀ w num at9, Kn (pN P) w num at9 → y = kI w → x ≠ kI num) : F_X4_knows x y μ = some (kI 0, μ) := by
  have hn := h.n7
  unfold F_X4_knows F_X4_knows_73
  rcases per_cases 5 y with ⟨w, w5, rfl⟩ | hy
  · have hw : w = 0 ∨ w = 1 ∨ w = 2 ∨ w = 3 ∨ w = 4 := by omega
    rcases hw with rfl | rfl | rfl | rfl | rfl
    · rw [tsw0_at (by show _ < 5; omega) (by omega)]
      simp only [List.getD_cons_zero, List.getD_cons_succ]
      rw [bnd_eq (isPair_no h (fun p k hp hk => hx 0 (10 * p + k) (7 * p + k) (Or.inl ⟨rfl, p, k, hp, hk, rfl, rfl⟩) rfl))]
      rfl
    · rw [tsw0_at (by show _ < 5; omega) (by omega)]
      simp only [List.getD_cons_zero, List.getD_cons_succ]
      rcases pair_cases (pN P) x with ⟨p, k, hp, hk, rfl⟩ | hp
      · have : p = k := by
          by_cases z : p = k
          · exact z
          · exact absurd rfl (hx 1 (10 * p + k) (7 * p + k) (Or.inr (Or.inl ⟨rfl, p, k, hp, hk, z, rfl, rfl⟩)) rfl)
        subst this
        rw [bnd_eq (isPair_yes h hp hk)]
        simp (disch := omega) only [show (10 * p + p) / 10 = p by omega, show (10 * p + p) % 10 = p by omega, Nat.one_ne_zero, iI_lit, kI_add, kI_mul, kI_eq, kI_lt, kI_le, kI_neg1, neg1_kI, neg1_lt0, neg1_0le, kO_none, kO_some, nm_eq, bnd_some, rz_0, rz_1, zb_0, zb_1, rd_kI, wrI_kI, wrL_kI, dvI_kI, rmI_kI, if_true, if_false, ite_true, ite_false, reduceIte, Nat.lt_irrefl, Nat.le_refl, not_true, not_false_iff, true_and, and_true, false_and, and_false, and_self, Bool.false_eq_true, eq_self, Decidable.not_not]
      · rw [bnd_eq (isPair_no h hp)]
        rfl
    · rw [tsw0_at (by show _ < 5; omega) (by omega)]
      simp only [List.getD_cons_zero, List.getD_cons_succ]
      rw [bnd_eq (isOne_no h (fun k hk => hx 2 k k (Or.inr (Or.inr (Or.inl ⟨rfl, hk, rfl⟩))) rfl))]
      rfl
    · rw [tsw0_at (by show _ < 5; omega) (by omega)]
      simp only [List.getD_cons_zero, List.getD_cons_succ]
      rw [if_neg (show ¬ x = iI 0 from hx 3 0 0 (Or.inr (Or.inr (Or.inr (Or.inl ⟨rfl, rfl, rfl⟩)))) rfl)]
      rfl
    · rw [tsw0_at (by show _ < 5; omega) (by omega)]
      simp only [List.getD_cons_zero, List.getD_cons_succ]
      rw [if_neg (show ¬ x = iI 0 from hx 4 0 0 (Or.inr (Or.inr (Or.inr (Or.inr ⟨rfl, rfl, rfl⟩)))) rfl)]
      rfl
  · rw [tsw5_out hy]
    rfl
def loV (w : Nat) : Nat := if w = 3 then 1 else 0
def hiV (w : Nat) : Nat := if w = 0 then 99 else if w = 1 then 9 else if w = 2 then 2 else if w = 3 then 3 else 1
theorem vOk_iff {w v : Nat} (hw : w ≤ 4) : vOk w v ↔ loV w ≤ v ∧ v ≤ hiV w := by
  have h : w = 0 ∨ w = 1 ∨ w = 2 ∨ w = 3 ∨ w = 4 := by omega
  unfold vOk loV hiV
  rcases h with rfl | rfl | rfl | rfl | rfl <;> simp
theorem allows_yes {μ : Mm} {w v : Nat} (hw : w ≤ 4) (hv : vOk w v) : F_X4_allows (kI w) (kI v) μ = some (kI 1, μ) := by
  unfold F_X4_allows F_X4_allows_108
  rcases hv with ⟨rfl, h⟩ | ⟨rfl, h⟩ | ⟨rfl, h⟩ | ⟨rfl, h⟩ | ⟨rfl, h⟩
  all_goals (rw [tsw0_at (by show _ < 5; omega) (by omega)]; simp only [List.getD_cons_zero, List.getD_cons_succ])
  · simp (disch := omega) only [Nat.not_lt_zero, show ¬ 99 < v by omega, iI_lit, kI_add, kI_mul, kI_eq, kI_lt, kI_le, kI_neg1, neg1_kI, neg1_lt0, neg1_0le, kO_none, kO_some, nm_eq, bnd_some, rz_0, rz_1, zb_0, zb_1, rd_kI, wrI_kI, wrL_kI, dvI_kI, rmI_kI, if_true, if_false, ite_true, ite_false, reduceIte, Nat.lt_irrefl, Nat.le_refl, not_true, not_false_iff, true_and, and_true, false_and, and_false, and_self, Bool.false_eq_true, eq_self, Decidable.not_not]
  · simp (disch := omega) only [Nat.not_lt_zero, show ¬ 9 < v by omega, iI_lit, kI_add, kI_mul, kI_eq, kI_lt, kI_le, kI_neg1, neg1_kI, neg1_lt0, neg1_0le, kO_none, kO_some, nm_eq, bnd_some, rz_0, rz_1, zb_0, zb_1, rd_kI, wrI_kI, wrL_kI, dvI_kI, rmI_kI, if_true, if_false, ite_true, ite_false, reduceIte, Nat.lt_irrefl, Nat.le_refl, not_true, not_false_iff, true_and, and_true, false_and, and_false, and_self, Bool.false_eq_true, eq_self, Decidable.not_not]
  · simp (disch := omega) only [Nat.not_lt_zero, show ¬ 2 < v by omega, iI_lit, kI_add, kI_mul, kI_eq, kI_lt, kI_le, kI_neg1, neg1_kI, neg1_lt0, neg1_0le, kO_none, kO_some, nm_eq, bnd_some, rz_0, rz_1, zb_0, zb_1, rd_kI, wrI_kI, wrL_kI, dvI_kI, rmI_kI, if_true, if_false, ite_true, ite_false, reduceIte, Nat.lt_irrefl, Nat.le_refl, not_true, not_false_iff, true_and, and_true, false_and, and_false, and_self, Bool.false_eq_true, eq_self, Decidable.not_not]
  · simp (disch := omega) only [show ¬ v < 1 by omega, show ¬ 3 < v by omega, iI_lit, kI_add, kI_mul, kI_eq, kI_lt, kI_le, kI_neg1, neg1_kI, neg1_lt0, neg1_0le, kO_none, kO_some, nm_eq, bnd_some, rz_0, rz_1, zb_0, zb_1, rd_kI, wrI_kI, wrL_kI, dvI_kI, rmI_kI, if_true, if_false, ite_true, ite_false, reduceIte, Nat.lt_irrefl, Nat.le_refl, not_true, not_false_iff, true_and, and_true, false_and, and_false, and_self, Bool.false_eq_true, eq_self, Decidable.not_not]
  · have : v = 0 ∨ v = 1 := by omega
    rcases this with rfl | rfl
    · rfl
    · simp (disch := omega) only [Nat.one_ne_zero, iI_lit, kI_add, kI_mul, kI_eq, kI_lt, kI_le, kI_neg1, neg1_kI, neg1_lt0, neg1_0le, kO_none, kO_some, nm_eq, bnd_some, rz_0, rz_1, zb_0, zb_1, rd_kI, wrI_kI, wrL_kI, dvI_kI, rmI_kI, if_true, if_false, ite_true, ite_false, reduceIte, Nat.lt_irrefl, Nat.le_refl, not_true, not_false_iff, true_and, and_true, false_and, and_false, and_self, Bool.false_eq_true, eq_self, Decidable.not_not]
theorem allows_no {μ : Mm} {w : Nat} {x : Int32} (hw : w ≤ 4) (hv : ∀ v, vOk w v → x ≠ kI v) : F_X4_allows (kI w) x μ = some (kI 0, μ) := by
  have gen : ∀ lo hi : Nat, (∀ v, lo ≤ v → v ≤ hi → x ≠ kI v) → lo < 100 → hi < 100 → (if x < kI lo then rz (kI 0) μ else if kI hi < x then rz (kI 0) μ else rz (kI 1) μ) = some (kI 0, μ) := by
    intro lo hi h h1 h2
    rcases i32_cases x with q | ⟨k, k1, rfl⟩
    · simp (disch := omega) only [neg_lt q, iI_lit, kI_add, kI_mul, kI_eq, kI_lt, kI_le, kI_neg1, neg1_kI, neg1_lt0, neg1_0le, kO_none, kO_some, nm_eq, bnd_some, rz_0, rz_1, zb_0, zb_1, rd_kI, wrI_kI, wrL_kI, dvI_kI, rmI_kI, if_true, if_false, ite_true, ite_false, reduceIte, Nat.lt_irrefl, Nat.le_refl, not_true, not_false_iff, true_and, and_true, false_and, and_false, and_self, Bool.false_eq_true, eq_self, Decidable.not_not]
    · by_cases z : k < lo
      · simp (disch := omega) only [z, iI_lit, kI_add, kI_mul, kI_eq, kI_lt, kI_le, kI_neg1, neg1_kI, neg1_lt0, neg1_0le, kO_none, kO_some, nm_eq, bnd_some, rz_0, rz_1, zb_0, zb_1, rd_kI, wrI_kI, wrL_kI, dvI_kI, rmI_kI, if_true, if_false, ite_true, ite_false, reduceIte, Nat.lt_irrefl, Nat.le_refl, not_true, not_false_iff, true_and, and_true, false_and, and_false, and_self, Bool.false_eq_true, eq_self, Decidable.not_not]
      · by_cases y : hi < k
        · simp (disch := omega) only [z, y, iI_lit, kI_add, kI_mul, kI_eq, kI_lt, kI_le, kI_neg1, neg1_kI, neg1_lt0, neg1_0le, kO_none, kO_some, nm_eq, bnd_some, rz_0, rz_1, zb_0, zb_1, rd_kI, wrI_kI, wrL_kI, dvI_kI, rmI_kI, if_true, if_false, ite_true, ite_false, reduceIte, Nat.lt_irrefl, Nat.le_refl, not_true, not_false_iff, true_and, and_true, false_and, and_false, and_self, Bool.false_eq_true, eq_self, Decidable.not_not]
        · exact absurd rfl (h k (by omega) (by omega))
  unfold F_X4_allows F_X4_allows_108
  have h : w = 0 ∨ w = 1 ∨ w = 2 ∨ w = 3 ∨ w = 4 := by omega
  rcases h with rfl | rfl | rfl | rfl | rfl
  all_goals (rw [tsw0_at (by show _ < 5; omega) (by omega)]; simp only [List.getD_cons_zero, List.getD_cons_succ])
  · exact gen 0 99 (fun v _ h => hv v (Or.inl ⟨rfl, h⟩)) (by omega) (by omega)
  · exact gen 0 9 (fun v _ h => hv v (Or.inr (Or.inl ⟨rfl, h⟩))) (by omega) (by omega)
  · exact gen 0 2 (fun v _ h => hv v (Or.inr (Or.inr (Or.inl ⟨rfl, h⟩)))) (by omega) (by omega)
  · exact gen 1 3 (fun v h0 h => hv v (Or.inr (Or.inr (Or.inr (Or.inl ⟨rfl, h0, h⟩))))) (by omega) (by omega)
  · rw [if_neg (show ¬ x = iI 0 from hv 0 (Or.inr (Or.inr (Or.inr (Or.inr ⟨rfl, by omega⟩))))), if_neg (show ¬ x = iI 1 from hv 1 (Or.inr (Or.inr (Or.inr (Or.inr ⟨rfl, by omega⟩)))))]
    rfl
def valP (P : Pa) (w num : Nat) : Nat := if w = 0 then pW P (num / 10) (num % 10) else if w = 1 then pK P (num / 10) (num % 10) else if w = 2 then pY P num else if w = 3 then pM P else pA P
def u2N (f : Nat → Nat → Nat) (p k v : Nat) : Nat → Nat → Nat := fun x y => if x = p ∧ y = k then v else f x y
def setP (P : Pa) (w num v : Nat) : Pa := (pN P, if w = 0 then u2N (pW P) (num / 10) (num % 10) v else pW P, if w = 1 then u2N (pK P) (num / 10) (num % 10) v else pK P, if w = 2 then up (pY P) num v else pY P, if w = 3 then v else pM P, if w = 4 then v else pA P, pF P)
theorem val_ok {P : Pa} {w num at9 : Nat} (hP : PaOk P) (hk : Kn (pN P) w num at9) : vOk w (valP P w num) := by
  obtain ⟨h1, h2, h3, h4, h5, h6, h7⟩ := hP
  rcases hk with ⟨rfl, -⟩ | ⟨rfl, -⟩ | ⟨rfl, -⟩ | ⟨rfl, -⟩ | ⟨rfl, -⟩
  · exact Or.inl ⟨rfl, h2 _ _⟩
  · exact Or.inr (Or.inl ⟨rfl, h3 _ _⟩)
  · exact Or.inr (Or.inr (Or.inl ⟨rfl, h4 _⟩))
  · exact Or.inr (Or.inr (Or.inr (Or.inl ⟨rfl, h5, h6⟩)))
  · exact Or.inr (Or.inr (Or.inr (Or.inr ⟨rfl, h7⟩)))
theorem set_ok {P : Pa} {w num v : Nat} (hP : PaOk P) (hv : vOk w v) : PaOk (setP P w num v) := by
  obtain ⟨h1, h2, h3, h4, h5, h6, h7⟩ := hP
  rcases hv with ⟨rfl, h⟩ | ⟨rfl, h⟩ | ⟨rfl, h⟩ | ⟨rfl, h⟩ | ⟨rfl, h⟩
  · exact ⟨h1, fun p k => by show u2N (pW P) _ _ v p k ≤ 99; unfold u2N; split; exact h; exact h2 p k, h3, h4, h5, h6, h7⟩
  · exact ⟨h1, h2, fun p k => by show u2N (pK P) _ _ v p k ≤ 9; unfold u2N; split; exact h; exact h3 p k, h4, h5, h6, h7⟩
  · exact ⟨h1, h2, h3, fun p => by show up (pY P) num v p ≤ 2; unfold up; split; exact h; exact h4 p, h5, h6, h7⟩
  · exact ⟨h1, h2, h3, h4, h.1, h.2, h7⟩
  · exact ⟨h1, h2, h3, h4, h5, h6, h⟩
theorem value_eq {μ : Mm} {P : Pa} (h : PC μ P) {w num at9 : Nat} (hk : Kn (pN P) w num at9) : F_X4_value (kI num) (kI w) μ = some (kI (valP P w num), μ) := by
  have hn := h.n7
  have hkn := knows_yes h hk
  unfold F_X4_value
  rw [bnd_eq hkn]
  rw [if_neg (show ¬ kI 1 = iI 0 by rw [iI_lit, kI_eq (by omega) (by omega)]; omega)]
  rcases hk with ⟨rfl, p, k, h2, h3, rfl, h5⟩ | ⟨rfl, p, k, h2, h3, h4, rfl, h6⟩ | ⟨rfl, h2, h3⟩ | ⟨rfl, rfl, h3⟩ | ⟨rfl, rfl, h3⟩
  · have e := h.w (p := p) (k := k) (by omega) (by omega)
    rw [tsw0_at (by show _ < 4; omega) (by omega)]
    simp only [List.getD_cons_zero, List.getD_cons_succ]
    rw [rd_kI (by omega) (by omega), e]
    show _ = some (kI (pW P ((10 * p + k) / 10) ((10 * p + k) % 10)), μ)
    rw [show (10 * p + k) / 10 = p by omega, show (10 * p + k) % 10 = k by omega]
  · have e := h.k (p := p) (k := k) (by omega) (by omega)
    rw [tsw0_at (by show _ < 4; omega) (by omega)]
    simp only [List.getD_cons_zero, List.getD_cons_succ]
    rw [rd_kI (by omega) (by omega), e]
    show _ = some (kI (pK P ((10 * p + k) / 10) ((10 * p + k) % 10)), μ)
    rw [show (10 * p + k) / 10 = p by omega, show (10 * p + k) % 10 = k by omega]
  · have e := h.y (p := num) (by omega)
    rw [tsw0_at (by show _ < 4; omega) (by omega)]
    simp only [List.getD_cons_zero, List.getD_cons_succ]
    rw [rd_kI (by omega) (by omega), e]
    rfl
  · rw [tsw0_at (by show _ < 4; omega) (by omega)]
    simp only [List.getD_cons_zero, List.getD_cons_succ]
    rw [h.m]
    rfl
  · rw [tsw4_4, h.a]
    rfl
theorem u2N_pI {μ : Mm} {a c p k v : Nat} {f : Nat → Nat → Nat} (hc : 7 ≤ c) (h : ∀ x y, x < 7 → y < 7 → gI μ a (c * x + y) = kI (f x y)) (hp : p < 7) (hk : k < 7) : ∀ x y, x < 7 → y < 7 → gI (pI μ a (c * p + k) (kI v)) a (c * x + y) = kI (u2N f p k v x y) := by
  intro x y hx hy
  unfold u2N
  by_cases z : x = p ∧ y = k
  · rw [gI_pI, if_pos ⟨rfl, by rw [z.1, z.2]⟩, if_pos z]
  · rw [gI_pI, if_neg, if_neg z]
    · exact h x y hx hy
    · intro q
      have q := q.2
      apply z
      have : x = p := by
        rcases Nat.lt_trichotomy x p with w | w | w
        · have : c * (x + 1) ≤ c * p := Nat.mul_le_mul_left c w
          rw [Nat.mul_succ] at this
          omega
        · exact w
        · have : c * (p + 1) ≤ c * x := Nat.mul_le_mul_left c w
          rw [Nat.mul_succ] at this
          omega
      subst this
      exact ⟨rfl, by omega⟩
/-- the class lays a value -/
theorem become4_eq {μ : Mm} {P : Pa} (h : PC μ P) {w num at9 v : Nat} (hk : Kn (pN P) w num at9) (hv : vOk w v) : Wp (F_X4_become (kI num) (kI w) (kI v) μ) fun _ μ' => PC μ' (setP P w num v) ∧ FrC (fun a _ => 2 ≤ a ∧ a ≤ 5) μ μ' := by
  have hn := h.n7
  have hkn := knows_yes h hk
  have ok := set_ok (num := num) h.ok hv
  have law : ∀ μ', FrC (fun a _ => 2 ≤ a ∧ a ≤ 5) μ μ' → LawC μ' (pF P) := fun μ' f => by
    obtain ⟨lp, l1, l2, l3⟩ := h.2.1
    refine ⟨lp, l1, by rw [f.2.2]; exact l2, fun μ'' q => l3 μ'' (fun a ha j => ?_)⟩
    rw [q a ha j, f.1 a j (by omega)]
  obtain ⟨h1, h2, h3, h4, h5, h6⟩ := h.1
  unfold F_X4_become
  rw [bnd_eq hkn]
  rw [if_neg (show ¬ kI 1 = iI 0 by rw [iI_lit, kI_eq (by omega) (by omega)]; omega)]
  rcases hk with ⟨rfl, p, k, q2, q3, rfl, q5⟩ | ⟨rfl, p, k, q2, q3, q4, rfl, q6⟩ | ⟨rfl, q2, q3⟩ | ⟨rfl, rfl, q3⟩ | ⟨rfl, rfl, q3⟩
  · rw [tsw0_at (by show _ < 4; omega) (by omega)]
    simp only [List.getD_cons_zero, List.getD_cons_succ]
    rw [wrI_kI (by omega) (by omega)]
    have f : FrC (fun a _ => 2 ≤ a ∧ a ≤ 5) μ (pI μ 3 (10 * p + k) (kI v)) := FrC.put (C := fun a _ => 2 ≤ a ∧ a ≤ 5) FrC.refl (by omega)
    have g := u2N_pI (μ := μ) (a := 3) (c := 10) (p := p) (k := k) (v := v) (by omega) h2 (by omega) (by omega)
    refine ⟨(), _, rfl, ⟨⟨h1, fun x y hx hy => ?_, h3, h4, h5, h6⟩, law _ f, ok⟩, f⟩
    show _ = kI (u2N (pW P) ((10 * p + k) / 10) ((10 * p + k) % 10) v x y)
    rw [show (10 * p + k) / 10 = p by omega, show (10 * p + k) % 10 = k by omega]
    exact g x y hx hy
  · rw [tsw0_at (by show _ < 4; omega) (by omega)]
    simp only [List.getD_cons_zero, List.getD_cons_succ]
    rw [wrI_kI (by omega) (by omega)]
    have f : FrC (fun a _ => 2 ≤ a ∧ a ≤ 5) μ (pI μ 4 (10 * p + k) (kI v)) := FrC.put (C := fun a _ => 2 ≤ a ∧ a ≤ 5) FrC.refl (by omega)
    have g := u2N_pI (μ := μ) (a := 4) (c := 10) (p := p) (k := k) (v := v) (by omega) h3 (by omega) (by omega)
    refine ⟨(), _, rfl, ⟨⟨h1, h2, fun x y hx hy => ?_, h4, h5, h6⟩, law _ f, ok⟩, f⟩
    show _ = kI (u2N (pK P) ((10 * p + k) / 10) ((10 * p + k) % 10) v x y)
    rw [show (10 * p + k) / 10 = p by omega, show (10 * p + k) % 10 = k by omega]
    exact g x y hx hy
  · rw [tsw0_at (by show _ < 4; omega) (by omega)]
    simp only [List.getD_cons_zero, List.getD_cons_succ]
    rw [wrI_kI (by omega) (by omega)]
    have f : FrC (fun a _ => 2 ≤ a ∧ a ≤ 5) μ (pI μ 5 num (kI v)) := FrC.put (C := fun a _ => 2 ≤ a ∧ a ≤ 5) FrC.refl (by omega)
    refine ⟨(), _, rfl, ⟨⟨h1, h2, h3, fun x hx => ?_, h5, h6⟩, law _ f, ok⟩, f⟩
    show _ = kI (up (pY P) num v x)
    by_cases z : x = num
    · simp [gI_pI, z, up_at]
    · simp [gI_pI, z, up_ne z, h4 x hx]
  · rw [tsw0_at (by show _ < 4; omega) (by omega)]
    simp only [List.getD_cons_zero, List.getD_cons_succ]
    rw [nm_eq]
    have f : FrC (fun a _ => 2 ≤ a ∧ a ≤ 5) μ (pI μ 2 4 (kI v)) := FrC.put (C := fun a _ => 2 ≤ a ∧ a ≤ 5) FrC.refl (by omega)
    refine ⟨(), _, rfl, ⟨⟨h1, h2, h3, h4, ?_, h6⟩, law _ f, ok⟩, f⟩
    show _ = kI v
    simp [gI_pI]
  · rw [tsw4_4, nm_eq]
    have f : FrC (fun a _ => 2 ≤ a ∧ a ≤ 5) μ (pI μ 2 5 (kI v)) := FrC.put (C := fun a _ => 2 ≤ a ∧ a ≤ 5) FrC.refl (by omega)
    refine ⟨(), _, rfl, ⟨⟨h1, h2, h3, h4, h5, ?_⟩, law _ f, ok⟩, f⟩
    show _ = kI v
    simp [gI_pI]
