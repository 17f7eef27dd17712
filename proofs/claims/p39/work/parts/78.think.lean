/-! SUMS; EVENINGS IN THOUGHT OF BOTH -/
def fs (f : Nat → Nat) : Nat → Nat → Nat
  | 0, _ => 0
  | c + 1, i => f i + fs f c (i + 1)
theorem fs_congr {f g : Nat → Nat} : ∀ c i, (∀ j, i ≤ j → j < i + c → f j = g j) → fs f c i = fs g c i
  | 0, _, _ => rfl
  | c + 1, i, h => by
    show f i + fs f c (i + 1) = g i + fs g c (i + 1)
    rw [h i (Nat.le_refl _) (by omega), fs_congr c (i + 1) (fun j h1 h2 => h j (by omega) (by omega))]
theorem fs_zero {f : Nat → Nat} : ∀ c i, (∀ j, i ≤ j → j < i + c → f j = 0) → fs f c i = 0
  | 0, _, _ => rfl
  | c + 1, i, h => by
    show f i + fs f c (i + 1) = 0
    rw [h i (Nat.le_refl _) (by omega), fs_zero c (i + 1) (fun j h1 h2 => h j (by omega) (by omega))]
theorem fs_add {f g : Nat → Nat} : ∀ c i, fs (fun j => f j + g j) c i = fs f c i + fs g c i
  | 0, _ => rfl
  | c + 1, i => by
    show f i + g i + fs (fun j => f j + g j) c (i + 1) = f i + fs f c (i + 1) + (g i + fs g c (i + 1))
    rw [fs_add c (i + 1)]
    omega
theorem fs_single {f : Nat → Nat} {a : Nat} : ∀ c i, i ≤ a → a < i + c → (∀ j, i ≤ j → j < i + c → j ≠ a → f j = 0) → fs f c i = f a
  | 0, i, h1, h2, _ => absurd h2 (by omega)
  | c + 1, i, h1, h2, h => by
    show f i + fs f c (i + 1) = f a
    by_cases z : i = a
    · subst z
      rw [fs_zero c (i + 1) (fun j k1 k2 => h j (by omega) (by omega) (by omega))]
      rfl
    · rw [h i (Nat.le_refl _) (by omega) z, fs_single c (i + 1) (by omega) (by omega) (fun j k1 k2 k3 => h j (by omega) (by omega) k3)]
      omega
theorem fs_split {f : Nat → Nat} : ∀ c d i, fs f (c + d) i = fs f c i + fs f d (i + c)
  | 0, d, i => by
    show fs f (0 + d) i = 0 + fs f d (i + 0)
    rw [Nat.zero_add, Nat.zero_add]
    rfl
  | c + 1, d, i => by
    rw [show c + 1 + d = (c + d) + 1 by omega]
    show f i + fs f (c + d) (i + 1) = f i + fs f c (i + 1) + fs f d (i + (c + 1))
    rw [fs_split c d (i + 1), show i + 1 + c = i + (c + 1) by omega]
    omega
theorem fs_comm {g : Nat → Nat → Nat} : ∀ c i d k, fs (fun a => fs (g a) d k) c i = fs (fun b => fs (fun a => g a b) c i) d k
  | 0, i, d, k => (fs_zero d k (fun _ _ _ => rfl)).symm
  | c + 1, i, d, k => by
    show fs (g i) d k + fs (fun a => fs (g a) d k) c (i + 1) = _
    rw [fs_comm c (i + 1) d k, ← fs_add]
    rfl
theorem fs_perm {n : Nat} {s t : Nat → Nat} (h1 : ∀ k, k < n → s k < n ∧ t (s k) = k) (h2 : ∀ p, p < n → t p < n ∧ s (t p) = p) (f : Nat → Nat) : fs (fun k => f (s k)) n 0 = fs f n 0 := by
  have a : fs (fun k => f (s k)) n 0 = fs (fun k => fs (fun p => if p = s k then f p else 0) n 0) n 0 := by
    refine fs_congr n 0 (fun k _ hk => ?_)
    have := h1 k (by omega)
    rw [fs_single (f := fun p => if p = s k then f p else 0) (a := s k) n 0 (by omega) (by omega) (fun j _ _ z => if_neg z)]
    exact (if_pos rfl).symm
  rw [a, fs_comm]
  refine fs_congr n 0 (fun p _ hp => ?_)
  have := h2 p (by omega)
  rw [fs_single (f := fun k => if p = s k then f p else 0) (a := t p) n 0 (by omega) (by omega) (fun j _ hj z => if_neg (fun q => z (by
    have := (h1 j (by omega)).2
    rw [← q] at this
    exact this.symm)))]
  exact if_pos this.2.symm
theorem inj_surj : ∀ (n : Nat) (f : Nat → Nat), (∀ i, i < n → f i < n) → (∀ i j, i < n → j < n → f i = f j → i = j) → ∀ y, y < n → ∃ i, i < n ∧ f i = y
  | 0, _, _, _, y, hy => absurd hy (by omega)
  | n + 1, f, h1, h2, y, hy => by
    have hb : ∀ i, i < n → (if f i = n then f n else f i) < n := by
      intro i hi
      have q1 := h1 i (by omega)
      have q2 := h1 n (by omega)
      have q3 := h2 i n (by omega) (by omega)
      by_cases z : f i = n
      · rw [if_pos z]
        have : f n ≠ n := fun w => by have := q3 (by omega); omega
        omega
      · rw [if_neg z]; omega
    have hj : ∀ i j, i < n → j < n → (if f i = n then f n else f i) = (if f j = n then f n else f j) → i = j := by
      intro i j hi hj e
      have q3 := h2 i n (by omega) (by omega)
      have q4 := h2 j n (by omega) (by omega)
      have q5 := h2 i j (by omega) (by omega)
      by_cases z : f i = n
      · by_cases w : f j = n
        · exact q5 (by omega)
        · rw [if_pos z, if_neg w] at e
          have := q4 e.symm
          omega
      · by_cases w : f j = n
        · rw [if_neg z, if_pos w] at e
          have := q3 e
          omega
        · rw [if_neg z, if_neg w] at e
          exact q5 e
    have ih := inj_surj n (fun i => if f i = n then f n else f i) hb hj
    by_cases y1 : y = f n
    · exact ⟨n, by omega, y1.symm⟩
    · by_cases y2 : y = n
      · have hfn := h1 n (by omega)
        obtain ⟨i, i1, i2⟩ := ih (f n) (by omega)
        have i2 : (if f i = n then f n else f i) = f n := i2
        by_cases z : f i = n
        · exact ⟨i, by omega, by omega⟩
        · rw [if_neg z] at i2
          have := h2 i n (by omega) (by omega) i2
          omega
      · obtain ⟨i, i1, i2⟩ := ih y (by omega)
        have i2 : (if f i = n then f n else f i) = y := i2
        by_cases z : f i = n
        · rw [if_pos z] at i2; exact absurd i2.symm y1
        · rw [if_neg z] at i2; exact ⟨i, by omega, i2⟩
def has0 (e : Ev) (p : Nat) : Nat := (eH e p).getD 0
/-- an evening that has ended: each one has one -/
def Full (P : Pa) (e : Ev) : Prop := (∀ k, k < pN P → own0 e k < pN P ∧ has0 e (own0 e k) = k ∧ eO e k = some (own0 e k)) ∧ (∀ p, p < pN P → has0 e p < pN P ∧ own0 e (has0 e p) = p ∧ eH e p = some (has0 e p))
theorem full_of {P : Pa} {lot : Nat → Nat} {e : Ev} (hl : LotOk (pN P) P lot) (hw : WfE (pN P) P lot e) (he : eP e = pN P) : Full P e := by
  have hR : eR e = none := by
    cases q : eR e with
    | none => rfl
    | some r => have := (hw.2.2.2.2.2.2.1 r q).1; omega
  have a : ∀ k, k < pN P → own0 e k < pN P ∧ eO e k = some (own0 e k) := fun k hk => by
    have := own_of hw (k := k) (by omega)
    exact ⟨this.2, this.1⟩
  have b : ∀ p, p < pN P → ∃ k, k < pN P ∧ eH e p = some k := by
    intro p hp
    obtain ⟨j, j1, j2⟩ := inj_surj (pN P) lot hl.2.2 hl.2.1 p hp
    have := hw.2.2.2.2.2.2.2 j (Or.inl (by omega)) (by rw [hR]; intro z; cases z)
    rw [j2] at this
    cases q : eH e p with
    | none => exact absurd q this
    | some k =>
      refine ⟨k, ?_, rfl⟩
      have ok := (hw.2.2.2.2.1 p k).mp q
      by_cases z : k < eP e
      · omega
      · rw [(hw.2.2.2.1 k (by omega)).1] at ok; cases ok
  refine ⟨fun k hk => ?_, fun p hp => ?_⟩
  · obtain ⟨a1, a2⟩ := a k hk
    refine ⟨a1, ?_, a2⟩
    have := (hw.2.2.2.2.1 (own0 e k) k).mpr a2
    unfold has0
    rw [this]
    rfl
  · obtain ⟨k, b1, b2⟩ := b p hp
    have h0 : has0 e p = k := by unfold has0; rw [b2]; rfl
    rw [h0]
    refine ⟨b1, ?_, b2⟩
    have := (hw.2.2.2.2.1 p k).mp b2
    unfold own0
    rw [this]
    rfl
theorem wf_pl {m : Nat} {P : Pa} {lot : Nat → Nat} (hP : PaOk P) (hl : LotOk m P lot) : ∀ g e, left P e ≤ g → WfE m P lot e → WfE m P lot (plE P lot m g e).1 ∧ eP (plE P lot m g e).1 = m := by
  intro g
  induction g with
  | zero =>
    intro e hg hw
    have hmn := hl.1
    have he : eP e = m := by
      have h1 := hw.2.1
      have h2 : (pN P - eP e) * (1 + pM P) = 0 := by unfold left at hg; omega
      rcases Nat.mul_eq_zero.mp h2 with h3 | h3 <;> omega
    exact ⟨hw, he⟩
  | succ g ih =>
    intro e hg hw
    by_cases hm : m ≤ eP e
    · have ep : plE P lot m (g + 1) e = (e, 0) := by unfold plE; rw [if_pos hm]
      rw [ep]
      exact ⟨hw, by have := hw.2.1; show eP e = m; omega⟩
    · have hm' : eP e < m := by omega
      obtain ⟨p, hp⟩ := cu_some hl hm'
      have hls := left_st (p := p) hl.1 hw hm'
      have ep : plE P lot m (g + 1) e = ((plE P lot m g (stE P e p)).1, (plE P lot m g (stE P e p)).2 + 1) := by
        rw [plE, if_neg hm, hp]
      rw [ep]
      exact ih (stE P e p) (by omega) (wf_st hP hl hw hm' hp)
theorem eP_cl {P : Pa} {lot : Nat → Nat} {e : Ev} : eP (clE P lot e) = eP e := by
  unfold clE
  split
  · unfold agE
    cases agC P lot e <;> rfl
  · rfl
theorem ev_ok {P : Pa} {lot : Nat → Nat} (hP : PaOk P) (hl : LotOk (pN P) P lot) (w g : Int32) : WfE (pN P) P lot (evE P lot w g) ∧ eP (evE P lot w g) = pN P ∧ Full P (evE P lot w g) := by
  have h := wf_pl hP hl 28 (wrE w g (kI 0)) (left_le hP (Nat.zero_le _)) wf_wr
  have h1 : WfE (pN P) P lot (evE P lot w g) := wf_cl hP hl h.1
  have h2 : eP (evE P lot w g) = pN P := by unfold evE; rw [eP_cl]; exact h.2
  exact ⟨h1, h2, full_of hl h1 h2⟩
/-- cells of thought -/
def CT (a j : Nat) : Prop := (33 ≤ a ∧ a ≤ 99) ∨ SL a ∨ CX9 1 a j ∨ (137 ≤ a ∧ a ≤ 146) ∨ (a = 113 ∧ j = 47)
theorem gdS_yes {β : Type} {sh : Nat × Nat} {x : Nat} (h : shp x = sh) (G : Nat → Option β) : gdS sh x G = G x := if_pos h
theorem hW_fs {P : Pa} {v : Ev} : ∀ c i, hW P v c i = fs (fun p => wo P p (eH v p)) c i
  | 0, _ => rfl
  | c + 1, i => by
    show wo P i (eH v i) + hW P v c (i + 1) = wo P i (eH v i) + fs (fun p => wo P p (eH v p)) c (i + 1)
    rw [hW_fs c (i + 1)]
theorem hW_own {P : Pa} {v : Ev} (hf : Full P v) : fs (fun k => pW P (own0 v k) k) (pN P) 0 = hW P v (pN P) 0 := by
  have a := fs_perm (n := pN P) (s := own0 v) (t := has0 v) (fun k hk => ⟨(hf.1 k hk).1, (hf.1 k hk).2.1⟩) (fun p hp => ⟨(hf.2 p hp).1, (hf.2 p hp).2.1⟩) (fun p => pW P p (has0 v p))
  rw [hW_fs]
  refine Eq.trans ?_ (a.trans ?_)
  · refine fs_congr _ 0 (fun k _ hk => ?_)
    show pW P (own0 v k) k = pW P (own0 v k) (has0 v (own0 v k))
    rw [(hf.1 k (by omega)).2.1]
  · refine fs_congr _ 0 (fun p _ hp => ?_)
    have q := hf.2 p (by omega)
    show pW P p (has0 v p) = wo P p (eH v p)
    rw [q.2.2, wo_some (by omega) q.1]
/-- what an evening tells -/
def evA (P : Pa) (v : Ev) (n q : Nat) : Int32 := if q = 0 then kI (has0 v n) else if q = 1 then eN v else if q = 2 then kI (hW P v (pN P) 0) else kI (eT v n)
theorem evA0 {P : Pa} {v : Ev} {n : Nat} : evA P v n 0 = kI (has0 v n) := rfl
theorem evA1 {P : Pa} {v : Ev} {n : Nat} : evA P v n 1 = eN v := rfl
theorem evA2 {P : Pa} {v : Ev} {n : Nat} : evA P v n 2 = kI (hW P v (pN P) 0) := rfl
theorem evA3 {P : Pa} {v : Ev} {n : Nat} : evA P v n 3 = kI (eT v n) := rfl
theorem ev8_eq {μ m1 : Mm} {P : Pa} {v : Ev} (hP : PC m1 P) (a1 : F_X7_eveningBy 24 μ = some (50, m1)) (a2 : RC m1 50 v) (hb : BdE v) (hf : Full P v) {n q : Nat} (hq : q ≤ 3) (hnq : q = 1 ∨ q = 2 ∨ n < pN P) : F_X8_evening_48 (kI n) (kI q) μ = some (evA P v n q, m1) := by
  have hn := hP.n7
  unfold F_X8_evening_48
  rw [bnd_eq a1, gdS_yes sh50]
  have : q = 0 ∨ q = 1 ∨ q = 2 ∨ q = 3 := by omega
  rcases this with rfl | rfl | rfl | rfl
  · rw [tsw0_at (k := 0) (by show _ < 3; omega) (by omega)]
    simp only [List.getD_cons_zero, List.getD_cons_succ]
    show rd 7 (kI n) _ = _
    have e1 := a2.2.1.2.2 n (by omega)
    rw [rd_kI (by omega) (by omega), e1, (hf.2 n (by omega)).2.2]
    rfl
  · rw [tsw0_at (k := 1) (by show _ < 3; omega) (by omega)]
    simp only [List.getD_cons_zero, List.getD_cons_succ]
    show some (gI m1 50 10, m1) = _
    rw [a2.2.2.2.2.2.2.2.2]
    rfl
  · rw [tsw0_at (k := 2) (by show _ < 3; omega) (by omega)]
    simp only [List.getD_cons_zero, List.getD_cons_succ]
    show bnd (F_X2_worths 50 m1) _ = _
    rw [bnd_eq (worths_eq hP a2 hb)]
    rfl
  · rw [tsw0_out (fun k hk z => by
      rw [kI_eq (by omega) (by have : k < 3 := hk; omega)] at z
      have : k < 3 := hk
      omega) (by show 3 < 1000; omega), rd_kI (by omega) (by omega), a2.2.1.2.1 n (by omega)]
    rfl
