/-! p39, THE EVENING'S OWN PROPERTIES: what is taken, turns, sums, the best -/
def TM (P : Pa) (e : Ev) : Prop := ∀ k, eT e k ≤ pM P
/-- turns from n on -/
def CN (n : Nat) (e : Ev) : Prop := eN e = kI (n + tot e)
theorem TM.wr {P : Pa} {w g n : Int32} : TM P (wrE w g n) := fun _ => Nat.zero_le _
theorem CN.wr {w g : Int32} {n : Nat} : CN n (wrE w g (kI n)) := rfl
theorem TM.op {P : Pa} {e : Ev} {p : Nat} (h : TM P e) : TM P (opE p e) := h
theorem up_le {T : Nat → Nat} {k M : Nat} (h : ∀ j, T j ≤ M) (hk : T k < M) : ∀ j, up T k (T k + 1) j ≤ M := fun j => by
  by_cases z : j = k
  · rw [z, up_at]; omega
  · rw [up_ne z]; exact h j
theorem TM.rb {P : Pa} {e : Ev} {p k q : Nat} (h : TM P e) (hk : mayB P e k = true) : TM P (rbE p k q e) := up_le h (mayB_iff.mp hk).2.2
theorem CN.op {m n p : Nat} {P : Pa} {lot : Nat → Nat} {e : Ev} (hw : WfE m P lot e) (h : CN n e) : CN n (opE p e) := by
  have h : eN e = kI (n + tot e) := h
  show eN e + kI 1 = kI (n + tot (opE p e))
  rw [h, kI_add, tot_op hw, Nat.add_assoc]
theorem CN.rb {n p k q : Nat} {e : Ev} (hk : k < 7) (h : CN n e) : CN n (rbE p k q e) := by
  have h : eN e = kI (n + tot e) := h
  show eN e + kI 1 = kI (n + tot (rbE p k q e))
  rw [h, kI_add, tot_rb hk, Nat.add_assoc]
theorem TM.st {P : Pa} {e : Ev} {p : Nat} (h : TM P e) : TM P (stE P e p) := by
  unfold stE
  cases hc : ch P e p with
  | none => exact h.op
  | some k => exact h.rb (ch_may hc)
theorem CN.st {m n p : Nat} {P : Pa} {lot : Nat → Nat} {e : Ev} (hw : WfE m P lot e) (h : CN n e) : CN n (stE P e p) := by
  unfold stE
  cases hc : ch P e p with
  | none => exact h.op hw
  | some k =>
    have := (mayB_iff.mp (ch_may hc)).1
    have := hw.1.1
    exact h.rb (by omega)
theorem tot_st {m p : Nat} {P : Pa} {lot : Nat → Nat} {e : Ev} (hw : WfE m P lot e) : tot (stE P e p) = tot e + 1 := by
  unfold stE
  cases hc : ch P e p with
  | none => exact tot_op hw
  | some k =>
    have := (mayB_iff.mp (ch_may hc)).1
    have := hw.1.1
    exact tot_rb (by omega)
/-- a play: what holds along it, how many turns -/
theorem pl_prop {m n : Nat} {P : Pa} {lot : Nat → Nat} (hP : PaOk P) (hl : LotOk m P lot) : ∀ g e, WfE m P lot e → TM P e → CN n e → TM P (plE P lot m g e).1 ∧ CN n (plE P lot m g e).1 ∧ (plE P lot m g e).2 + tot e = tot (plE P lot m g e).1 := by
  intro g
  induction g with
  | zero => exact fun e _ h1 h2 => ⟨h1, h2, Nat.zero_add _⟩
  | succ g ih =>
    intro e hw h1 h2
    by_cases hm : m ≤ eP e
    · have ep : plE P lot m (g + 1) e = (e, 0) := by unfold plE; rw [if_pos hm]
      rw [ep]
      exact ⟨h1, h2, Nat.zero_add _⟩
    · obtain ⟨p, hp⟩ := cu_some hl (show eP e < m by omega)
      have ep : plE P lot m (g + 1) e = ((plE P lot m g (stE P e p)).1, (plE P lot m g (stE P e p)).2 + 1) := by
        rw [plE, if_neg hm, hp]
      rw [ep]
      obtain ⟨i1, i2, i3⟩ := ih (stE P e p) (wf_st hP hl hw (by omega) hp) h1.st (h2.st hw)
      refine ⟨i1, i2, ?_⟩
      rw [tot_st hw] at i3
      show (plE P lot m g (stE P e p)).2 + 1 + tot e = tot (plE P lot m g (stE P e p)).1
      omega
theorem tot_xc {p k0 w q : Nat} {e : Ev} (hw : w < 7) : tot (xcE p k0 w q e) = tot e + 1 := by
  have := sum_up (T := eT e) hw
  show eP e + (up (eT e) w (eT e w + 1) 0 + up (eT e) w (eT e w + 1) 1 + up (eT e) w (eT e w + 1) 2 + up (eT e) w (eT e w + 1) 3 + up (eT e) w (eT e w + 1) 4 + up (eT e) w (eT e w + 1) 5 + up (eT e) w (eT e w + 1) 6) = eP e + (eT e 0 + eT e 1 + eT e 2 + eT e 3 + eT e 4 + eT e 5 + eT e 6) + 1
  omega
theorem ag_prop {n : Nat} {P : Pa} {lot : Nat → Nat} {e : Ev} (hb : eP e ≤ 7) (h1 : TM P e) (h2 : CN n e) : TM P (agE P lot e) ∧ CN n (agE P lot e) := by
  unfold agE
  cases hc : agC P lot e with
  | none => exact ⟨h1, h2⟩
  | some w =>
    obtain ⟨w1, w2⟩ := agC_lt hc
    refine ⟨up_le h1 w2, ?_⟩
    have h2 : eN e = kI (n + tot e) := h2
    show eN e + kI 1 = kI (n + tot (xcE (lot 0) ((eH e (lot 0)).getD 0) w (own0 e w) (setA e)))
    rw [tot_xc (by omega), h2, kI_add, Nat.add_assoc]
    rfl
theorem cl_prop {n : Nat} {P : Pa} {lot : Nat → Nat} {e : Ev} (hb : eP e ≤ 7) (h1 : TM P e) (h2 : CN n e) : TM P (clE P lot e) ∧ CN n (clE P lot e) := by
  unfold clE
  split
  · exact ag_prop hb h1 h2
  · exact ⟨h1, h2⟩
theorem ev_prop {P : Pa} {lot : Nat → Nat} (hP : PaOk P) (hl : LotOk (pN P) P lot) (w g : Int32) : TM P (evE P lot w g) ∧ CN 0 (evE P lot w g) := by
  obtain ⟨h1, h2, -⟩ := pl_prop (n := 0) hP hl 28 (wrE w g (kI 0)) wf_wr TM.wr CN.wr
  have := (wf_pl hP hl 28 (wrE w g (kI 0)) (left_le hP (Nat.zero_le _)) wf_wr).1.1.1
  exact cl_prop this h1 h2
/-- all that is taken -/
theorem fs_7 {f : Nat → Nat} {n : Nat} (hn : n ≤ 7) (h : ∀ k, n ≤ k → f k = 0) : fs f n 0 = f 0 + f 1 + f 2 + f 3 + f 4 + f 5 + f 6 := by
  have e := fs_split (f := f) n (7 - n) 0
  have z : fs f (7 - n) (0 + n) = 0 := fs_zero _ _ (fun j h1 _ => h j (by omega))
  rw [z, Nat.add_zero, show n + (7 - n) = 7 by omega] at e
  rw [← e]
  show f 0 + (f 1 + (f 2 + (f 3 + (f 4 + (f 5 + (f 6 + 0)))))) = _
  omega
theorem tot_fs {P : Pa} {lot : Nat → Nat} {e : Ev} (hP : PaOk P) (hw : WfE (pN P) P lot e) (he : eP e = pN P) : tot e = pN P + fs (eT e) (pN P) 0 := by
  rw [fs_7 hP.1 (fun k hk => (hw.2.2.2.1 k (by omega)).2)]
  show eP e + _ = _
  rw [he]
theorem fs_le {f g : Nat → Nat} : ∀ c i, (∀ j, i ≤ j → j < i + c → f j ≤ g j) → fs f c i ≤ fs g c i
  | 0, _, _ => Nat.le_refl _
  | c + 1, i, h => by
    have h1 := h i (Nat.le_refl _) (by omega)
    have h2 := fs_le c (i + 1) (fun j a b => h j (by omega) (by omega))
    show f i + fs f c (i + 1) ≤ g i + fs g c (i + 1)
    omega
theorem fs_lt {f g : Nat → Nat} {a : Nat} : ∀ c i, (∀ j, i ≤ j → j < i + c → f j ≤ g j) → i ≤ a → a < i + c → f a < g a → fs f c i < fs g c i
  | 0, _, _, h1, h2, _ => absurd h2 (by omega)
  | c + 1, i, h, h1, h2, h3 => by
    have q1 := h i (Nat.le_refl _) (by omega)
    have q2 := fs_le c (i + 1) (fun j a b => h j (by omega) (by omega))
    show f i + fs f c (i + 1) < g i + fs g c (i + 1)
    by_cases z : i = a
    · subst z; omega
    · have := fs_lt c (i + 1) (fun j a b => h j (by omega) (by omega)) (by omega) (by omega) h3
      omega
theorem fs_const {M : Nat} : ∀ c i, fs (fun _ => M) c i = c * M
  | 0, _ => (Nat.zero_mul _).symm
  | c + 1, i => by
    show M + fs (fun _ => M) c (i + 1) = (c + 1) * M
    rw [fs_const c (i + 1), Nat.succ_mul, Nat.add_comm]
theorem fs_one {f : Nat → Nat} {a : Nat} : ∀ c i, i ≤ a → a < i + c → f a ≤ fs f c i
  | 0, _, h1, h2 => absurd h2 (by omega)
  | c + 1, i, h1, h2 => by
    show f a ≤ f i + fs f c (i + 1)
    by_cases z : i = a
    · subst z; omega
    · have := fs_one (f := f) (a := a) c (i + 1) (by omega) (by omega)
      omega
/-! the best: no parting is worth more -/
theorem mx_ge {P : Pa} (hn : pN P ≤ 7) {s : Nat → Nat} (hs : ∀ q, q < pN P → s q < pN P) (hi : ∀ i j, i < pN P → j < pN P → s i = s j → i = j) : ∀ c p u, p + c = pN P → u < 2 ^ pN P → pc u = p → (∀ k, k < pN P → bt u k = 1 → ∃ q, q < p ∧ s q = k) → fs (fun q => pW P q (s q)) c p ≤ Mx P c p u := by
  have p2 := p2_n hn
  intro c
  induction c with
  | zero => exact fun _ _ _ _ _ _ => Nat.le_refl _
  | succ c ih =>
    intro p u hp hu hpc hb
    have hsp := hs p (by omega)
    have b0 : bt u (s p) = 0 := by
      rcases bt_2 u (s p) with z | z
      · exact z
      · obtain ⟨q, q1, q2⟩ := hb (s p) hsp z
        have := hi q p (by omega) (by omega) q2
        omega
    obtain ⟨o1, o2, o3⟩ := bt_or (u := u) (k := s p) (by omega) (by omega) b0
    have o4 := bt_lt hn hu hsp b0
    have h1 := ih (p + 1) (u + 2 ^ s p) (by omega) o4 (by omega) (fun k hk z => by
      rw [bt_set (by omega) (by omega) (by omega) b0] at z
      by_cases y : k = s p
      · exact ⟨p, by omega, y.symm⟩
      · rw [if_neg y] at z
        obtain ⟨q, q1, q2⟩ := hb k hk z
        exact ⟨q, by omega, q2⟩)
    have h2 := (Mx_is (P := P) (c := c) (p := p) hn hu (by omega)).1 (s p) hsp b0
    unfold gB at h2
    show pW P p (s p) + fs (fun q => pW P q (s q)) c (p + 1) ≤ Mx P (c + 1) p u
    omega
theorem best_ge {P : Pa} (hn : pN P ≤ 7) {s : Nat → Nat} (hs : ∀ q, q < pN P → s q < pN P) (hi : ∀ i j, i < pN P → j < pN P → s i = s j → i = j) : fs (fun q => pW P q (s q)) (pN P) 0 ≤ Mx P (pN P) 0 0 := by
  have p2 := p2_n hn
  exact mx_ge hn hs hi (pN P) 0 0 (by omega) (by omega) (by decide) (fun k hk z => by
    have : bt 0 k = 0 := by unfold bt; simp
    omega)
/-- the parting of the best: each has its own, together the most -/
theorem gr_is {P : Pa} (hn : pN P ≤ 7) : ∀ c p u, p + c = pN P → u < 2 ^ pN P → pc u = p → (∀ q, p ≤ q → q < pN P → gr P c p u q < pN P ∧ bt u (gr P c p u q) = 0) ∧ (∀ i j, p ≤ i → i < pN P → p ≤ j → j < pN P → gr P c p u i = gr P c p u j → i = j) ∧ fs (fun q => pW P q (gr P c p u q)) c p = Mx P c p u := by
  have p2 := p2_n hn
  intro c
  induction c with
  | zero => exact fun p u h _ _ => ⟨fun q h1 h2 => absurd h2 (by omega), fun i j h1 h2 => absurd h2 (by omega), rfl⟩
  | succ c ih =>
    intro p u hp hu hpc
    obtain ⟨g1, g2, g3⟩ := gk_is (P := P) (c := c) (p := p) hn hu (by omega)
    obtain ⟨-, -, -, g4, -⟩ := ffB_some (pN P) 0 g1
    obtain ⟨o1, o2, o3⟩ := bt_or (u := u) (k := gk P c p u) (by omega) (by omega) g3
    have o4 := bt_lt hn hu g2 g3
    obtain ⟨i1, i2, i3⟩ := ih (p + 1) (u + 2 ^ gk P c p u) (by omega) o4 (by omega)
    have e0 : gr P (c + 1) p u p = gk P c p u := if_pos rfl
    have e1 : ∀ q, q ≠ p → gr P (c + 1) p u q = gr P c (p + 1) (u + 2 ^ gk P c p u) q := fun q z => if_neg z
    have b1 : ∀ q, p + 1 ≤ q → q < pN P → bt u (gr P c (p + 1) (u + 2 ^ gk P c p u) q) = 0 ∧ gr P c (p + 1) (u + 2 ^ gk P c p u) q ≠ gk P c p u := fun q q1 q2 => by
      obtain ⟨a1, a2⟩ := i1 q q1 q2
      rw [bt_set (by omega) (by omega) (by omega) g3] at a2
      by_cases z : gr P c (p + 1) (u + 2 ^ gk P c p u) q = gk P c p u
      · rw [if_pos z] at a2; omega
      · rw [if_neg z] at a2; exact ⟨a2, z⟩
    refine ⟨fun q q1 q2 => ?_, fun i j h1 h2 h3 h4 he => ?_, ?_⟩
    · by_cases z : q = p
      · rw [z, e0]; exact ⟨g2, g3⟩
      · rw [e1 q z]
        exact ⟨(i1 q (by omega) q2).1, (b1 q (by omega) q2).1⟩
    · by_cases zi : i = p
      · by_cases zj : j = p
        · omega
        · rw [zi, e0, e1 j zj] at he
          exact absurd he.symm (b1 j (by omega) h4).2
      · by_cases zj : j = p
        · rw [zj, e0, e1 i zi] at he
          exact absurd he (b1 i (by omega) h2).2
        · rw [e1 i zi, e1 j zj] at he
          exact i2 i j (by omega) h2 (by omega) h4 he
    · show pW P p (gr P (c + 1) p u p) + fs (fun q => pW P q (gr P (c + 1) p u q)) c (p + 1) = Mx P (c + 1) p u
      have e2 : fs (fun q => pW P q (gr P (c + 1) p u q)) c (p + 1) = fs (fun q => pW P q (gr P c (p + 1) (u + 2 ^ gk P c p u) q)) c (p + 1) := fs_congr c (p + 1) (fun j j1 _ => by rw [e1 j (by omega)])
      rw [e2, i3, e0, ← g4]
      rfl
theorem best_is {P : Pa} (hn : pN P ≤ 7) : (∀ q, q < pN P → gr P (pN P) 0 0 q < pN P) ∧ (∀ i j, i < pN P → j < pN P → gr P (pN P) 0 0 i = gr P (pN P) 0 0 j → i = j) ∧ fs (fun q => pW P q (gr P (pN P) 0 0 q)) (pN P) 0 = Mx P (pN P) 0 0 := by
  have p2 := p2_n hn
  obtain ⟨h1, h2, h3⟩ := gr_is (P := P) hn (pN P) 0 0 (by omega) (by omega) (by decide)
  exact ⟨fun q hq => (h1 q (Nat.zero_le _) hq).1, fun i j hi hj => h2 i j (Nat.zero_le _) hi (Nat.zero_le _) hj, h3⟩
/-- what one goes home with is nobody else's -/
theorem full_inj {P : Pa} {v : Ev} (hf : Full P v) : (∀ q, q < pN P → has0 v q < pN P) ∧ ∀ i j, i < pN P → j < pN P → has0 v i = has0 v j → i = j :=
  ⟨fun q hq => (hf.2 q hq).1, fun i j hi hj h => by
    rw [← (hf.2 i hi).2.1, ← (hf.2 j hj).2.1, h]⟩
theorem hW_has {P : Pa} {v : Ev} (hf : Full P v) : hW P v (pN P) 0 = fs (fun p => pW P p (has0 v p)) (pN P) 0 := by
  rw [hW_fs]
  refine fs_congr _ _ (fun p _ hp => ?_)
  have h := hf.2 p (by omega)
  show wo P p (eH v p) = pW P p (has0 v p)
  rw [h.2.2]
  exact wo_some (by omega) h.1
theorem ev_best {P : Pa} {v : Ev} (hn : pN P ≤ 7) (hf : Full P v) : fs (fun p => pW P p (has0 v p)) (pN P) 0 ≤ Mx P (pN P) 0 0 := best_ge hn (full_inj hf).1 (full_inj hf).2
theorem has_le {P : Pa} {v : Ev} (hn : pN P ≤ 7) (hf : Full P v) {p : Nat} (hp : p < pN P) : pW P p (has0 v p) ≤ Mx P (pN P) 0 0 :=
  Nat.le_trans (fs_one (f := fun p => pW P p (has0 v p)) (pN P) 0 (Nat.zero_le _) (by omega)) (ev_best hn hf)
/-- nobody would change with another where nothing better is -/
theorem no_pair {P : Pa} {v : Ev} (hn : pN P ≤ 7) (hf : Full P v) (hb : Mx P (pN P) 0 0 ≤ fs (fun p => pW P p (has0 v p)) (pN P) 0) {a b : Nat} (ha : a < pN P) (hbn : b < pN P) (hab : a ≠ b) : evX P v a b = 0 := by
  unfold evX evB
  split
  · next q =>
    have q1 := of_decide_eq_true q.1
    have q2 := of_decide_eq_true q.2
    obtain ⟨f1, f2⟩ := full_inj hf
    have s1 : ∀ q, q < pN P → swL (has0 v) a b q < pN P := fun q hq => by
      rw [swL_at]
      split
      · exact f1 a ha
      · split
        · exact f1 b hbn
        · exact f1 q hq
    have s2 : ∀ i j, i < pN P → j < pN P → swL (has0 v) a b i = swL (has0 v) a b j → i = j := fun i j hi hj h => by
      rw [swL_at, swL_at] at h
      have z1 := f2 i j hi hj
      have z2 := f2 a j ha hj
      have z3 := f2 b j hbn hj
      have z4 := f2 i a hi ha
      have z5 := f2 i b hi hbn
      have z6 := f2 a b ha hbn
      have z7 := f2 b a hbn ha
      by_cases i1 : i = b
      · rw [if_pos i1] at h
        by_cases j1 : j = b
        · omega
        · rw [if_neg j1] at h
          by_cases j2 : j = a
          · rw [if_pos j2] at h; have := z6 h; omega
          · rw [if_neg j2] at h; have := z2 h; omega
      · rw [if_neg i1] at h
        by_cases i2 : i = a
        · rw [if_pos i2] at h
          by_cases j1 : j = b
          · rw [if_pos j1] at h; have := z7 h; omega
          · rw [if_neg j1] at h
            by_cases j2 : j = a
            · omega
            · rw [if_neg j2] at h; have := z3 h; omega
        · rw [if_neg i2] at h
          by_cases j1 : j = b
          · rw [if_pos j1] at h; have := z4 h; omega
          · rw [if_neg j1] at h
            by_cases j2 : j = a
            · rw [if_pos j2] at h; have := z5 h; omega
            · rw [if_neg j2] at h; exact z1 h
    have g := best_ge hn s1 s2
    have lt : fs (fun p => pW P p (has0 v p)) (pN P) 0 < fs (fun p => pW P p (swL (has0 v) a b p)) (pN P) 0 := by
      refine fs_lt (a := a) (pN P) 0 (fun j _ _ => ?_) (Nat.zero_le _) (by omega) ?_
      · show pW P j (has0 v j) ≤ pW P j (swL (has0 v) a b j)
        rw [swL_at]
        by_cases j1 : j = b
        · rw [if_pos j1, j1]; omega
        · rw [if_neg j1]
          by_cases j2 : j = a
          · rw [if_pos j2, j2]; omega
          · rw [if_neg j2]; exact Nat.le_refl _
      · show pW P a (has0 v a) < pW P a (swL (has0 v) a b a)
        rw [swL_at, if_neg hab, if_pos rfl]
        exact q1
    omega
  · rfl
def prS (P : Pa) (v : Ev) : Nat := fs (fun a => fs (evX P v a) (pN P - (a + 1)) (a + 1)) (pN P) 0
theorem prs_0 {P : Pa} {v : Ev} (hn : pN P ≤ 7) (hf : Full P v) (hb : Mx P (pN P) 0 0 ≤ fs (fun p => pW P p (has0 v p)) (pN P) 0) : prS P v = 0 :=
  fs_zero _ _ (fun a _ ha => fs_zero _ _ (fun b b1 b2 => no_pair hn hf hb (by omega) (by omega) (by omega)))
theorem evX_le {P : Pa} {v : Ev} {a b : Nat} : evX P v a b ≤ 1 := by
  unfold evX
  split <;> omega
theorem prs_le {P : Pa} {v : Ev} (hn : pN P ≤ 7) : prS P v ≤ pN P * (pN P - 1) / 2 := by
  have h1 : prS P v ≤ fs (fun a => pN P - (a + 1)) (pN P) 0 := fs_le _ _ (fun a _ ha => by
    have := fs_le (f := evX P v a) (g := fun _ => 1) (pN P - (a + 1)) (a + 1) (fun _ _ _ => evX_le)
    rw [fs_const, Nat.mul_one] at this
    exact this)
  have h2 : ∀ n, n ≤ 7 → fs (fun a => n - (a + 1)) n 0 = n * (n - 1) / 2 := by decide
  rw [h2 _ hn] at h1
  exact h1
/-! lots: one at least, all at most -/
def fct : Nat → Nat
  | 0 => 1
  | n + 1 => (n + 1) * fct n
theorem lt_le {P : Pa} {el : Nat → Int64} {cc : Nat} (hP : PaOk P) : ∀ c k u L, k + c = pN P → Us P k u L → ltF P el cc c k u L ≤ fct c := by
  have hn := hP.1
  have p2 := p2_n hn
  intro c
  induction c with
  | zero =>
    intro k u L _ _
    unfold ltF
    show _ ≤ 1
    split <;> omega
  | succ c ih =>
    intro k u L hk hu
    -- only those who have no place yet
    have key : ∀ (G : Nat → Nat) (M : Nat), (∀ w, w < pN P → bt u w = 0 → G w ≤ M) → ∀ mc i, i + mc = pN P → fs (fun w => if bt u w = 0 then G w else 0) mc i ≤ fs (fun w => 1 - bt u w) mc i * M := by
      intro G M hG mc
      induction mc with
      | zero => exact fun _ _ => Nat.zero_le _
      | succ mc ihm =>
        intro i hi
        have h1 := ihm (i + 1) (by omega)
        show (if bt u i = 0 then G i else 0) + fs (fun w => if bt u w = 0 then G w else 0) mc (i + 1) ≤ (1 - bt u i + fs (fun w => 1 - bt u w) mc (i + 1)) * M
        rw [Nat.add_mul]
        rcases bt_2 u i with z | z
        · have := hG i (by omega) z
          rw [if_pos z, z]
          omega
        · rw [if_neg (by omega), z]
          omega
    have cnt : fs (fun w => 1 - bt u w) (pN P) 0 ≤ c + 1 := by
      -- k places are given: k bits are set
      have e : fs (fun w => 1 - bt u w) (pN P) 0 + fs (fun w => bt u w) (pN P) 0 = pN P := by
        rw [← fs_add]
        rw [fs_congr (g := fun _ => 1) (pN P) 0 (fun j _ _ => by have := bt_2 u j; omega), fs_const, Nat.mul_one]
      have g : k ≤ fs (fun w => bt u w) (pN P) 0 := by
        obtain ⟨⟨q1, q2, q3⟩, q4, q5⟩ := hu
        have a1 : fs (fun j => fs (fun w => if w = L j then 1 else 0) (pN P) 0) k 0 = k := by
          rw [fs_congr (g := fun _ => 1) k 0 (fun j _ hj => by
            have := q3 j (by omega)
            rw [fs_single (f := fun w => if w = L j then 1 else 0) (a := L j) (pN P) 0 (Nat.zero_le _) (by omega) (fun x _ _ z => if_neg z)]
            exact if_pos rfl), fs_const, Nat.mul_one]
        rw [fs_comm] at a1
        have a2 : fs (fun w => fs (fun j => if w = L j then 1 else 0) k 0) (pN P) 0 ≤ fs (fun w => bt u w) (pN P) 0 := fs_le _ _ (fun w _ hw => by
          show fs (fun j => if w = L j then 1 else 0) k 0 ≤ bt u w
          by_cases h : ∃ j, j < k ∧ w = L j
          · obtain ⟨j, j1, j2⟩ := h
            rw [fs_single (f := fun j => if w = L j then 1 else 0) (a := j) k 0 (Nat.zero_le _) (by omega) (fun x _ hx z => if_neg (fun y => z (q2 x j (by omega) j1 (by rw [← y, j2]))))]
            rw [if_pos j2, j2, q5 j j1]
            exact Nat.le_refl _
          · rw [fs_zero k 0 (fun j _ hj => if_neg (fun y => h ⟨j, by omega, y⟩))]
            exact Nat.zero_le _)
        omega
      omega
    have main := key (fun w => ltF P el cc c (k + 1) (u + 2 ^ w) (up L k w)) (fct c) (fun w hw hb => ih (k + 1) _ _ (by omega) (hu.step hn (by omega) hw hb)) (pN P) 0 (by omega)
    show fs (fun w => if bt u w = 0 then ltF P el cc c (k + 1) (u + 2 ^ w) (up L k w) else 0) (pN P) 0 ≤ (c + 1) * fct c
    exact Nat.le_trans main (Nat.mul_le_mul_right _ cnt)
theorem lt_ge {P : Pa} {el : Nat → Int64} {cc : Nat} {lot : Nat → Nat} (hP : PaOk P) (hl : LotOk (pN P) P lot) (he : unl el (has0 (evE P lot (kI 0) (kI 0))) cc 0 = none) : ∀ c k u L, k + c = pN P → Us P k u L → (∀ j, j < k → L j = lot j) → (∀ w, w < pN P → bt u w = 1 → ∃ j, j < k ∧ L j = w) → 1 ≤ ltF P el cc c k u L := by
  have hn := hP.1
  have p2 := p2_n hn
  intro c
  induction c with
  | zero =>
    intro k u L hk hu hL hb
    have hk : k = pN P := by omega
    subst hk
    unfold ltF
    rw [ev_lot hP hu.1 hL, if_pos he]
    exact Nat.le_refl _
  | succ c ih =>
    intro k u L hk hu hL hb
    have hlk := hl.2.2 k (by omega)
    have b0 : bt u (lot k) = 0 := by
      rcases bt_2 u (lot k) with z | z
      · exact z
      · obtain ⟨j, j1, j2⟩ := hb _ hlk z
        rw [hL j j1] at j2
        have := hl.2.1 j k (by omega) (by omega) j2
        omega
    have h1 := ih (k + 1) (u + 2 ^ lot k) (up L k (lot k)) (by omega) (hu.step hn (by omega) hlk b0) (fun j hj => by
      by_cases z : j = k
      · rw [z, up_at]
      · rw [up_ne z]; exact hL j (by omega)) (fun w hw z => by
      rw [bt_set (by have := hu.2.1; omega) (by omega) (by omega) b0] at z
      by_cases y : w = lot k
      · exact ⟨k, by omega, by rw [up_at, y]⟩
      · rw [if_neg y] at z
        obtain ⟨j, j1, j2⟩ := hb w hw z
        exact ⟨j, by omega, by rw [up_ne (by omega)]; exact j2⟩)
    have h2 := fs_one (f := fun w => if bt u w = 0 then ltF P el cc c (k + 1) (u + 2 ^ w) (up L k w) else 0) (a := lot k) (pN P) 0 (Nat.zero_le _) (by omega)
    show 1 ≤ fs (fun w => if bt u w = 0 then ltF P el cc c (k + 1) (u + 2 ^ w) (up L k w) else 0) (pN P) 0
    rw [if_pos b0] at h2
    omega
/-! exactly: turns -/
theorem exL_prop {n : Nat} {F : Ev → Ev} {P : Pa} {p : Nat} {e : Ev} (hF : ∀ k, mayB P e k = true → TM P (F (rbE p k (own0 e k) e)) ∧ CN n (F (rbE p k (own0 e k) e))) : ∀ c i r, TM P r ∧ CN n r → TM P (exL F P p e c i r) ∧ CN n (exL F P p e c i r)
  | 0, _, _, h => h
  | c + 1, i, r, h => by
    rw [exL_s]
    refine exL_prop hF c (i + 1) _ ?_
    split
    · next q => exact hF i q.1
    · exact h
theorem ex_prop {n : Nat} {P : Pa} {lot : Nat → Nat} (hP : PaOk P) (hl : LotOk (pN P) P lot) : ∀ g e, left P e ≤ g → WfE (pN P) P lot e → TM P e → CN n e → TM P (exF P lot g e) ∧ CN n (exF P lot g e) := by
  intro g
  induction g with
  | zero => exact fun e _ _ h1 h2 => ⟨h1, h2⟩
  | succ g ih =>
    intro e hg hw h1 h2
    unfold exF
    cases hc : cu P lot e with
    | none => exact ⟨h1, h2⟩
    | some p =>
      have ho := cu_lt hw hc
      have lo := left_op (p := p) hw ho
      refine exL_prop (fun k hk => ?_) _ _ _ (ih (opE p e) (by omega) (wf_op hP hl hw ho hc) h1.op (h2.op hw))
      have lr := left_rb (p := p) (q := own0 e k) hk
      have k7 := (mayB_iff.mp hk).1
      have := hw.1.1
      exact ih _ (by omega) (wf_rb hP hl hw ho hc hk (own_of hw k7).1) (h1.rb hk) (h2.rb (by omega))
theorem ex_turns {P : Pa} {lot : Nat → Nat} (hP : PaOk P) (hl : LotOk (pN P) P lot) {g : Nat} {w d : Int32} (hg : left P (wrE w d (kI 0)) ≤ g) : ∃ t, eN (exF P lot g (wrE w d (kI 0))) = kI t ∧ pN P ≤ t ∧ t ≤ pN P + pN P * pM P := by
  obtain ⟨h1, h2⟩ := ex_prop (n := 0) hP hl g (wrE w d (kI 0)) hg wf_wr TM.wr CN.wr
  have eo := ex_ok hP hl g (wrE w d (kI 0)) hg wf_wr
  have ht := tot_fs hP eo.1 eo.2
  refine ⟨tot (exF P lot g (wrE w d (kI 0))), by rw [show eN _ = kI (0 + tot _) from h2, Nat.zero_add], by omega, ?_⟩
  have := fs_le (f := eT (exF P lot g (wrE w d (kI 0)))) (g := fun _ => pM P) (pN P) 0 (fun j _ _ => h1 j)
  rw [fs_const] at this
  omega
/-! numbers: no more than the best, a draw each -/
theorem drw_best {P : Pa} {lot : Nat → Nat} (hP : PaOk P) (hl : LotOk (pN P) P lot) (h0 : 0 < pN P) : ∀ c z S b, (∀ p, p < pN P → S p ≤ b) → ∀ p, p < pN P → drw P lot c z S p ≤ b + c * Mx P (pN P) 0 0
  | 0, _, S, b, q, p, hp => by
    have := q p hp
    show S p ≤ _
    omega
  | c + 1, z, S, b, q, p, hp => by
    have hn := hP.1
    have hLok : LotOk (pN P) P (shf (pN P - 1) z lot).2 := shf_ok _ _ _ (by omega) hl
    obtain ⟨-, -, hf⟩ := ev_ok hP hLok (kI 0) (kI 0)
    have := drw_best hP hl h0 c (shf (pN P - 1) z lot).1 (sad P (evE P (shf (pN P - 1) z lot).2 (kI 0) (kI 0)) (shf (pN P - 1) z lot).2 S) (b + Mx P (pN P) 0 0) (fun p hp => by
      have h1 := q p hp
      have h2 := has_le hn hf (hLok.2.2 p hp)
      unfold sad
      rw [if_pos hp]
      omega) p hp
    show drw P lot c _ _ p ≤ _
    rw [Nat.succ_mul]
    omega
