/-! LOTS OF BOTH -/
def SKL (k a : Nat) : Prop := SL a ∨ (50 + 5 * k ≤ a ∧ a ≤ 99)
theorem SKL.up {k a : Nat} (h : SKL (k + 1) a) : SKL k a := by
  unfold SKL at h ⊢
  rcases h with h | h
  · exact Or.inl h
  · exact Or.inr (by omega)
/-- what is told lies as heard -/
def Told (m : Mm) (s sz : Nat) : Prop := gI m 33 8 = kI sz ∧ gR m 33 7 = 107 + 1 * s
theorem Told.fr {S : Nat → Prop} {m m1 : Mm} {s sz : Nat} (h : Told m s sz) (hf : Fr S m m1) (hs : ¬ S 33) : Told m1 s sz := ⟨by rw [hf.1 33 hs]; exact h.1, by rw [hf.2.2]; exact h.2⟩
theorem PC.skl {m m1 : Mm} {P : Pa} {k : Nat} (h : PC m P) (hf : Fr (SKL k) m m1) : PC m1 P := h.fr hf (fun a q => by unfold SKL SL at q; omega)
theorem leaf8 {P : Pa} {L : Nat → Nat} {s sz t : Nat} {e' : Ev} {m : Mm} {g : Int32 → Int32 → Mm → Option (Int32 × Mm)} (hok : PaOk P) (hs : s < 6) (hsz : sz ≤ 60) (hP : PC m P) (hT : Told m s sz) (ht : 50 ≤ t) (h : RC m t e') (hS : Sm (lsE P L (pN P)) e') (hL : LotC m t L) (hl : LotOk (pN P) P L) : Wp (F_X7_lotsBehind_26 g t m) fun v m' => v = kI (if unl (gL m (107 + 1 * s)) (has0 (evE P L (kI 0) (kI 0))) (min (pN P) sz) 0 = none then 1 else 0) ∧ Fr (SE t) m m' := by
  have hn := hok.1
  obtain ⟨w, g', n, rfl⟩ := hS
  have hw : WfE (pN P) P L (setN (lsE P L (pN P)) w g' n) := (ls_ok hok hl).1
  obtain ⟨_, m2, a1, a2, a3⟩ := close_eq hP h hL hl hw
  obtain ⟨w2, g2, n2, hcl⟩ := cl_set (P := P) (lot := L) (e := lsE P L (pN P)) (w := w) (g := g') (n := n)
  rw [hcl, ← ls_ev] at a2
  obtain ⟨hwe, hee, hfu⟩ := ev_ok hok hl (kI 0) (kI 0)
  have hshE := shE h.1
  have hP2 : PC m2 P := hP.fr a3 (fun a q => by unfold SE at q; omega)
  have hT2 := hT.fr a3 (by unfold SE; omega)
  have q8 := unl8 (v := setN (evE P L (kI 0) (kI 0)) w2 g2 n2) hP2 a2 (fun p hp => (hfu.2 p hp).2.2) hs hsz hT2.1 hT2.2 (min (pN P) sz) 0 FU (by omega) (by unfold FU; omega)
  have q9 : F_X7_firstUnlikeTold t m2 = some (cI (unl (gL m (107 + 1 * s)) (has0 (evE P L (kI 0) (kI 0))) (min (pN P) sz) 0), m2) := by
    unfold F_X7_firstUnlikeTold
    rw [if_pos h.1, iI_lit, q8, unl_congr _ _ (fun j _ _ => a3.2.1 (107 + 1 * s) j)]
    rfl
  unfold F_X7_lotsBehind_26
  rw [gdS_yes h.1, bnd_eq a1, bnd_eq q9]
  cases q : unl (gL m (107 + 1 * s)) (has0 (evE P L (kI 0) (kI 0))) (min (pN P) sz) 0 with
  | none => exact ⟨_, _, if_pos rfl, rfl, a3⟩
  | some j =>
    have hj : j < 2147483648 := by
      have : ∀ c i, unl (gL m (107 + 1 * s)) (has0 (evE P L (kI 0) (kI 0))) c i = some j → j < i + c := by
        intro c
        induction c with
        | zero => exact fun i h => (by cases h)
        | succ c ih =>
          intro i h
          unfold unl at h
          split at h
          · have := ih (i + 1) h; omega
          · cases h; omega
      have := this _ _ q
      omega
    exact ⟨_, _, if_neg (by rw [cI_some, kI_iI, iI_eq (by omega) (by omega)]; omega), rfl, a3⟩
theorem lots8_loop {P : Pa} {s sz c d k u : Nat} {L : Nat → Nat} {e' : Ev} {el : Nat → Int64} (hok : PaOk P) (hs : s < 6) (hsz : sz ≤ 60) (hk : k + (c + 1) = pN P) (hU : Us P k u L) (hS : Sm (lsE P L k) e') (ih : ∀ (u : Nat) (L : Nat → Nat) (e' : Ev) (m : Mm), PC m P → Told m s sz → gL m (107 + 1 * s) = el → RC m (50 + 5 * (k + 1)) e' → Sm (lsE P L (k + 1)) e' → LotC m (50 + 5 * (k + 1)) L → Us P (k + 1) u L → Wp (R_77 d (kI (k + 1)) (kI u) m) fun v m' => v = kI (ltF P el (min (pN P) sz) c (k + 1) u L) ∧ Fr (SKL (k + 1)) m m') : ∀ mc i cnt f (m : Mm), i + mc = pN P → mc < f → PC m P → Told m s sz → gL m (107 + 1 * s) = el → RC m (50 + 5 * k) e' → LotC m (50 + 5 * k) L → Wp (F_X7_lotsBehind_66 (R_77 d) f (kI k) (kI u) (50 + 5 * k) (50 + 5 * (k + 1)) (kI cnt) (kI i) m) fun v m' => v = kI (cnt + fs (fun w => if bt u w = 0 then ltF P el (min (pN P) sz) c (k + 1) (u + 2 ^ w) (up L k w) else 0) mc i) ∧ Fr (SKL (k + 1)) m m' := by
  have hn : pN P ≤ 7 := hok.1
  have p2 := p2_n hn
  have hu := hU.2.1
  have sh0 := sh5l k (by omega)
  have sh1 := sh5l (k + 1) (by omega)
  obtain ⟨hw0, he0⟩ := ls_ok hok hU.1
  intro mc
  induction mc with
  | zero =>
    intro i cnt f m hi hf hP hT hel h hL
    obtain ⟨f, rfl⟩ : ∃ g, f = g + 1 := ⟨f - 1, by omega⟩
    rw [F_X7_lotsBehind_66, gdS_yes sh0, gdS_yes sh1, hP.n, if_pos (by rw [kI_le (by omega) (by omega)]; omega)]
    exact ⟨_, _, rfl, rfl, Fr.refl⟩
  | succ mc ihm =>
    intro i cnt f m hi hf hP hT hel h hL
    obtain ⟨f, rfl⟩ : ∃ g, f = g + 1 := ⟨f - 1, by omega⟩
    have efs : ∀ F : Nat → Nat, fs F (mc + 1) i = F i + fs F mc (i + 1) := fun F => rfl
    rw [efs, F_X7_lotsBehind_66, gdS_yes sh0, gdS_yes sh1, hP.n, if_neg (by rw [kI_le (by omega) (by omega)]; omega), bt_bit (by omega) (by omega)]
    rcases bt_2 u i with z | z
    · obtain ⟨o1, o2, o3⟩ := bt_or (u := u) (k := i) (by omega) (by omega) z
      have hU1 := hU.step hn (show k < pN P by omega) (show i < pN P by omega) z
      have hLe : ∀ j, j < k → L j = up L k i j := fun j hj => (up_ne (by omega)).symm
      have hS' : Sm (lsE P (up L k i) k) e' := by rw [← ls_lot hLe]; exact hS
      obtain ⟨w', g', n', rfl⟩ := hS'
      have hw1 := (ls_ok hok (hU1.1.mono (Nat.le_succ k))).1
      have hbd : BdE (setN (lsE P (up L k i) k) w' g' n') := hw1.1
      obtain ⟨_, m2, b1, b2, b3, b4⟩ := become_eq sh1 (show 50 + 5 * (k + 1) ≠ 50 + 5 * k by omega) h hbd
      have fp : Fr (fun a => a = 50 + 5 * (k + 1) + 1) m2 (pI m2 (50 + 5 * (k + 1) + 1) k (kI i)) := Fr.refl.put rfl
      have hP3 : PC (pI m2 (50 + 5 * (k + 1) + 1) k (kI i)) P := (hP.fr b4 (fun a q => by unfold SA at q; omega)).fr fp (fun a q => by omega)
      have h3 : RC (pI m2 (50 + 5 * (k + 1) + 1) k (kI i)) (50 + 5 * (k + 1)) (setN (lsE P (up L k i) k) w' g' n') := b2.frS fp.c (fun a j q => by unfold SE; omega)
      have hL3 : LotC (pI m2 (50 + 5 * (k + 1) + 1) k (kI i)) (50 + 5 * (k + 1)) (up L k i) := by
        refine ⟨fun j hj => ?_, fun j hj => ?_⟩
        · rw [gI_pI]
          by_cases y : j = k
          · rw [if_pos ⟨rfl, y⟩, y, up_at]
          · rw [if_neg (by omega), up_ne y, b3 j hj]
            exact hL.1 j hj
        · by_cases y : j = k
          · rw [y, up_at]; omega
          · rw [up_ne y]; exact hL.2 j hj
      have f3 : Fr (SA (50 + 5 * (k + 1))) m (pI m2 (50 + 5 * (k + 1) + 1) k (kI i)) := b4.trans (fp.mono fun a q => by unfold SA; omega)
      generalize hm3 : pI m2 (50 + 5 * (k + 1) + 1) k (kI i) = m3 at fp hP3 h3 hL3 f3
      have hwk : WfE (k + 1) P (up L k i) (setN (lsE P (up L k i) k) w' g' n') := wf_mono (Nat.le_succ k) hw1
      obtain ⟨m5, c1, c2, c3, c4, c5⟩ := play_eq hU1.1 hP3 h3 hL3 hwk
      have hS5 : Sm (lsE P (up L k i) (k + 1)) (plE P (up L k i) (k + 1) 28 (setN (lsE P (up L k i) k) w' g' n')).1 := by
        rw [← ls_step hok hU1.1]
        exact pl_set 28 _ w' g' n'
      have hP5 := hP3.sp sh1 c3
      have hL5 := hL3.sp sh1 sh1 c3
      have f5 : Fr (SKL (k + 1)) m m5 := (f3.mono fun a q => Or.inr (by unfold SA at q; omega)).trans (c3.mono fun a q => by
        rcases q with q | q
        · exact Or.inr (by unfold SE at q; omega)
        · exact Or.inl q)
      have hT5 := hT.fr f5 (by unfold SKL SL; omega)
      have hel5 : gL m5 (107 + 1 * s) = el := by rw [← hel]; exact funext fun j => f5.2.1 _ j
      obtain ⟨v, m7, d1, rfl, d3⟩ := ih (u + 2 ^ i) (up L k i) _ m5 hP5 hT5 hel5 c2 hS5 hL5 hU1
      have f7 : Fr (SKL (k + 1)) m m7 := f5.trans d3
      rw [if_pos (show kI (bt u i) = iI 0 by rw [z]; rfl), if_pos z, bnd_eq b1, wrI_kI (by omega) (by omega), hm3, kI_a1, bnd_eq c1, o1, bnd_eq d1, nm_eq, kI_add, F_X7_lotsBehind_133, gdS_yes sh0, gdS_yes sh1, nm_eq, kI_a1]
      refine (ihm (i + 1) _ f m7 (by omega) (by omega) (hP.skl f7) (hT.fr f7 (by unfold SKL SL; omega)) (by rw [← hel]; exact funext fun j => f7.2.1 _ j) (h.fr f7 (fun a q => by unfold SKL SL at q; omega)) (hL.fr f7 (fun a q => by unfold SKL SL at q; omega))).mono (fun v m' q => ⟨q.1.trans (by rw [Nat.add_assoc]), f7.trans q.2⟩)
    · rw [if_neg (show ¬ kI (bt u i) = iI 0 by rw [z, iI_lit, kI_eq (by omega) (by omega)]; omega), if_neg (show ¬ bt u i = 0 by omega), Nat.zero_add, F_X7_lotsBehind_133, gdS_yes sh0, gdS_yes sh1, nm_eq, kI_a1]
      exact ihm (i + 1) cnt f m (by omega) (by omega) hP hT hel h hL
theorem lots8 {P : Pa} {s sz : Nat} {el : Nat → Int64} (hok : PaOk P) (hs : s < 6) (hsz : sz ≤ 60) : ∀ c d k u L e' (m : Mm), k + c = pN P → c < d → Us P k u L → Sm (lsE P L k) e' → PC m P → Told m s sz → gL m (107 + 1 * s) = el → RC m (50 + 5 * k) e' → LotC m (50 + 5 * k) L → Wp (R_77 d (kI k) (kI u) m) fun v m' => v = kI (ltF P el (min (pN P) sz) c k u L) ∧ Fr (SKL k) m m' := by
  have hn : pN P ≤ 7 := hok.1
  intro c
  induction c with
  | zero =>
    intro d k u L e' m hk hd hU hS hP hT hel h hL
    obtain ⟨d, rfl⟩ : ∃ x, d = x + 1 := ⟨d - 1, by omega⟩
    have hk : k = pN P := by omega
    subst hk
    show Wp (B_X7_lotsBehind (R_77 d) (kI (pN P)) (kI u) m) _
    unfold B_X7_lotsBehind
    rw [rd_kI (by omega) (by omega), hP.n, if_pos (by rw [kI_le (by omega) (by omega)]; omega)]
    refine (leaf8 hok hs hsz hP hT (by omega) h hS hL hU.1).mono (fun v m' q => ⟨q.1.trans (by rw [hel]; rfl), q.2.mono fun a z => Or.inr (by unfold SE at z; omega)⟩)
  | succ c ih =>
    intro d k u L e' m hk hd hU hS hP hT hel h hL
    obtain ⟨d, rfl⟩ : ∃ x, d = x + 1 := ⟨d - 1, by omega⟩
    show Wp (B_X7_lotsBehind (R_77 d) (kI k) (kI u) m) _
    unfold B_X7_lotsBehind
    rw [rd_kI (by omega) (by omega), hP.n, if_neg (by rw [kI_le (by omega) (by omega)]; omega), kI_a1, if_pos (by rw [iI_lit, kI_lt (by omega) (by omega)]; omega), rd_kI (by omega) (by omega)]
    refine (lots8_loop (c := c) (d := d) hok hs hsz hk hU hS (fun u' L' e1 m1 q1 q2 q3 q4 q5 q6 q7 => ih d (k + 1) u' L' e1 m1 (by omega) (by omega) q7 q5 q1 q2 q3 q4 q6) (pN P) 0 0 FU m (by omega) (by unfold FU; omega) hP hT hel h hL).mono (fun v m' q => ⟨q.1.trans (by rw [Nat.zero_add]; rfl), q.2.mono fun a z => z.up⟩)
def C9L (a j : Nat) : Prop := a = 117 ∨ CX9 1 a j
/-- the reference's lot, whatever stands behind -/
def Lt9 (P : Pa) (m : Mm) (k : Nat) (L : Nat → Nat) : Prop := ∃ L' : Nat → Nat, (∀ j, j < pN P → gI m 117 j = kI (L' j)) ∧ ∀ j, j < k → L' j = L j
