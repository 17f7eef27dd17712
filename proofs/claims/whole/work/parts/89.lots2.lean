/-! LOTS OF BOTH -/
def SKL (k a : Nat) : Prop := SL a ∨ (50 + 5 * k ≤ a ∧ a ≤ 99)
theorem SKL.up {k a : Nat} (h : SKL (k + 1) a) : SKL k a := by
  unfold SKL at h ⊢
  rcases h with h | h
  · exact Or.inl h
  · exact Or.inr (by omega)
/-- what is told lies as heard -/
def Told (m : Mm) (s sz : Nat) : Prop := gI m 33 8 = kI sz ∧ gR m 33 7 = 107 + 1 * s
theorem Told.fr {S : Nat → Prop} {m m1 : Mm} {s sz : Nat} (h : Told m s sz) (hf : Fr S m m1) (hs : ¬ S 33) : Told m1 s sz := ⟨by rw [hf.1 33 hs]; exact h.1, by rw [hf.2.2]; exact h.2⟩
theorem PC.skl {m m1 : Mm} {P : Pa} {k : Nat} (h : PC m P) (hf : Fr (SKL k) m m1) : PC m1 P := h.fr hf (fun a q => by unfold SKL SL at q; omega)
theorem leaf8 {P : Pa} {L : Nat → Nat} {s sz t : Nat} {e' : Ev} {m : Mm} {g : Int32 → Int32 → Mm → Option (Int32 × Mm)} (hok : PaOk P) (hs : s < 6) (hsz : sz ≤ 60) (hP : PC m P) (hT : Told m s sz) (ht : 50 ≤ t) (h : RC m t e') (hS : Sm (lsE P L (pN P)) e') (hL : LotC m t L) (hl : LotOk (pN P) P L) : Wp (F_X7_lotsBehind_26 g t m) fun v m' => v = kI (if unl (gL m (107 + 1 * s)) (has0 (evE P L (kI 0) (kI 0))) (min (pN P) sz) 0 = none then 1 else 0) ∧ Fr (SE t) m m' := by
  have hn := hok.1
  obtain ⟨w, g', n, rfl⟩ := hS
  have hw : WfE (pN P) P L (setN (lsE P L (pN P)) w g' n) := (ls_ok hok hl).1
  obtain ⟨_, m2, a1, a2, a3⟩ := close_eq hP h hL hl hw
  obtain ⟨w2, g2, n2, hcl⟩ := cl_set (P := P) (lot := L) (e := lsE P L (pN P)) (w := w) (g := g') (n := n)
  rw [hcl, ← ls_ev] at a2
  obtain ⟨hwe, hee, hfu⟩ := ev_ok hok hl (kI 0) (kI 0)
  have hshE := shE h.1
  have hP2 : PC m2 P := hP.fr a3 (fun a q => by unfold SE at q; omega)
  have hT2 := hT.fr a3 (by unfold SE; omega)
  have q8 := unl8 (v := setN (evE P L (kI 0) (kI 0)) w2 g2 n2) hP2 a2 (fun p hp => (hfu.2 p hp).2.2) hs hsz hT2.1 hT2.2 (min (pN P) sz) 0 FU (by omega) (by unfold FU; omega)
  have q9 : F_X7_firstUnlikeTold t m2 = some (cI (unl (gL m (107 + 1 * s)) (has0 (evE P L (kI 0) (kI 0))) (min (pN P) sz) 0), m2) := by
    unfold F_X7_firstUnlikeTold
    rw [if_pos h.1, iI_lit, q8, unl_congr _ _ (fun j _ _ => a3.2.1 (107 + 1 * s) j)]
    rfl
  unfold F_X7_lotsBehind_26
  rw [gdS_yes h.1, bnd_eq a1, bnd_eq q9]
  cases q : unl (gL m (107 + 1 * s)) (has0 (evE P L (kI 0) (kI 0))) (min (pN P) sz) 0 with
  | none => exact ⟨_, _, if_pos rfl, rfl, a3⟩
  | some j =>
    have hj : j < 2147483648 := by
      have : ∀ c i, unl (gL m (107 + 1 * s)) (has0 (evE P L (kI 0) (kI 0))) c i = some j → j < i + c := by
        intro c
        induction c with
        | zero => exact fun i h => (by cases h)
        | succ c ih =>
          intro i h
          unfold unl at h
          split at h
          · have := ih (i + 1) h; omega
          · cases h; omega
      have := this _ _ q
      omega
    exact ⟨_, _, if_neg (by rw [cI_some, kI_iI, iI_eq (by omega) (by omega)]; omega), rfl, a3⟩
theorem lots8_loop {P : Pa} {s sz c d k u : Nat} {L : Nat → Nat} {e' : Ev} {el : Nat → Int64} (hok : PaOk P) (hs : s < 6) (hsz : sz ≤ 60) (hk : k + (c + 1) = pN P) (hU : Us P k u L) (hS : Sm (lsE P L k) e') (ih : ∀ (u : Nat) (L : Nat → Nat) (e' : Ev) (m : Mm), PC m P → Told m s sz → gL m (107 + 1 * s) = el → RC m (50 + 5 * (k + 1)) e' → Sm (lsE P L (k + 1)) e' → LotC m (50 + 5 * (k + 1)) L → Us P (k + 1) u L → Wp (R_89 d (kI (k + 1)) (kI u) m) fun v m' => v = kI (ltF P el (min (pN P) sz) c (k + 1) u L) ∧ Fr (SKL (k + 1)) m m') : ∀ mc i cnt f (m : Mm), i + mc = pN P → mc < f → PC m P → Told m s sz → gL m (107 + 1 * s) = el → RC m (50 + 5 * k) e' → LotC m (50 + 5 * k) L → Wp (F_X7_lotsBehind_66 (R_89 d) f (kI k) (kI u) (50 + 5 * k) (50 + 5 * (k + 1)) (kI cnt) (kI i) m) fun v m' => v = kI (cnt + fs (fun w => if bt u w = 0 then ltF P el (min (pN P) sz) c (k + 1) (u + 2 ^ w) (up L k w) else 0) mc i) ∧ Fr (SKL (k + 1)) m m' := by
  have hn : pN P ≤ 7 := hok.1
  have p2 := p2_n hn
  have hu := hU.2.1
  have sh0 := sh5l k (by omega)
  have sh1 := sh5l (k + 1) (by omega)
  obtain ⟨hw0, he0⟩ := ls_ok hok hU.1
  intro mc
  induction mc with
  | zero =>
    intro i cnt f m hi hf hP hT hel h hL
    obtain ⟨f, rfl⟩ : ∃ g, f = g + 1 := ⟨f - 1, by omega⟩
    rw [F_X7_lotsBehind_66, gdS_yes sh0, gdS_yes sh1, hP.n, if_pos (by rw [kI_le (by omega) (by omega)]; omega)]
    exact ⟨_, _, rfl, rfl, Fr.refl⟩
  | succ mc ihm =>
    intro i cnt f m hi hf hP hT hel h hL
    obtain ⟨f, rfl⟩ : ∃ g, f = g + 1 := ⟨f - 1, by omega⟩
    have efs : ∀ F : Nat → Nat, fs F (mc + 1) i = F i + fs F mc (i + 1) := fun F => rfl
    rw [efs, F_X7_lotsBehind_66, gdS_yes sh0, gdS_yes sh1, hP.n, if_neg (by rw [kI_le (by omega) (by omega)]; omega), bt_bit (by omega) (by omega)]
    rcases bt_2 u i with z | z
    · obtain ⟨o1, o2, o3⟩ := bt_or (u := u) (k := i) (by omega) (by omega) z
      have hU1 := hU.step hn (show k < pN P by omega) (show i < pN P by omega) z
      have hLe : ∀ j, j < k → L j = up L k i j := fun j hj => (up_ne (by omega)).symm
      have hS' : Sm (lsE P (up L k i) k) e' := by rw [← ls_lot hLe]; exact hS
      obtain ⟨w', g', n', rfl⟩ := hS'
      have hw1 := (ls_ok hok (hU1.1.mono (Nat.le_succ k))).1
      have hbd : BdE (setN (lsE P (up L k i) k) w' g' n') := hw1.1
      obtain ⟨_, m2, b1, b2, b3, b4⟩ := become_eq sh1 (show 50 + 5 * (k + 1) ≠ 50 + 5 * k by omega) h hbd
      have fp : Fr (fun a => a = 50 + 5 * (k + 1) + 1) m2 (pI m2 (50 + 5 * (k + 1) + 1) k (kI i)) := Fr.refl.put rfl
      have hP3 : PC (pI m2 (50 + 5 * (k + 1) + 1) k (kI i)) P := (hP.fr b4 (fun a q => by unfold SA at q; omega)).fr fp (fun a q => by omega)
      have h3 : RC (pI m2 (50 + 5 * (k + 1) + 1) k (kI i)) (50 + 5 * (k + 1)) (setN (lsE P (up L k i) k) w' g' n') := b2.frS fp.c (fun a j q => by unfold SE; omega)
      have hL3 : LotC (pI m2 (50 + 5 * (k + 1) + 1) k (kI i)) (50 + 5 * (k + 1)) (up L k i) := by
        refine ⟨fun j hj => ?_, fun j hj => ?_⟩
        · rw [gI_pI]
          by_cases y : j = k
          · rw [if_pos ⟨rfl, y⟩, y, up_at]
          · rw [if_neg (by omega), up_ne y, b3 j hj]
            exact hL.1 j hj
        · by_cases y : j = k
          · rw [y, up_at]; omega
          · rw [up_ne y]; exact hL.2 j hj
      have f3 : Fr (SA (50 + 5 * (k + 1))) m (pI m2 (50 + 5 * (k + 1) + 1) k (kI i)) := b4.trans (fp.mono fun a q => by unfold SA; omega)
      generalize hm3 : pI m2 (50 + 5 * (k + 1) + 1) k (kI i) = m3 at fp hP3 h3 hL3 f3
      have hwk : WfE (k + 1) P (up L k i) (setN (lsE P (up L k i) k) w' g' n') := wf_mono (Nat.le_succ k) hw1
      obtain ⟨m5, c1, c2, c3, c4, c5⟩ := play_eq hU1.1 hP3 h3 hL3 hwk
      have hS5 : Sm (lsE P (up L k i) (k + 1)) (plE P (up L k i) (k + 1) 28 (setN (lsE P (up L k i) k) w' g' n')).1 := by
        rw [← ls_step hok hU1.1]
        exact pl_set 28 _ w' g' n'
      have hP5 := hP3.sp sh1 c3
      have hL5 := hL3.sp sh1 sh1 c3
      have f5 : Fr (SKL (k + 1)) m m5 := (f3.mono fun a q => Or.inr (by unfold SA at q; omega)).trans (c3.mono fun a q => by
        rcases q with q | q
        · exact Or.inr (by unfold SE at q; omega)
        · exact Or.inl q)
      have hT5 := hT.fr f5 (by unfold SKL SL; omega)
      have hel5 : gL m5 (107 + 1 * s) = el := by rw [← hel]; exact funext fun j => f5.2.1 _ j
      obtain ⟨v, m7, d1, rfl, d3⟩ := ih (u + 2 ^ i) (up L k i) _ m5 hP5 hT5 hel5 c2 hS5 hL5 hU1
      have f7 : Fr (SKL (k + 1)) m m7 := f5.trans d3
      rw [if_pos (show kI (bt u i) = iI 0 by rw [z]; rfl), if_pos z, bnd_eq b1, wrI_kI (by omega) (by omega), hm3, kI_a1, bnd_eq c1, o1, bnd_eq d1, nm_eq, kI_add, F_X7_lotsBehind_133, gdS_yes sh0, gdS_yes sh1, nm_eq, kI_a1]
      refine (ihm (i + 1) _ f m7 (by omega) (by omega) (hP.skl f7) (hT.fr f7 (by unfold SKL SL; omega)) (by rw [← hel]; exact funext fun j => f7.2.1 _ j) (h.fr f7 (fun a q => by unfold SKL SL at q; omega)) (hL.fr f7 (fun a q => by unfold SKL SL at q; omega))).mono (fun v m' q => ⟨q.1.trans (by rw [Nat.add_assoc]), f7.trans q.2⟩)
    · rw [if_neg (show ¬ kI (bt u i) = iI 0 by rw [z, iI_lit, kI_eq (by omega) (by omega)]; omega), if_neg (show ¬ bt u i = 0 by omega), Nat.zero_add, F_X7_lotsBehind_133, gdS_yes sh0, gdS_yes sh1, nm_eq, kI_a1]
      exact ihm (i + 1) cnt f m (by omega) (by omega) hP hT hel h hL
theorem lots8 {P : Pa} {s sz : Nat} {el : Nat → Int64} (hok : PaOk P) (hs : s < 6) (hsz : sz ≤ 60) : ∀ c d k u L e' (m : Mm), k + c = pN P → c < d → Us P k u L → Sm (lsE P L k) e' → PC m P → Told m s sz → gL m (107 + 1 * s) = el → RC m (50 + 5 * k) e' → LotC m (50 + 5 * k) L → Wp (R_89 d (kI k) (kI u) m) fun v m' => v = kI (ltF P el (min (pN P) sz) c k u L) ∧ Fr (SKL k) m m' := by
  have hn : pN P ≤ 7 := hok.1
  intro c
  induction c with
  | zero =>
    intro d k u L e' m hk hd hU hS hP hT hel h hL
    obtain ⟨d, rfl⟩ : ∃ x, d = x + 1 := ⟨d - 1, by omega⟩
    have hk : k = pN P := by omega
    subst hk
    show Wp (B_X7_lotsBehind (R_89 d) (kI (pN P)) (kI u) m) _
    unfold B_X7_lotsBehind
    rw [rd_kI (by omega) (by omega), hP.n, if_pos (by rw [kI_le (by omega) (by omega)]; omega)]
    refine (leaf8 hok hs hsz hP hT (by omega) h hS hL hU.1).mono (fun v m' q => ⟨q.1.trans (by rw [hel]; rfl), q.2.mono fun a z => Or.inr (by unfold SE at z; omega)⟩)
  | succ c ih =>
    intro d k u L e' m hk hd hU hS hP hT hel h hL
    obtain ⟨d, rfl⟩ : ∃ x, d = x + 1 := ⟨d - 1, by omega⟩
    show Wp (B_X7_lotsBehind (R_89 d) (kI k) (kI u) m) _
    unfold B_X7_lotsBehind
    rw [rd_kI (by omega) (by omega), hP.n, if_neg (by rw [kI_le (by omega) (by omega)]; omega), kI_a1, if_pos (by rw [iI_lit, kI_lt (by omega) (by omega)]; omega), rd_kI (by omega) (by omega)]
    refine (lots8_loop (c := c) (d := d) hok hs hsz hk hU hS (fun u' L' e1 m1 q1 q2 q3 q4 q5 q6 q7 => ih d (k + 1) u' L' e1 m1 (by omega) (by omega) q7 q5 q1 q2 q3 q4 q6) (pN P) 0 0 FU m (by omega) (by unfold FU; omega) hP hT hel h hL).mono (fun v m' q => ⟨q.1.trans (by rw [Nat.zero_add]; rfl), q.2.mono fun a z => z.up⟩)
def C9L (a j : Nat) : Prop := a = 117 ∨ CX9 1 a j
theorem PR.c9l {m m1 : Mm} {P : Pa} (h : PR m P) (hf : FrC C9L m m1) : PR m1 P := h.fr hf (fun a j q z => by unfold C9L CX9 at q; unfold CP at z; omega)
/-- the reference's lot, whatever stands behind -/
def Lt9 (P : Pa) (m : Mm) (k : Nat) (L : Nat → Nat) : Prop := ∃ L' : Nat → Nat, (∀ j, j < pN P → gI m 117 j = kI (L' j)) ∧ ∀ j, j < k → L' j = L j
theorem lots9_loop {P : Pa} {s sz c d k u : Nat} {L : Nat → Nat} {el : Nat → Int64} (hok : PaOk P) (hs : s < 6) (hsz : sz ≤ 60) (hk : k + (c + 1) = pN P) (hU : Us P k u L) (ih : ∀ (u : Nat) (L : Nat → Nat) (m : Mm), PR m P → (∀ j, j < pN P → gI m 117 j = kI (L j)) → Us P (k + 1) u L → gI m 154 s = kI sz → (fun j => gL m 155 (60 * s + j)) = el → ∃ m', R_200 d (kI s) (kI (k + 1)) (kI u) m = some (kI (ltF P el (min (pN P) sz) c (k + 1) u L), m') ∧ Lt9 P m' (k + 1) L ∧ FrC C9L m m') : ∀ mc i cnt f (m : Mm), i + mc = pN P → mc < f → PR m P → Lt9 P m k L → gI m 154 s = kI sz → (fun j => gL m 155 (60 * s + j)) = el → ∃ m', F_X9_goLots_30 (R_200 d) f (kI s) (kI k) (kI u) (kI cnt) (kI i) m = some (kI (cnt + fs (fun w => if bt u w = 0 then ltF P el (min (pN P) sz) c (k + 1) (u + 2 ^ w) (up L k w) else 0) mc i), m') ∧ Lt9 P m' k L ∧ FrC C9L m m' := by
  have hn : pN P ≤ 7 := hok.1
  have p2 := p2_n hn
  have hu := hU.2.1
  intro mc
  induction mc with
  | zero =>
    intro i cnt f m hi hf hP hL h154 hel
    obtain ⟨f, rfl⟩ : ∃ g, f = g + 1 := ⟨f - 1, by omega⟩
    refine ⟨m, ?_, hL, FrC.refl⟩
    rw [F_X9_goLots_30, hP.n, if_pos (by rw [kI_le (by omega) (by omega)]; omega)]
    rfl
  | succ mc ihm =>
    intro i cnt f m hi hf hP hL h154 hel
    obtain ⟨f, rfl⟩ : ∃ g, f = g + 1 := ⟨f - 1, by omega⟩
    have efs : ∀ F : Nat → Nat, fs F (mc + 1) i = F i + fs F mc (i + 1) := fun F => rfl
    rw [efs, F_X9_goLots_30, hP.n, if_neg (by rw [kI_le (by omega) (by omega)]; omega), bnd_eq (bit_is (by omega) (by omega))]
    rcases bt_2 u i with z | z
    · obtain ⟨o1, o2, o3⟩ := bt_or (u := u) (k := i) (by omega) (by omega) z
      have hU1 := hU.step hn (show k < pN P by omega) (show i < pN P by omega) z
      obtain ⟨L', l1, l2⟩ := hL
      have f3 : FrC C9L m (pI m 117 k (kI i)) := FrC.refl.put (Or.inl rfl)
      have hP3 := hP.c9l f3
      have hU2 : Us P (k + 1) (u + 2 ^ i) (up L' k i) := by
        refine Us.step hn ⟨⟨hU.1.1, fun a b ha hb he => ?_, fun a ha => ?_⟩, hU.2.1, fun j hj => ?_⟩ (by omega) (by omega) z
        · rw [l2 a ha, l2 b hb] at he; exact hU.1.2.1 a b ha hb he
        · rw [l2 a ha]; exact hU.1.2.2 a ha
        · rw [l2 j hj]; exact hU.2.2 j hj
      obtain ⟨m5, i1, ⟨L2, i2, i3⟩, i4⟩ := ih (u + 2 ^ i) (up L' k i) (pI m 117 k (kI i)) hP3 (fun j hj => by
        rw [gI_pI]
        by_cases y : j = k
        · rw [if_pos ⟨rfl, y⟩, y, up_at]
        · rw [if_neg (by omega), up_ne y]; exact l1 j hj) hU2 (by rw [f3.1 154 s (by unfold C9L CX9; omega)]; exact h154) (by rw [← hel]; rfl)
      have hlt : ltF P el (min (pN P) sz) c (k + 1) (u + 2 ^ i) (up L' k i) = ltF P el (min (pN P) sz) c (k + 1) (u + 2 ^ i) (up L k i) := lt_congr hok (fun _ _ => rfl) c (k + 1) _ _ _ (by omega) hU2 (fun j hj => by
        by_cases y : j = k
        · rw [y, up_at, up_at]
        · rw [up_ne y, up_ne y]; exact l2 j (by omega))
      rw [hlt] at i1
      have f5 : FrC C9L m m5 := f3.trans i4
      rw [if_neg (show ¬ kI (bt u i) = iI 1 by rw [z, iI_lit, kI_eq (by omega) (by omega)]; omega), if_pos z, wrI_kI (by omega) (by omega), kI_a1, o1, bnd_eq i1, nm_eq, kI_add, F_X9_goLots_79, nm_eq, kI_a1]
      obtain ⟨m', j1, j2, j3⟩ := ihm (i + 1) (cnt + ltF P el (min (pN P) sz) c (k + 1) (u + 2 ^ i) (up L k i)) f m5 (by omega) (by omega) (hP.c9l f5) ⟨L2, i2, fun j hj => by rw [i3 j (by omega), up_ne (by omega)]; exact l2 j hj⟩ (by rw [f5.1 154 s (by unfold C9L CX9; omega)]; exact h154) (by rw [← hel]; exact funext fun j => f5.2.1 _ _)
      refine ⟨m', ?_, j2, f5.trans j3⟩
      rw [j1, Nat.add_assoc]
    · rw [if_pos (show kI (bt u i) = iI 1 by rw [z]; rfl), if_neg (show ¬ bt u i = 0 by omega), Nat.zero_add, F_X9_goLots_79, nm_eq, kI_a1]
      exact ihm (i + 1) cnt f m (by omega) (by omega) hP hL h154 hel
theorem lots9 {P : Pa} {s sz : Nat} {el : Nat → Int64} (hok : PaOk P) (hs : s < 6) (hsz : sz ≤ 60) : ∀ c d k u L (m : Mm), k + c = pN P → c < d → PR m P → (∀ j, j < pN P → gI m 117 j = kI (L j)) → Us P k u L → gI m 154 s = kI sz → (fun j => gL m 155 (60 * s + j)) = el → ∃ m', R_200 d (kI s) (kI k) (kI u) m = some (kI (ltF P el (min (pN P) sz) c k u L), m') ∧ Lt9 P m' k L ∧ FrC C9L m m' := by
  have hn : pN P ≤ 7 := hok.1
  intro c
  induction c with
  | zero =>
    intro d k u L m hk hd hP hL hU h154 hel
    obtain ⟨d, rfl⟩ : ∃ x, d = x + 1 := ⟨d - 1, by omega⟩
    have hk : k = pN P := by omega
    subst hk
    obtain ⟨m1, a1, a2⟩ := wrongIn_eq hP hL hU.1 hs hsz h154 (kI 0) (kI 0)
    rw [hel] at a1
    refine ⟨m1, ?_, ⟨L, fun j hj => by rw [a2.1 117 j (by unfold CX9; omega)]; exact hL j hj, fun _ _ => rfl⟩, a2.mono fun a j q => Or.inr q⟩
    show B_X9_goLots (R_200 d) (kI s) (kI (pN P)) (kI u) m = _
    unfold B_X9_goLots
    rw [hP.n, if_pos rfl, bnd_eq a1]
    unfold ltF
    cases q : unl el (has0 (evE P L (kI 0) (kI 0))) (min (pN P) sz) 0 with
    | none => rw [if_pos (show cI none = iI (-2) from rfl), if_pos rfl]; rfl
    | some j =>
      have hj : j < 2147483648 := by
        have : ∀ c i, unl el (has0 (evE P L (kI 0) (kI 0))) c i = some j → j < i + c := by
          intro c
          induction c with
          | zero => exact fun i h => (by cases h)
          | succ c ih =>
            intro i h
            unfold unl at h
            split at h
            · have := ih (i + 1) h; omega
            · cases h; omega
        have := this _ _ q
        omega
      rw [if_neg (by rw [cI_some, kI_iI, iI_eq (by omega) (by omega)]; omega), if_neg (by intro h; cases h)]
      rfl
  | succ c ih =>
    intro d k u L m hk hd hP hL hU h154 hel
    obtain ⟨d, rfl⟩ : ∃ x, d = x + 1 := ⟨d - 1, by omega⟩
    obtain ⟨m', i1, i2, i3⟩ := lots9_loop (c := c) (d := d) hok hs hsz hk hU (fun u' L' m1 q1 q2 q3 q4 q5 => ih d (k + 1) u' L' m1 (by omega) (by omega) q1 q2 q3 q4 q5) (pN P) 0 0 FU m (by omega) (by unfold FU; omega) hP ⟨L, hL, fun _ _ => rfl⟩ h154 hel
    refine ⟨m', ?_, i2, i3⟩
    show B_X9_goLots (R_200 d) (kI s) (kI k) (kI u) m = _
    unfold B_X9_goLots
    rw [hP.n, if_neg (by rw [kI_eq (by omega) (by omega)]; omega)]
    rw [Nat.zero_add] at i1
    exact i1
theorem g_lots (x : Int32) : Good (F_X8_lots x) (F_X9_lots x) := by
  intro μ hI
  rcases bytes_cases hI x with ⟨r, h1, h2, h3⟩ | ⟨s, sz, hs, hsz, rfl, h1, h105, h153, h154, hel⟩
  · refine Good.bad (v := r) hI ?_ ?_
    · unfold F_X8_lots
      rw [bnd_eq h1, if_neg h2]
    · unfold F_X9_lots
      rcases h3 with ⟨q1, rfl⟩ | ⟨q1, q2, q3⟩
      · rw [bnd_eq q1, if_pos k0_eq0]
      · rw [bnd_eq q1, if_neg k1_ne0, bnd_eq q2, if_neg q3, bnd_eq q2]
  · obtain ⟨P, lot, e, hR, hD⟩ := hI.split
    have hn := hR.1.n7
    have hok := hR.1.ok
    have p2 := p2_n hn
    have hR6 := hR.hr (s := s) (sz := sz)
    have hD6 := hD.hr (s := s) (sz := sz) hn
    obtain ⟨m3, a1, a2, a3⟩ := wrap_eq (μ := hrM μ s sz) sh50
    have f3 : FrC CT (hrM μ s sz) m3 := a3.c.mono fun a j q => Or.inl (by unfold SE at q; omega)
    have hP3 := (hR6.th f3).1
    have hT0 : Told (hrM μ s sz) s sz := ⟨by unfold hrM; rw [gI_pI, if_pos ⟨rfl, rfl⟩], by unfold hrM; rw [gR_pI, gR_pR, if_pos ⟨rfl, rfl⟩]⟩
    have hT3 := hT0.fr a3 (by unfold SE; omega)
    obtain ⟨L0, hL0⟩ : ∃ L0 : Nat → Nat, ∀ j, L0 j < 4294967296 ∧ gI m3 51 j = kI (L0 j) := ⟨fun j => Classical.choose (kI_all (gI m3 51 j)), fun j => Classical.choose_spec (kI_all (gI m3 51 j))⟩
    have hLC : LotC m3 (50 + 5 * 0) L0 := ⟨fun j _ => (hL0 j).2, fun j _ => (hL0 j).1⟩
    have hU0 : ∀ L, Us P 0 0 L := fun L => ⟨⟨by omega, fun i j hi => absurd hi (by omega), fun i hi => absurd hi (by omega)⟩, by omega, fun j hj => absurd hj (by omega)⟩
    have hS0 : Sm (lsE P L0 0) (wrE (gI (hrM μ s sz) 50 8) (gI (hrM μ s sz) 50 9) (gI (hrM μ s sz) 50 10)) := ⟨_, _, _, rfl⟩
    have hel8 : gL m3 (107 + 1 * s) = gL μ (107 + 1 * s) := funext fun j => by rw [a3.2.1]; rfl
    obtain ⟨v, m5, b1, rfl, b3⟩ := lots8 hok hs hsz (pN P) 40 0 0 L0 _ m3 (by omega) (by omega) (hU0 L0) hS0 hP3 hT3 hel8 a2 hLC
    have f5 : FrC CT (hrM μ s sz) m5 := f3.trans (b3.c.mono fun a j q => by
      unfold SKL at q
      rcases q with q | q
      · exact Or.inr (Or.inl q)
      · exact Or.inl (by omega))
    have hR5 := hR6.th f5
    have hD5 := hD6.th hn f5
    have h1545 : gI m5 154 s = kI sz := by rw [f5.1 154 s (by unfold CT SL CX9; omega)]; exact h154
    have h1535 : gI m5 153 s = iI (-2) := by rw [f5.1 153 s (by unfold CT SL CX9; omega)]; exact h153
    obtain ⟨m6, c1, c2, c3⟩ := keepLot_eq (lot := lot) hR5.2.1 hD5.2.2.2.2.2.1.2.2.2.2.2.2.2.2
    have hQ6 : PR m6 P := hR5.2.1.fr c3.c (fun a j q z => by unfold CP at z; omega)
    obtain ⟨m8, d1, -, d3⟩ := lots9 (el := fun j => gL m6 155 (60 * s + j)) hok hs hsz (pN P) 40 0 0 lot m6 (by omega) (by omega) hQ6 (fun j hj => by rw [c3.1 117 (by omega)]; exact hD5.2.2.2.2.2.1.2.2.2.2.2.2.2.2 j hj) (hU0 lot) (by rw [c3.1 154 (by omega)]; exact h1545) rfl
    have hQ8 := hQ6.c9l d3
    obtain ⟨m10, e1, e2, e3⟩ := layLot_eq (lot := lot) hQ8 (fun j hj => by rw [d3.1 145 j (by unfold C9L CX9; omega)]; exact c2 j hj)
    have hQ10 : PR m10 P := hQ8.fr e3.c (fun a j q z => by unfold CP at z; omega)
    have f10 : FrC CF m5 m10 := ((c3.c.mono fun a j q => Or.inl (by unfold CT; omega)).trans (d3.mono fun a j q => by
      rcases q with q | q
      · exact Or.inr (Or.inr (Or.inr q))
      · exact Or.inl (Or.inr (Or.inr (Or.inl q))))).trans (e3.c.mono fun a j q => Or.inr (Or.inr (Or.inr q)))
    have fp10 : FrC (fun a j => a = 117 ∨ a = 145 ∨ CX9 1 a j) m5 m10 := ((c3.c.mono fun a j q => Or.inr (Or.inl q)).trans (d3.mono fun a j q => by
      rcases q with q | q
      · exact Or.inl q
      · exact Or.inr (Or.inr q))).trans (e3.c.mono fun a j q => Or.inl q)
    have hP10 : PC m10 P := hR5.1.frC fp10 (fun a j q z => by unfold CX9 at q; unfold CPc at z; omega)
    have hlt : ltF P (fun j => gL m6 155 (60 * s + j)) (min (pN P) sz) (pN P) 0 0 lot = ltF P (gL μ (107 + 1 * s)) (min (pN P) sz) (pN P) 0 0 L0 := lt_congr hok (fun j hj => by
      show gL m6 155 (60 * s + j) = gL μ (107 + 1 * s) j
      rw [c3.2.1, f5.2.1]
      show gL μ 155 (60 * s + j) = gL μ (107 + 1 * s) j
      rw [Nat.one_mul]
      exact (hel j (by omega)).symm) (pN P) 0 0 lot L0 (by omega) (hU0 lot) (fun j hj => absurd hj (by omega))
    rw [hlt] at d1
    refine ⟨kI (ltF P (gL μ (107 + 1 * s)) (min (pN P) sz) (pN P) 0 0 L0), m5, m10, ?_, ?_, Inv.join (hR5.cf f10 hP10 hQ10) (hD5.lay hn f10 e2)⟩
    · unfold F_X8_lots F_X7_lotsAsTold
      rw [bnd_eq h1, if_pos rfl, rd_kI (by omega) (by omega), rd_kI (by omega) (by omega), h105, bnd_eq (hear_eq hs), bnd_id, iI_lit, rd_kI (by omega) (by omega)]
      show (bnd (F_X2_wrapAll 50 (hrM μ s sz)) fun _ m3 => bnd (R_89 40 (kI 0) (kI 0) m3) fun v m => some (v, m)) = _
      rw [bnd_eq a1, bnd_id]
      exact b1
    · unfold F_X9_lots
      have d1 : F_X9_goLots (kI s) (iI 0) (iI 0) m6 = _ := d1
      rw [bnd_eq (isShelf9_yes hs), if_neg k1_ne0, bnd_eq (rowFault_0 hs h1535), if_pos (by rw [iI_le2 (by omega) (by omega)]; omega), bnd_eq c1, bnd_eq d1, bnd_eq e1]
