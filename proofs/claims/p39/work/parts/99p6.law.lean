/-! p39, THE LAW'S WALK -/
/-- it comes to its end -/
def So (F : Option (Unit × Mm)) : Prop := ∃ μ, F = some ((), μ)
/-- all that is taken in the evening -/
def sTk (P : Pa) (lot : Nat → Nat) : Nat := fs (eT (evE P lot (kI 0) (kI 0))) (pN P) 0
theorem fs_succ {f : Nat → Nat} {n : Nat} : fs f (n + 1) 0 = fs f n 0 + f n := by
  rw [fs_split, Nat.zero_add]
  rfl
theorem sTk_le {P : Pa} {lot : Nat → Nat} (hok : PaOk P) (hl : LotOk (pN P) P lot) : sTk P lot ≤ 21 := by
  obtain ⟨h1, -⟩ := ev_prop hok hl (kI 0) (kI 0)
  have := fs_le (f := eT (evE P lot (kI 0) (kI 0))) (g := fun _ => pM P) (pN P) 0 (fun j _ _ => h1 j)
  rw [fs_const] at this
  have h2 := Nat.mul_le_mul hok.1 hok.2.2.2.2.2.1
  unfold sTk
  omega
theorem vv_n {P : Pa} {lot : Nat → Nat} (hok : PaOk P) (hl : LotOk (pN P) P lot) : eN (evE P lot (kI 0) (kI 0)) = kI (pN P + sTk P lot) := by
  obtain ⟨-, h2⟩ := ev_prop hok hl (kI 0) (kI 0)
  obtain ⟨hw, he, hf⟩ := ev_ok hok hl (kI 0) (kI 0)
  have h3 := tot_fs hok hw he
  have h2 : eN (evE P lot (kI 0) (kI 0)) = kI (0 + tot (evE P lot (kI 0) (kI 0))) := h2
  rw [h2, h3, Nat.zero_add]
  rfl
theorem cs_0 {P : Pa} (h : 1 ≤ pM P) {w g n : Int32} : ∀ c i, cS P (wrE w g n) c i = 0
  | 0, _ => rfl
  | c + 1, i => by
    show (if pM P ≤ 0 then 1 else 0) + cS P (wrE w g n) c (i + 1) = 0
    rw [if_neg (by omega), cs_0 h c (i + 1)]
theorem z00 : kI 0 = iI 0 := rfl
theorem z11 : kI 1 = iI 1 := rfl
theorem neg2_lt : iI (-2) < iI 0 := by decide +kernel
theorem kI_pos {k : Nat} (h : k < 2147483648) : ¬ kI k < iI 0 := by rw [iI_lit, kI_lt h (by omega)]; omega
section WALK
variable {SC : SCT} {n2 : Nat} {P : Pa} {lot : Nat → Nat}
theorem l729 {s : Nat} (hn : pN P ≤ 6) (hl : LotOk (pN P) P lot) : ∀ c j f m e, j + c = pN P → c < f → Wk m P lot e → eP e = j → eR e = none → eN e = kI (pN P + s + j) → So (F_L_law_729 SC n2 f (kI (pN P)) (kI s) (kI j) m) := by
  intro c
  induction c with
  | zero =>
    intro j f m e hj hf hX h1 h2 h3
    obtain ⟨f, rfl⟩ : ∃ g, f = g + 1 := ⟨f - 1, by omega⟩
    have hj : j = pN P := by omega
    have hc : cu P lot e = none := by
      unfold cu
      rw [h2]
      exact if_neg (by omega)
    have t := k_turn hX
    rw [hc, cI_none] at t
    have c1 := k_count1 hX
    rw [show pN P - eP e = 0 by omega] at c1
    have l2 := k_led2 hX
    refine ⟨m, ?_⟩
    rw [F_L_law_729, bnd_eq t, if_pos neg2_lt, if_pos (by rw [hj]), bnd_eq c1, if_pos z00, bnd_eq l2, if_pos]
    rw [h3, iI_lit, kI_mul, kI_add]
    congr 1
    omega
  | succ c ih =>
    intro j f m e hj hf hX h1 h2 h3
    obtain ⟨f, rfl⟩ : ∃ g, f = g + 1 := ⟨f - 1, by omega⟩
    have hc : cu P lot e = some (lot (eP e)) := by
      unfold cu
      rw [h2]
      exact if_pos (by omega)
    have hp := hl.2.2 (eP e) (by omega)
    have t := k_turn hX
    rw [hc, cI_some] at t
    obtain ⟨m1, o1, o2⟩ := k_open hX hc
    rw [h1] at o1
    have o3 := k_of11 o2 hp
    have e11 : eH (opE (lot (eP e)) e) (lot (eP e)) = some (eP e) := up_at
    rw [e11, cI_some, h1] at o3
    have o4 := k_of13 o2 (k := j) (by omega) (by show j < eP e + 1; omega)
    have r := ih (j + 1) f m1 _ (by omega) (by omega) o2 (by show eP e + 1 = j + 1; rw [h1]) rfl (by
      show eN e + kI 1 = _
      rw [h3, kI_add, Nat.add_assoc (pN P + s)])
    rw [h1] at t
    rw [F_L_law_729, bnd_eq t, if_neg (kI_pos (by rw [h1] at hp; omega)), bnd_eq t, bnd_eq o1, if_pos rfl, bnd_eq o3, if_pos rfl, bnd_eq o4, if_pos z00, nm_eq, iI_lit, kI_add]
    exact r
theorem l649 (h0 : 0 < pN P) (hn : pN P ≤ 6) (hok : PaOk P) (hl : LotOk (pN P) P lot) : ∀ c p f m, p + c = pN P → c < f → Wk m P lot (evE P lot (kI 0) (kI 0)) → So (F_L_law_649 SC n2 f (kI (pN P)) (kI (sTk P lot)) (kI p) m) := by
  obtain ⟨hw, he, hf7⟩ := ev_ok hok hl (kI 0) (kI 0)
  intro c
  induction c with
  | zero =>
    intro p f m hp hf hX
    obtain ⟨f, rfl⟩ : ∃ g, f = g + 1 := ⟨f - 1, by omega⟩
    obtain ⟨m1, a1, a2⟩ := k_anew hX
    have c1 := k_count1 a2
    have c1 : F_X8_count (iI 1) m1 = some (kI (pN P), m1) := c1
    have c2 := k_count2 a2
    rw [cs_0 hok.2.2.2.2.1] at c2
    rw [F_L_law_649, if_pos (by rw [kI_le (by omega) (by omega)]; omega), bnd_eq a1, if_pos rfl, bnd_eq c1, if_pos rfl, bnd_eq c2, if_pos z00]
    exact l729 hn hl (pN P) 0 FU m1 _ (by omega) (by unfold FU; omega) a2 rfl rfl (vv_n hok hl)
  | succ c ih =>
    intro p f m hp hf hX
    obtain ⟨f, rfl⟩ : ∃ g, f = g + 1 := ⟨f - 1, by omega⟩
    have hpn : p < pN P := by omega
    have o1 := k_of11 hX hpn
    rw [show eH (evE P lot (kI 0) (kI 0)) p = some (has0 (evE P lot (kI 0) (kI 0)) p) from (hf7.2 p hpn).2.2, cI_some] at o1
    obtain ⟨m1, b1, b2, -⟩ := k_evening (n := p) (q := 0) hX h0 (by omega) (Or.inr ⟨Or.inl rfl, hpn⟩)
    have b1 : F_X8_evening (kI p) (iI 0) m = some (kI (has0 (evE P lot (kI 0) (kI 0)) p), m1) := b1
    have o2 := k_of12 b2 hpn
    obtain ⟨m2, d1, d2, -⟩ := k_evening (n := p) (q := 3) b2 h0 (by omega) (Or.inr ⟨Or.inr rfl, hpn⟩)
    have d1 : F_X8_evening (kI p) (iI 3) m1 = some (kI (eT (evE P lot (kI 0) (kI 0)) p), m2) := d1
    rw [F_L_law_649, if_neg (by rw [kI_le (by omega) (by omega)]; omega), bnd_eq o1, bnd_eq b1, if_pos rfl, bnd_eq o2, bnd_eq d1, if_pos rfl, nm_eq, iI_lit, kI_add]
    exact ih (p + 1) f m2 (by omega) (by omega) d2
/-- gone on, chosen once where it is so: the evening in thought is the evening in deed -/
theorem l_on {e : Ev} (h0 : 0 < pN P) (hok : PaOk P) (hl : LotOk (pN P) P lot) (he : e = wrE (iI (-1)) (iI (-1)) (kI 0)) : WfE (pN P) P lot (plE P lot (pN P) 28 e).1 ∧ eP (plE P lot (pN P) 28 e).1 = pN P ∧ eA (plE P lot (pN P) 28 e).1 = 0 ∧ pN P ≤ (plE P lot (pN P) 28 e).2 ∧ (plE P lot (pN P) 28 e).2 ≤ 100 ∧ (pA P = 1 → agE P lot (plE P lot (pN P) 28 e).1 = evE P lot (kI 0) (kI 0)) ∧ (¬ pA P = 1 → (plE P lot (pN P) 28 e).1 = evE P lot (kI 0) (kI 0)) := by
  subst he
  have w := wf_pl hok hl 28 (wrE (iI (-1)) (iI (-1)) (kI 0)) (left_le hok (Nat.zero_le _)) wf_wr
  obtain ⟨q1, -, q3⟩ := pl_prop (n := 0) hok hl 28 (wrE (iI (-1)) (iI (-1)) (kI 0)) wf_wr TM.wr CN.wr
  have t0 : tot (wrE (iI (-1)) (iI (-1)) (kI 0)) = 0 := rfl
  rw [t0, Nat.add_zero] at q3
  have t1 := tot_fs hok w.1 w.2
  have t2 := fs_le (f := eT (plE P lot (pN P) 28 (wrE (iI (-1)) (iI (-1)) (kI 0))).1) (g := fun _ => pM P) (pN P) 0 (fun j _ _ => q1 j)
  rw [fs_const] at t2
  have t3 := Nat.mul_le_mul hok.1 hok.2.2.2.2.2.1
  have hn := hok.1
  have ev : evE P lot (kI 0) (kI 0) = clE P lot (plE P lot (pN P) 28 (wrE (iI (-1)) (iI (-1)) (kI 0))).1 := ev_wg h0 (kI 0) (kI 0) (iI (-1)) (iI (-1))
  refine ⟨w.1, w.2, by rw [plE_A]; rfl, by omega, by omega, fun ha => ?_, fun ha => ?_⟩
  · rw [ev]
    unfold clE
    rw [if_pos ⟨ha, by omega, by omega⟩]
  · rw [ev]
    unfold clE
    rw [if_neg (fun z => ha z.1)]
theorem l627 {c : Nat} {m : Mm} (h0 : 0 < pN P) (hn : pN P ≤ 6) (hok : PaOk P) (hl : LotOk (pN P) P lot) (hc : pN P ≤ c ∧ c ≤ 100) (hX : Wk m P lot (evE P lot (kI 0) (kI 0))) : So (F_L_law_627 SC n2 (kI (pN P)) (kI (sTk P lot)) (iI 0) (kI c) m) := by
  have l2 := k_led2 hX
  rw [vv_n hok hl] at l2
  unfold F_L_law_627
  rw [if_neg (by rw [iI_lit, kI_add, kI_lt (by omega) (by omega)]; omega), bnd_eq l2, kI_add, if_pos rfl]
  exact l649 h0 hn hok hl (pN P) 0 FU m (by omega) (by unfold FU; omega) hX
/-! the least and the most -/
theorem mxS_s {S : Nat → Nat} : ∀ c i g, mxS S (c + 1) i g = (if mxS S c i g < S (i + c) then S (i + c) else mxS S c i g)
  | 0, i, g => rfl
  | c + 1, i, g => by
    have := mxS_s (S := S) c (i + 1) (if g < S i then S i else g)
    rw [show i + 1 + c = i + (c + 1) by omega] at this
    exact this
theorem mnS_s {S : Nat → Nat} : ∀ c i g, mnS S (c + 1) i g = (if S (i + c) < mnS S c i g then S (i + c) else mnS S c i g)
  | 0, i, g => rfl
  | c + 1, i, g => by
    have := mnS_s (S := S) c (i + 1) (if S i < g then S i else g)
    rw [show i + 1 + c = i + (c + 1) by omega] at this
    exact this
theorem mxS_le {S : Nat → Nat} {M : Nat} (h : ∀ p, S p ≤ M) : ∀ c i g, g ≤ M → mxS S c i g ≤ M
  | 0, _, _, q => q
  | c + 1, i, g, q => mxS_le h c (i + 1) _ (by have := h i; split <;> omega)
theorem mnS_le {S : Nat → Nat} {M : Nat} (h : ∀ p, S p ≤ M) : ∀ c i g, g ≤ M → mnS S c i g ≤ M
  | 0, _, _, q => q
  | c + 1, i, g, q => mnS_le h c (i + 1) _ (by have := h i; split <;> omega)
theorem l530 (h0 : 0 < pN P) (hn : pN P ≤ 6) (hok : PaOk P) (hl : LotOk (pN P) P lot) (hA : ∀ m, F_L_again SC m = some (kI (pA P), m)) : ∀ c p f m, p + c = pN P → c < f → Wk m P lot e00 → So (F_L_law_530 SC n2 f (kI (pN P)) (kI (sTk P lot)) (kI (mxS (dS P lot) (pN P - 1) 1 (dS P lot 0)) - kI (mnS (dS P lot) (pN P - 1) 1 (dS P lot 0))) (kI (mnS (dS P lot) p 0 693)) (kI (mxS (dS P lot) p 0 0)) (kI p) m) := by
  intro c
  induction c with
  | zero =>
    intro p f m hp hf hX
    obtain ⟨f, rfl⟩ : ∃ g, f = g + 1 := ⟨f - 1, by omega⟩
    have hp : p = pN P := by omega
    subst hp
    have d0 := dS_lt hok (lot := lot) 0
    have x1 : mxS (dS P lot) (pN P) 0 0 = mxS (dS P lot) (pN P - 1) 1 (dS P lot 0) := by
      obtain ⟨k, hk⟩ : ∃ k, pN P = k + 1 := ⟨pN P - 1, by omega⟩
      rw [hk]
      show mxS (dS P lot) k 1 (if 0 < dS P lot 0 then dS P lot 0 else 0) = mxS (dS P lot) k 1 (dS P lot 0)
      congr 1
      split <;> omega
    have x2 : mnS (dS P lot) (pN P) 0 693 = mnS (dS P lot) (pN P - 1) 1 (dS P lot 0) := by
      obtain ⟨k, hk⟩ : ∃ k, pN P = k + 1 := ⟨pN P - 1, by omega⟩
      rw [hk]
      show mnS (dS P lot) k 1 (if dS P lot 0 < 693 then dS P lot 0 else 693) = mnS (dS P lot) k 1 (dS P lot 0)
      congr 1
      split <;> omega
    obtain ⟨w1, w2, w3, w4, w5, w6, w7⟩ := l_on (e := e00) h0 hok hl rfl
    obtain ⟨m1, a1, a2⟩ := k_goOn hX
    rw [F_L_law_530, if_pos (by rw [kI_le (by omega) (by omega)]; exact Nat.le_refl _), x1, x2, if_pos rfl, bnd_eq a1, hA, bnd_some]
    by_cases ha : pA P = 1
    · obtain ⟨k, m2, k7, b1, b2⟩ := k_again a2 ha w3 (by omega) w2
      rw [w6 ha] at b2
      rw [ha, if_pos z11, bnd_eq b1, if_neg (kI_pos (by omega))]
      exact l627 h0 hn hok hl ⟨w4, w5⟩ b2
    · rw [w7 ha] at a2
      have := hok.2.2.2.2.2.2
      rw [if_neg (by rw [iI_lit, kI_eq (by omega) (by omega)]; exact ha)]
      unfold F_L_law_626
      exact l627 h0 hn hok hl ⟨w4, w5⟩ a2
  | succ c ih =>
    intro p f m hp hf hX
    obtain ⟨f, rfl⟩ : ∃ g, f = g + 1 := ⟨f - 1, by omega⟩
    have hpn : p < pN P := by omega
    obtain ⟨m1, a1, a2, -⟩ := k_numbers hX hpn
    obtain ⟨m2, b1, b2, -⟩ := k_best1 a2
    have d0 := dS_lt hok (lot := lot) p
    have d1 := dS_best hok hl hpn
    have d2 : Mx P (pN P) 0 0 ≤ 693 := by
      have h1 := (best_is hok.1 (P := P)).2.2
      have h2 := fs_le (f := fun q => pW P q (gr P (pN P) 0 0 q)) (g := fun _ => 99) (pN P) 0 (fun j _ _ => hok.2.1 _ _)
      rw [fs_const] at h2
      omega
    have z1 := mxS_le (S := dS P lot) (M := 693) (fun p => dS_lt hok p) p 0 0 (by omega)
    have z2 := mnS_le (S := dS P lot) (M := 693) (fun p => dS_lt hok p) p 0 693 (by omega)
    have r := ih (p + 1) f m2 (by omega) (by omega) b2
    rw [mxS_s, mnS_s, Nat.zero_add] at r
    rw [F_L_law_530, if_neg (by rw [kI_le (by omega) (by omega)]; omega), bnd_eq a1, if_neg (kI_pos (by omega)), bnd_eq b1, if_pos (by rw [iI_lit, kI_mul, kI_le (by omega) (by omega)]; exact d1), nm_eq, nm_eq, nm_eq, show iI 1 = kI 1 from rfl, kI_add]
    have y1 : mxI (kI (mxS (dS P lot) p 0 0)) (kI (dS P lot p)) = kI (if mxS (dS P lot) p 0 0 < dS P lot p then dS P lot p else mxS (dS P lot) p 0 0) := by
      unfold mxI
      simp only [kI_lt (a := mxS (dS P lot) p 0 0) (b := dS P lot p) (by omega) (by omega)]
      split <;> rfl
    have y2 : mnI (kI (mnS (dS P lot) p 0 693)) (kI (dS P lot p)) = kI (if dS P lot p < mnS (dS P lot) p 0 693 then dS P lot p else mnS (dS P lot) p 0 693) := by
      unfold mnI
      simp only [kI_lt (a := dS P lot p) (b := mnS (dS P lot) p 0 693) (by omega) (by omega)]
      split <;> rfl
    rw [y1, y2]
    exact r
theorem l509 {m : Mm} (h0 : 0 < pN P) (hn : pN P ≤ 6) (hok : PaOk P) (hl : LotOk (pN P) P lot) (hA : ∀ m, F_L_again SC m = some (kI (pA P), m)) (hX : Wk m P lot e00) : So (F_L_law_509 SC n2 (kI (pN P)) (kI (sTk P lot)) m) := by
  obtain ⟨m1, a1, a2, -⟩ := k_numbers1 hX
  unfold F_L_law_509
  rw [bnd_eq a1]
  exact l530 h0 hn hok hl hA (pN P) 0 FU m1 (by omega) (by unfold FU; omega) a2
theorem l460 {m : Mm} {v : Int32} (h0 : 0 < pN P) (hn : pN P ≤ 6) (hok : PaOk P) (hl : LotOk (pN P) P lot) (hA : ∀ m, F_L_again SC m = some (kI (pA P), m)) (hM : ∀ m, F_L_most SC m = some (kI (pM P), m)) (hX : Wk m P lot e00) (hv : (v = iI (-5) ∧ (3 < pN P ∨ ¬ pM P ≤ 2)) ∨ (∃ t, v = kI t ∧ pN P ≤ t ∧ t ≤ pN P + pN P * pM P ∧ pN P ≤ 3 ∧ pM P ≤ 2)) : So (if v = iI (-5) then F_L_law_460 SC n2 (kI (pN P)) (kI (sTk P lot)) v (iI 1) m else F_L_law_460 SC n2 (kI (pN P)) (kI (sTk P lot)) v (iI 0) m) := by
  have hm3 := hok.2.2.2.2.2.1
  have l := l509 (SC := SC) (n2 := n2) h0 hn hok hl hA hX
  rcases hv with ⟨rfl, hq⟩ | ⟨t, rfl, t1, t2, t3, t4⟩
  · rw [if_pos rfl]
    have l73 : So (F_L_law_478 SC n2 (kI (pN P)) (kI (sTk P lot)) (iI (-5)) (iI 1) (iI 1) m) := by
      unfold F_L_law_478
      rw [if_pos rfl, if_pos rfl]
      exact l
    unfold F_L_law_460 F_L_law_473
    by_cases n3 : 3 < pN P
    · rw [if_pos (by rw [iI_lit, kI_lt (by omega) (by omega)]; exact n3)]
      exact l73
    · rw [if_neg (by rw [iI_lit, kI_lt (by omega) (by omega)]; exact n3), hM, bnd_some, if_neg (by rw [iI_lit, kI_le (by omega) (by omega)]; omega)]
      exact l73
  · have tM : pN P * pM P ≤ 18 := Nat.mul_le_mul hn hm3
    have n5 : ¬ kI t = iI (-5) := by rw [kI_iI, iI_eq (by omega) (by omega)]; omega
    rw [if_neg n5]
    unfold F_L_law_460 F_L_law_478
    rw [if_neg (by rw [iI_lit, kI_lt (by omega) (by omega)]; omega), hM, bnd_some, if_pos (by rw [iI_lit, kI_le (by omega) (by omega)]; exact t4), if_pos rfl, if_neg n5, if_neg (by rw [kI_lt (by omega) (by omega)]; omega), hM, bnd_some, kI_mul, kI_add, if_pos (by rw [kI_le (by omega) (by omega)]; exact t2)]
    exact l
theorem fa_lt {F : Nat → Nat} : ∀ c x y, fa F c x = some y → x ≤ y ∧ y < x + c
  | 0, _, _, h => by cases h
  | c + 1, x, y, h => by
    unfold fa at h
    split at h
    · cases h; omega
    · have := fa_lt c (x + 1) y h; omega
theorem l371 (h0 : 0 < pN P) (hn : pN P ≤ 6) (hok : PaOk P) (hl : LotOk (pN P) P lot) (hA : ∀ m, F_L_again SC m = some (kI (pA P), m)) (hM : ∀ m, F_L_most SC m = some (kI (pM P), m)) : ∀ c p f m, p + c = pN P → c < f → Wk m P lot e00 → So (F_L_law_371 SC n2 f (kI (pN P)) (kI (sTk P lot)) (kI p) m) := by
  intro c
  induction c with
  | zero =>
    intro p f m hp hf hX
    obtain ⟨f, rfl⟩ : ∃ g, f = g + 1 := ⟨f - 1, by omega⟩
    obtain ⟨v, m1, a1, a2, -, a4⟩ := k_exact hX
    rw [F_L_law_371, if_pos (by rw [kI_le (by omega) (by omega)]; omega), bnd_eq a1]
    exact l460 h0 hn hok hl hA hM a2 a4
  | succ c ih =>
    intro p f m hp hf hX
    obtain ⟨f, rfl⟩ : ∃ g, f = g + 1 := ⟨f - 1, by omega⟩
    have hpn : p < pN P := by omega
    obtain ⟨m1, a1, a2, -⟩ := k_face hX hpn
    obtain ⟨m2, b1, b2, -⟩ := k_evening (n := p) (q := 3) a2 h0 (by omega) (Or.inr ⟨Or.inr rfl, hpn⟩)
    have b1 : F_X8_evening (kI p) (iI 3) m1 = some (kI (eT (evE P lot (kI 0) (kI 0)) p), m2) := b1
    have tb3 : eT (evE P lot (kI 0) (kI 0)) p < 100 := by
      have h1 := (ev_prop hok hl (kI 0) (kI 0)).1 p
      have := hok.2.2.2.2.2.1
      show eT (evE P lot (kI 0) (kI 0)) p < 100
      omega
    have r := ih (p + 1) f m2 (by omega) (by omega) b2
    have f0 : faF P lot p 0 = eT (evE P lot (kI 0) (kI 0)) p := by unfold faF; rw [faP_0]
    have go : ∀ z, (z = iI 0 ∨ z = iI 1) → (z = iI 1 ↔ eT (evE P lot (kI 0) (kI 0)) p = 0) → So (F_L_law_415 SC n2 (F_L_law_371 SC n2 f) (kI (pN P)) (kI (sTk P lot)) (kI p) z m1) := fun z hz hi => by
      unfold F_L_law_415 F_L_law_430
      rw [bnd_eq b1]
      by_cases t : eT (evE P lot (kI 0) (kI 0)) p = 0
      · rw [t, if_pos z00, if_pos (hi.mpr t), nm_eq, iI_lit, kI_add]
        exact r
      · have hz : z = iI 0 := hz.elim id (fun q => absurd (hi.mp q) t)
        rw [if_neg (by rw [iI_lit, kI_eq (by omega) (by omega)]; exact t), if_pos hz, nm_eq, iI_lit, kI_add]
        exact r
    rw [F_L_law_371, if_neg (by rw [kI_le (by omega) (by omega)]; omega), bnd_eq a1]
    have fs100 : fa (faF P lot p) 100 0 = if faF P lot p 0 = 0 then some 0 else fa (faF P lot p) 99 1 := rfl
    by_cases t : eT (evE P lot (kI 0) (kI 0)) p = 0
    · have fs0 : fa (faF P lot p) 100 0 = some 0 := by rw [fs100, f0]; exact if_pos t
      rw [fs0, cI_some, if_neg (by decide +kernel), if_neg (by decide +kernel), if_neg (by decide +kernel), if_pos z00]
      exact go (iI 1) (Or.inr rfl) ⟨fun _ => t, fun _ => rfl⟩
    · have zg : iI 0 = iI 1 ↔ eT (evE P lot (kI 0) (kI 0)) p = 0 := ⟨fun h => absurd h (by decide +kernel), fun h => absurd h t⟩
      have fs1 : fa (faF P lot p) 100 0 = fa (faF P lot p) 99 1 := by rw [fs100, f0]; exact if_neg t
      rw [fs1]
      cases hx : fa (faF P lot p) 99 1 with
      | none =>
        rw [cI_none, if_neg (by decide +kernel), if_neg (by decide +kernel), if_neg (by decide +kernel), if_neg (by decide +kernel)]
        exact go (iI 0) (Or.inl rfl) zg
      | some y =>
        obtain ⟨y1, y2⟩ := fa_lt 99 1 y hx
        have yy : ¬ kI y < iI (-2) ∧ ¬ kI y = iI (-1) ∧ ¬ iI 99 < kI y ∧ ¬ kI y = iI 0 := (by decide +kernel : ∀ y, y < 100 → 1 ≤ y → ¬ kI y < iI (-2) ∧ ¬ kI y = iI (-1) ∧ ¬ iI 99 < kI y ∧ ¬ kI y = iI 0) y (by omega) y1
        rw [cI_some, if_neg yy.1, if_neg yy.2.1, if_neg yy.2.2.1, if_neg yy.2.2.2]
        exact go (iI 0) (Or.inl rfl) zg
/-- nobody before p has it: its bit isn't set -/
theorem bit_0 {s : Nat → Nat} {u p n : Nat} (hu : ∀ w, w < n → bt u w = 1 → ∃ j, j < p ∧ s j = w) (hi : ∀ i j, i < n → j < n → s i = s j → i = j) (hp : p < n) (hs : s p < n) : bt u (s p) = 0 := by
  rcases bt_2 u (s p) with z | z
  · exact z
  · obtain ⟨j, j1, j2⟩ := hu _ hs z
    have := hi j p (by omega) hp j2
    omega
theorem bit_s {s : Nat → Nat} {u p n : Nat} (hn : n ≤ 7) (hu : ∀ w, w < n → bt u w = 1 → ∃ j, j < p ∧ s j = w) (h7 : u < 128) (hs : s p < n) (b0 : bt u (s p) = 0) : ∀ w, w < n → bt (u + 2 ^ s p) w = 1 → ∃ j, j < p + 1 ∧ s j = w := fun w hw z => by
  rw [bt_set h7 (by omega) (by omega) b0] at z
  by_cases y : w = s p
  · exact ⟨p, by omega, y.symm⟩
  · rw [if_neg y] at z
    obtain ⟨j, j1, j2⟩ := hu w hw z
    exact ⟨j, by omega, j2⟩
theorem k_w {m : Mm} {e : Ev} {p k : Nat} (hX : Wk m P lot e) (hp : p < pN P) (hk : k < pN P) : F_X8_of (((iI 10) * kI p) + kI k) (iI 0) m = some (kI (pW P p k), m) := by
  have hn := hX.1.n7
  have h := k_of (w := 0) (num := 10 * p + k) (at9 := 7 * p + k) hX.1 (Or.inl ⟨rfl, p, k, hp, hk, rfl, rfl⟩)
  have e : valP P 0 (10 * p + k) = pW P p k := by
    show pW P ((10 * p + k) / 10) ((10 * p + k) % 10) = pW P p k
    rw [show (10 * p + k) / 10 = p by omega, show (10 * p + k) % 10 = k by omega]
  rw [e] at h
  rw [show iI 10 = kI 10 from rfl, kI_mul, kI_add]
  exact h
theorem l288 (h0 : 0 < pN P) (hn : pN P ≤ 6) (hok : PaOk P) (hl : LotOk (pN P) P lot) (hA : ∀ m, F_L_again SC m = some (kI (pA P), m)) (hM : ∀ m, F_L_most SC m = some (kI (pM P), m)) : ∀ c p f u m, p + c = pN P → c < f → Wk m P lot e00 → u < 2 ^ pN P → (∀ w, w < pN P → bt u w = 1 → ∃ j, j < p ∧ gr P (pN P) 0 0 j = w) → So (F_L_law_288 SC n2 f (kI (pN P)) (kI u) (kI (sTk P lot)) (kI (fs (fun q => pW P q (gr P (pN P) 0 0 q)) p 0)) (kI p) m) := by
  have hp2 := p2_n hok.1
  obtain ⟨g1, g2, g3⟩ := best_is (P := P) hok.1
  intro c
  induction c with
  | zero =>
    intro p f u m hp hf hX hu hb
    obtain ⟨f, rfl⟩ : ∃ g, f = g + 1 := ⟨f - 1, by omega⟩
    have hp : p = pN P := by omega
    subst hp
    obtain ⟨m1, a1, a2, -⟩ := k_best1 hX
    rw [F_L_law_288, if_pos (by rw [kI_le (by omega) (by omega)]; exact Nat.le_refl _), bnd_eq a1, g3, if_pos rfl]
    exact l371 h0 hn hok hl hA hM (pN P) 0 FU m1 (by omega) (by unfold FU; omega) a2
  | succ c ih =>
    intro p f u m hp hf hX hu hb
    obtain ⟨f, rfl⟩ : ∃ g, f = g + 1 := ⟨f - 1, by omega⟩
    have hpn : p < pN P := by omega
    obtain ⟨m1, a1, a2, -⟩ := k_best hX hpn
    have hs := g1 p hpn
    have b0 := bit_0 hb g2 hpn hs
    obtain ⟨o1, o2, o3⟩ := bt_or (u := u) (k := gr P (pN P) 0 0 p) (by omega) (by omega) b0
    have o4 := bt_lt hok.1 hu hs b0
    have r := ih (p + 1) f (u + 2 ^ gr P (pN P) 0 0 p) m1 (by omega) (by omega) a2 o4 (bit_s hok.1 hb (by omega) hs b0)
    rw [fs_succ] at r
    rw [F_L_law_288, if_neg (by rw [kI_le (by omega) (by omega)]; omega), bnd_eq a1, if_neg (kI_pos (by omega)), if_neg (by rw [kI_le (by omega) (by omega)]; omega), bt_bit (by omega) (by omega), b0, if_neg (by decide +kernel), o1, nm_eq, bnd_eq (k_w a2 hpn hs), nm_eq, nm_eq, show iI 1 = kI 1 from rfl, kI_add, kI_add]
    exact r
theorem l215 (h0 : 0 < pN P) (hn : pN P ≤ 6) (hok : PaOk P) (hl : LotOk (pN P) P lot) (hA : ∀ m, F_L_again SC m = some (kI (pA P), m)) (hM : ∀ m, F_L_most SC m = some (kI (pM P), m)) {v : Nat} (v1 : 1 ≤ v) (v2 : v ≤ fct (pN P)) : ∀ c k f m, k + c = pN P → c + 1 < f → Wk m P lot e00 → So (F_L_law_215 SC n2 f (kI (pN P)) (kI (sTk P lot)) (kI (fs (fun p => pW P p (has0 (evE P lot (kI 0) (kI 0)) p)) (pN P) 0)) (kI v) (kI (fct k)) (kI (k + 1)) m) := by
  have fc : ∀ k, k ≤ 6 → fct k ≤ 720 := by decide
  obtain ⟨hw, he, hf7⟩ := ev_ok hok hl (kI 0) (kI 0)
  intro c
  induction c with
  | zero =>
    intro k f m hk hf hX
    obtain ⟨f, rfl⟩ : ∃ g, f = g + 1 := ⟨f - 1, by omega⟩
    have hk : k = pN P := by omega
    subst hk
    have f6 := fc (pN P) hn
    obtain ⟨m1, a1, a2, -⟩ := k_pairs hX h0
    obtain ⟨m2, b1, b2, -⟩ := k_best1 a2
    obtain ⟨m3, d1, d2, -⟩ := k_pairs b2 h0
    have pl := prs_le (P := P) (v := evE P lot (kI 0) (kI 0)) hok.1
    have pp : pN P * (pN P - 1) ≤ 6 * 5 := Nat.mul_le_mul hn (by omega)
    have z : ∀ m, Wk m P lot e00 → So (F_L_law_280 SC n2 (kI (pN P)) (kI (sTk P lot)) m) := fun m h => by
      have hp2 := p2_n hok.1
      exact l288 h0 hn hok hl hA hM (pN P) 0 FU 0 m (by omega) (by unfold FU; omega) h (by omega) (fun w hw z => by
        have : bt 0 w = 0 := by unfold bt; simp
        omega)
    rw [F_L_law_215, if_pos (by rw [kI_lt (by omega) (by omega)]; omega), if_neg (by rw [iI_lit, kI_lt (by omega) (by omega)]; omega), if_neg (by rw [kI_lt (by omega) (by omega)]; omega), bnd_eq a1, show iI 1 = kI 1 from rfl, kI_sub (by omega), kI_mul, show iI 2 = kI 2 from rfl, dvI_kI (by omega) (by omega) (by omega), if_neg (by rw [kI_lt (by omega) (by omega)]; omega), bnd_eq b1]
    by_cases q : kI (Mx P (pN P) 0 0) = kI (fs (fun p => pW P p (has0 (evE P lot (kI 0) (kI 0)) p)) (pN P) 0)
    · rw [if_pos q, bnd_eq d1]
      have w1 : Mx P (pN P) 0 0 ≤ 693 := by
        have h1 := (best_is hok.1 (P := P)).2.2
        have h2 := fs_le (f := fun q => pW P q (gr P (pN P) 0 0 q)) (g := fun _ => 99) (pN P) 0 (fun j _ _ => hok.2.1 _ _)
        rw [fs_const] at h2
        omega
      have w2 : fs (fun p => pW P p (has0 (evE P lot (kI 0) (kI 0)) p)) (pN P) 0 ≤ 693 := by
        have h2 := fs_le (f := fun p => pW P p (has0 (evE P lot (kI 0) (kI 0)) p)) (g := fun _ => 99) (pN P) 0 (fun j _ _ => hok.2.1 _ _)
        rw [fs_const] at h2
        omega
      have q := (kI_eq (by omega) (by omega)).mp q
      have p0 := prs_0 (v := evE P lot (kI 0) (kI 0)) hok.1 hf7 (by omega)
      rw [p0, if_pos z00]
      exact z m3 d2
    · rw [if_neg q]
      exact z m2 b2
  | succ c ih =>
    intro k f m hk hf hX
    obtain ⟨f, rfl⟩ : ∃ g, f = g + 1 := ⟨f - 1, by omega⟩
    have f6 := fc k (by omega)
    have r := ih (k + 1) f m (by omega) (by omega) hX
    rw [F_L_law_215, if_neg (by rw [kI_lt (by omega) (by omega)]; omega), nm_eq, kI_mul, nm_eq, iI_lit, kI_add, Nat.mul_comm]
    exact r
theorem l47 (h0 : 0 < pN P) (hn : pN P ≤ 6) (hok : PaOk P) (hl : LotOk (pN P) P lot) (hA : ∀ m, F_L_again SC m = some (kI (pA P), m)) (hM : ∀ m, F_L_most SC m = some (kI (pM P), m)) : ∀ c p f u m, p + c = pN P → c < f → Wk m P lot e00 → ShR m (pN P) → (∀ j, j < p → gL m 107 j = (kI (has0 (evE P lot (kI 0) (kI 0)) j)).toInt64) → u < 2 ^ pN P → (∀ w, w < pN P → bt u w = 1 → ∃ j, j < p ∧ has0 (evE P lot (kI 0) (kI 0)) j = w) → So (F_L_law_47 SC n2 f (kI (pN P)) (kI u) (kI (fs (eT (evE P lot (kI 0) (kI 0))) p 0)) (kI (fs (fun p => pW P p (has0 (evE P lot (kI 0) (kI 0)) p)) p 0)) (kI p) m) := by
  have hp2 := p2_n hok.1
  obtain ⟨hw, he, hf7⟩ := ev_ok hok hl (kI 0) (kI 0)
  obtain ⟨g1, g2⟩ := full_inj hf7
  have tM := (ev_prop hok hl (kI 0) (kI 0)).1
  have hM3 := hok.2.2.2.2.2.1
  intro c
  induction c with
  | zero =>
    intro p f u m hp hf hX hS hel hu hb
    obtain ⟨f, rfl⟩ : ∃ g, f = g + 1 := ⟨f - 1, by omega⟩
    have hp : p = pN P := by omega
    subst hp
    obtain ⟨m1, a1, a2, a3⟩ := k_evening (n := 0) (q := 1) hX h0 (by omega) (Or.inl ⟨Or.inl rfl, rfl⟩)
    have a1 : F_X8_evening (iI 0) (iI 1) m = some (eN (evE P lot (kI 0) (kI 0)), m1) := a1
    rw [vv_n hok hl] at a1
    obtain ⟨m2, b1, b2, b3⟩ := k_evening (n := 0) (q := 2) a2 h0 (by omega) (Or.inl ⟨Or.inr rfl, rfl⟩)
    have b1 : F_X8_evening (iI 0) (iI 2) m1 = some (kI (hW P (evE P lot (kI 0) (kI 0)) (pN P) 0), m2) := b1
    rw [hW_has hf7] at b1
    obtain ⟨m3, d1, d2, d3⟩ := k_best1 b2
    have t3 := a3.trans (b3.trans d3)
    have s3 := hS.th t3
    have e3 : ∀ j, j < pN P → gL m3 107 j = (kI (has0 (evE P lot (kI 0) (kI 0)) j)).toInt64 := fun j hj => by rw [t3.2.1]; exact hel j hj
    obtain ⟨m4, j1, j2, j3⟩ := k_judge d2 h0 s3 e3
    have s4 := s3.th j3
    have e4 : ∀ j, j < pN P → gL m4 107 j = (kI (has0 (evE P lot (kI 0) (kI 0)) j)).toInt64 := fun j hj => by rw [j3.2.1]; exact e3 j hj
    obtain ⟨v, m5, k1, k2, -, k4, k5⟩ := k_lots j2 h0 s4 e4
    have bb := ev_best (P := P) (v := evE P lot (kI 0) (kI 0)) hok.1 hf7
    have w1 : Mx P (pN P) 0 0 ≤ 693 := by
      have h1 := (best_is hok.1 (P := P)).2.2
      have h2 := fs_le (f := fun q => pW P q (gr P (pN P) 0 0 q)) (g := fun _ => 99) (pN P) 0 (fun j _ _ => hok.2.1 _ _)
      rw [fs_const] at h2
      omega
    rw [F_L_law_47, if_pos (by rw [kI_le (by omega) (by omega)]; exact Nat.le_refl _), bnd_eq a1, kI_add, if_pos (show kI (pN P + sTk P lot) = kI (pN P + fs (eT (evE P lot (kI 0) (kI 0))) (pN P) 0) from rfl), bnd_eq b1, if_pos rfl, bnd_eq d1, if_neg (by rw [kI_lt (by omega) (by omega)]; omega), bnd_eq j1, if_pos rfl, bnd_eq k1]
    exact l215 h0 hn hok hl hA hM k4 k5 (pN P - 1) 1 FU m5 (by omega) (by unfold FU; omega) k2
  | succ c ih =>
    intro p f u m hp hf hX hS hel hu hb
    obtain ⟨f, rfl⟩ : ∃ g, f = g + 1 := ⟨f - 1, by omega⟩
    have hpn : p < pN P := by omega
    obtain ⟨m1, a1, a2, a3⟩ := k_evening (n := p) (q := 0) hX h0 (by omega) (Or.inr ⟨Or.inl rfl, hpn⟩)
    have a1 : F_X8_evening (kI p) (iI 0) m = some (kI (has0 (evE P lot (kI 0) (kI 0)) p), m1) := a1
    have hs := g1 p hpn
    have b0 := bit_0 hb g2 hpn hs
    obtain ⟨o1, o2, o3⟩ := bt_or (u := u) (k := has0 (evE P lot (kI 0) (kI 0)) p) (by omega) (by omega) b0
    have o4 := bt_lt hok.1 hu hs b0
    have tp : eT (evE P lot (kI 0) (kI 0)) p ≤ pM P := tM p
    obtain ⟨m2, b1, b2, b3⟩ := k_evening (n := p) (q := 3) a2 h0 (by omega) (Or.inr ⟨Or.inr rfl, hpn⟩)
    have b1 : F_X8_evening (kI p) (iI 3) m1 = some (kI (eT (evE P lot (kI 0) (kI 0)) p), m2) := b1
    have t2 := a3.trans b3
    obtain ⟨d1, d2, d3⟩ := k_put (k := has0 (evE P lot (kI 0) (kI 0)) p) b2 (hS.th t2) hpn (by omega) (by omega)
    have e3 : ∀ j, j < p + 1 → gL (pL m2 107 p (kI (has0 (evE P lot (kI 0) (kI 0)) p)).toInt64) 107 j = (kI (has0 (evE P lot (kI 0) (kI 0)) j)).toInt64 := fun j hj => by
      rw [gL_pL]
      by_cases z : j = p
      · rw [if_pos ⟨rfl, z⟩, z]
      · rw [if_neg (fun q => z q.2), t2.2.1]
        exact hel j (by omega)
    generalize pL m2 107 p (kI (has0 (evE P lot (kI 0) (kI 0)) p)).toInt64 = m3 at d1 d2 d3 e3
    obtain ⟨m4, j1, j2, j3⟩ := k_evening (n := p) (q := 3) d2 h0 (by omega) (Or.inr ⟨Or.inr rfl, hpn⟩)
    have j1 : F_X8_evening (kI p) (iI 3) m3 = some (kI (eT (evE P lot (kI 0) (kI 0)) p), m4) := j1
    have r := ih (p + 1) f (u + 2 ^ has0 (evE P lot (kI 0) (kI 0)) p) m4 (by omega) (by omega) j2 (d3.th j3) (fun j hj => by rw [j3.2.1]; exact e3 j hj) o4 (bit_s hok.1 hb (by omega) hs b0)
    rw [fs_succ, fs_succ] at r
    rw [F_L_law_47, if_neg (by rw [kI_le (by omega) (by omega)]; omega), bnd_eq a1, if_neg (kI_pos (by omega)), if_neg (by rw [kI_le (by omega) (by omega)]; omega), bt_bit (by omega) (by omega), b0, if_neg (by decide +kernel), bnd_eq b1, hM, bnd_some, if_neg (by rw [kI_lt (by omega) (by omega)]; omega), bnd_eq d1, if_pos z11, o1, nm_eq, bnd_eq j1, nm_eq, bnd_eq (k_w j2 hpn hs), nm_eq, nm_eq, show iI 1 = kI 1 from rfl, kI_add, kI_add, kI_add]
    exact r
end WALK
theorem law_all (SC : SCT) (hL : SC.1 ≤ 260) : ∃ n2 μ, NN ≤ n2 ∧ F_law SC n2 = some ((), μ) := by
  obtain ⟨n, M, A, n2, m, P, lot, n1, n6, M1, M3, A1, hpe, hM, hA, hn2, hB, hX, rfl, rfl, rfl⟩ := built_ex SC hL
  have hok := hX.1.ok
  have hl := hX.2.2.2.1
  obtain ⟨m1, a1, a2, a3⟩ := k_row (n := pN P) hX (by omega)
  have hp2 := p2_n hok.1
  obtain ⟨μ, hμ⟩ := l47 (SC := SC) (n2 := n2) n1 n6 hok hl hA hM (pN P) 0 FU 0 m1 (by omega) (by unfold FU; omega) a2 a3 (fun j q => absurd q (Nat.not_lt_zero j)) (by omega) (fun w hw z => by
    have : bt 0 w = 0 := by unfold bt; simp
    omega)
  refine ⟨n2, μ, hn2, ?_⟩
  unfold F_law
  rw [nm_eq, bnd_eq i8_eq, if_pos lay_A, bnd_eq hB, if_neg (by decide +kernel)]
  unfold F_L_law_18
  rw [hpe, bnd_some, bnd_eq a1, if_pos z11]
  exact hμ
