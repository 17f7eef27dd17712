/-! p39, MORE CALLS OF THE CLASS: faces, exact, numbers, judged, lots, rows, in deed -/
theorem k_face {μ : Mm} {P : Pa} {lot : Nat → Nat} {e : Ev} {k : Nat} (h : Wk μ P lot e) (hk : k < pN P) : ∃ m1, F_X8_face (kI k) μ = some (cI (fa (faF P lot k) 100 0), m1) ∧ Wk m1 P lot e ∧ Th μ m1 := by
  have hn := h.1.n7
  have hok := h.1.ok
  obtain ⟨m1, a1, a2, a3⟩ := face8_keep hk (pN P) 0 FU μ h.1 (by omega) (by unfold FU; omega) (fun p hp => absurd hp (by omega))
  have hP1 : PC m1 (faP P k 0) := by rw [faP_0]; exact h.1.fr a3 (fun a q => by omega)
  obtain ⟨m2, b1, b2, b3⟩ := face8_loop hk hok h.2.2.2.1 100 0 0 FU m1 (by omega) (by unfold FU; omega) hP1 a2 (fun j hj => by rw [a3.1 24 (by omega)]; exact h.2.2.1.1 j hj) h.2.2.1.2
  have f2 : FrC C38 μ m2 := (a3.c.mono fun a j q => Or.inl (by unfold CT; omega)).trans b3
  refine ⟨m2, ?_, ⟨b2, h.2.1.frC f2 (fun a j q => by unfold C38 CT SL CX9 at q; omega), h.2.2.1.frC f2 (fun a j q => by unfold C38 CT SL CX9 at q; omega), h.2.2.2⟩, ⟨fun a j q1 q2 => f2.1 a j (fun z => z.elim q1 q2), f2.2.1, fun a j _ => f2.2.2 a j⟩⟩
  unfold F_X8_face F_X7_leastFace
  rw [bnd_eq (isOne_yes h.1 hk), if_neg k1_ne0, if_pos sh24, iI_lit, a1, bnd_eq b1]
theorem k_exact {μ : Mm} {P : Pa} {lot : Nat → Nat} {e : Ev} (h : Wk μ P lot e) : ∃ v m1, F_X8_exact (iI (-1)) μ = some (v, m1) ∧ Wk m1 P lot e ∧ Th μ m1 ∧ ((v = iI (-5) ∧ (3 < pN P ∨ ¬ pM P ≤ 2)) ∨ (∃ t, v = kI t ∧ pN P ≤ t ∧ t ≤ pN P + pN P * pM P ∧ pN P ≤ 3 ∧ pM P ≤ 2)) := by
  have hn := h.1.n7
  have hok := h.1.ok
  have hM := hok.2.2.2.2.2.1
  have em8 := h.1.m
  have en8 := h.1.n
  have a8 : F_X8_exact (iI (-1)) μ = F_X8_exact_18 (iI (-1)) μ := by
    unfold F_X8_exact
    rw [if_pos rfl]
  by_cases n3 : 3 < pN P
  · refine ⟨iI (-5), μ, ?_, h, Th.refl, Or.inl ⟨rfl, Or.inl n3⟩⟩
    rw [a8]
    unfold F_X8_exact_18
    rw [en8, if_pos (by rw [iI_lit, kI_lt (by omega) (by omega)]; exact n3)]
  · by_cases m2 : pM P ≤ 2
    · have lf : left P (wrE (gI μ 50 8) (gI μ 50 9) (kI 0)) ≤ 9 := by
        show (pN P - 0) * (1 + pM P) + 0 ≤ 9
        have hm : pM P = 1 ∨ pM P = 2 := by have := hok.2.2.2.2.1; omega
        rcases hm with hm | hm <;> rw [hm] <;> omega
      obtain ⟨_, m1, b1, b2, b3, b4⟩ := begin_eq (μ := μ) (t := 50) (r := 24) sh50 sh24 (by omega)
      have hP1 : PC m1 P := h.1.fr b4 (fun a q => by unfold SA at q; omega)
      have hL1 : LotC m1 50 lot := ⟨fun j hj => by rw [b3 j hj]; exact h.2.2.1.1 j hj, h.2.2.1.2⟩
      obtain ⟨_, m2', c1, c2, c3⟩ := look8 hok h.2.2.2.1 9 40 0 _ m1 lf (by omega) (by omega) hP1 b2 hL1 wf_wr
      obtain ⟨t, t1, t2, t3⟩ := ex_turns hok h.2.2.2.1 lf
      have f2 : FrC CT μ m2' := (b4.c.mono fun a j q => Or.inl (by unfold SA at q; omega)).trans (c3.c.mono fun a j q => Or.inl (by unfold SK at q; omega))
      refine ⟨kI t, m2', ?_, h.th f2, Th.of f2, Or.inr ⟨t, rfl, t2, t3, by omega, m2⟩⟩
      rw [a8]
      unfold F_X8_exact_18 F_X7_eachForItself
      rw [en8, if_neg (by rw [iI_lit, kI_lt (by omega) (by omega)]; exact n3), em8, if_pos (by rw [iI_lit, kI_le (by omega) (by omega)]; exact m2), if_pos sh24, bnd_id, iI_lit, rd_kI (by omega) (by omega)]
      show (bnd (F_X2_beginBy 50 24 μ) fun _ m3 => bnd (R_62 40 (kI 0) m3) fun _ m5 => rd 10 (kI 0) fun j6 => (if iI (-1) = (iI (-1)) then rd 8 (iI 7) fun j8 => some ((gI m5 (36 + 1 * j6) j8), m5) else rd 8 (iI (-1)) fun j7 => some ((gI m5 (36 + 1 * j6) j7), m5))) = _
      rw [bnd_eq b1, bnd_eq c1, rd_kI (by omega) (by omega), if_pos rfl, iI_lit, rd_kI (by omega) (by omega), c2.2, t1]
    · refine ⟨iI (-5), μ, ?_, h, Th.refl, Or.inl ⟨rfl, Or.inr m2⟩⟩
      rw [a8]
      unfold F_X8_exact_18
      rw [en8, if_neg (by rw [iI_lit, kI_lt (by omega) (by omega)]; exact n3), em8, if_neg (by rw [iI_lit, kI_le (by omega) (by omega)]; exact m2)]
/-- sums of the seven draws -/
def dS (P : Pa) (lot : Nat → Nat) : Nat → Nat := drw P lot 7 (iI 3) (fun _ => 0)
theorem dS_lt {P : Pa} {lot : Nat → Nat} (h : PaOk P) (p : Nat) : dS P lot p ≤ 693 := by
  have := drw_le h (lot := lot) 7 (iI 3) (fun _ => 0) 0 (fun _ => Nat.le_refl _) p
  unfold dS
  omega
theorem dS_best {P : Pa} {lot : Nat → Nat} (hP : PaOk P) (hl : LotOk (pN P) P lot) {p : Nat} (hp : p < pN P) : dS P lot p ≤ 7 * Mx P (pN P) 0 0 := by
  have := drw_best hP hl (by omega) 7 (iI 3) (fun _ => 0) 0 (fun _ _ => Nat.le_refl _) p hp
  unfold dS
  omega
theorem k_draw {μ : Mm} {P : Pa} {lot : Nat → Nat} {e : Ev} (h : Wk μ P lot e) : ∃ m2, (∀ z, F_X8_numbers_29 (iI 3) (iI 7) z μ = if z = iI (-1) then bnd (F_X7_unlike m2) fun v4 m5 => some (v4, m5) else rd 7 z fun j3 => some (gI m2 49 j3, m2)) ∧ (∀ p, p < 7 → gI m2 49 p = kI (dS P lot p)) ∧ Wk m2 P lot e ∧ Th μ m2 := by
  have hn := h.1.n7
  obtain ⟨m1, a1, a2, a3⟩ := fill_eq (r := 49) (L := 7) (v := iI 0) (μ := μ) sh49 (by omega)
  have hP1 : PC m1 P := h.1.fr a3 (fun a q => by omega)
  obtain ⟨_, m2, b1, b2, b3⟩ := draw8 (d := 7) (by omega) h.2.2.2.1 h.2.2.1.2 7 0 (iI 3) (fun _ => 0) FU m1 (by omega) (by unfold FU; omega) hP1 (fun j hj => by rw [a3.1 24 (by omega)]; exact h.2.2.1.1 j hj) a2
  have f2 : FrC CT μ m2 := (a3.c.mono fun a j q => Or.inl (by omega)).trans (b3.c.mono fun a j q => by
    unfold SA SL at q
    show CT a j
    unfold CT SL
    omega)
  refine ⟨m2, fun z => ?_, b2, h.th f2, Th.of f2⟩
  unfold F_X8_numbers_29 F_X7_drawNumbers
  rw [if_pos sh24, bnd_eq a1]
  show bnd (F_X7_drawNumbers_14 24 FU (kI 7) (iI 3) (kI 0) m1) _ = _
  rw [bnd_eq b1]
theorem k_numbers1 {μ : Mm} {P : Pa} {lot : Nat → Nat} {e : Ev} (h : Wk μ P lot e) : ∃ m1, F_X8_numbers (iI 3) (iI 7) (iI (-1)) μ = some (kI (mxS (dS P lot) (pN P - 1) 1 (dS P lot 0)) - kI (mnS (dS P lot) (pN P - 1) 1 (dS P lot 0)), m1) ∧ Wk m1 P lot e ∧ Th μ m1 := by
  obtain ⟨m2, h29, b2, w2, t2⟩ := k_draw h
  have hn := h.1.n7
  have hSb : ∀ p, dS P lot p < 1000000 := fun p => by have := dS_lt h.1.ok (lot := lot) p; omega
  refine ⟨m2, ?_, w2, t2⟩
  have u8 := unlike8 w2.1 hSb b2 (pN P - 1) 1 (dS P lot 0) (dS P lot 0) FU (hSb 0) (hSb 0) (by omega) (by omega) (by unfold FU; omega)
  unfold F_X8_numbers
  rw [if_neg (by rw [iI_lit, iI_lit, kI_lt (by omega) (by omega)]; omega), if_neg (by rw [iI_lit, iI_lit, kI_lt (by omega) (by omega)]; omega), if_pos rfl, h29, if_pos rfl]
  unfold F_X7_unlike
  rw [show iI 0 = kI 0 from rfl, rd_kI (by omega) (by omega), nm_eq, rd_kI (by omega) (by omega), nm_eq, b2 0 (by omega), show iI 1 = kI 1 from rfl, bnd_eq u8]
theorem k_numbers {μ : Mm} {P : Pa} {lot : Nat → Nat} {e : Ev} {k : Nat} (h : Wk μ P lot e) (hk : k < pN P) : ∃ m1, F_X8_numbers (iI 3) (iI 7) (kI k) μ = some (kI (dS P lot k), m1) ∧ Wk m1 P lot e ∧ Th μ m1 := by
  obtain ⟨m2, h29, b2, w2, t2⟩ := k_draw h
  have hn := h.1.n7
  refine ⟨m2, ?_, w2, t2⟩
  have nm1 : ¬ kI k = iI (-1) := by rw [kI_iI, iI_eq (by omega) (by omega)]; omega
  unfold F_X8_numbers
  rw [if_neg (by rw [iI_lit, iI_lit, kI_lt (by omega) (by omega)]; omega), if_neg (by rw [iI_lit, iI_lit, kI_lt (by omega) (by omega)]; omega), if_neg nm1, bnd_eq (isOne_yes h.1 hk), if_neg k1_ne0, h29, if_neg nm1, rd_kI (by omega) (by omega), b2 k (by omega)]
/-! the row of bytes -/
def ShR (μ : Mm) (n : Nat) : Prop := gI μ 104 0 = kI 0 ∧ gI μ 105 0 = kI n
theorem ShR.th {μ μ1 : Mm} {n : Nat} (h : ShR μ n) (hf : Th μ μ1) : ShR μ1 n := ⟨by rw [hf.1 104 0 (by unfold CT SL CX9; omega) (by omega)]; exact h.1, by rw [hf.1 105 0 (by unfold CT SL CX9; omega) (by omega)]; exact h.2⟩
theorem k_row {μ : Mm} {P : Pa} {lot : Nat → Nat} {e : Ev} {n : Nat} (h : Wk μ P lot e) (hn : n ≤ 60) : ∃ m1, F_X8_row (iI 0) (iI 0) (kI n) μ = some (kI 1, m1) ∧ Wk m1 P lot e ∧ ShR m1 n := by
  obtain ⟨m2, f1, f2, f3, f4, f5⟩ := fillL_eq (r := 107 + 0) (L := 60) (v := iL 0) (μ := pI (pI μ 104 0 (kI 0)) 105 0 (kI n)) (by decide +kernel) (by omega)
  have e4 : gI m2 104 0 = kI 0 := by rw [f4]; simp [gI_pI]
  have e5 : gI m2 105 0 = kI n := by rw [f4]; simp [gI_pI]
  refine ⟨m2, ?_, h.same (fun a q => funext fun j => by rw [f4, gI_pI, if_neg (by unfold CPc at q; omega), gI_pI, if_neg (by unfold CPc at q; omega)]) (by rw [f5]; rfl), e4, e5⟩
  unfold F_X8_row F_X5_holdRow
  rw [show iI 0 = kI 0 from rfl, show iI 4 = kI 4 from rfl, show iI 60 = kI 60 from rfl, show iI 1 = kI 1 from rfl, bnd_eq (isShelf_yes (s := 0) (by omega)), if_neg (show ¬ kI 1 = kI 0 from k1_ne0), if_neg (by rw [kI_lt (by omega) (by omega)]; omega), if_neg (by rw [kI_lt (by omega) (by omega)]; omega), if_pos (by rw [kI_le (by omega) (by omega)]; exact hn), if_pos (by rw [kI_le (by omega) (by omega)]; omega), wrI_kI (by omega) (by omega), wrI_kI (by omega) (by omega), rd_kI (by omega) (by omega), Nat.one_mul, bnd_eq f1]
  rfl
theorem lowB_7 {k : Nat} (hk : k < 7) : lowB 0 (kI k).toInt64 = (kI k).toInt64 := (by decide +kernel : ∀ k, k < 7 → lowB 0 (kI k).toInt64 = (kI k).toInt64) k hk
theorem k_put {μ : Mm} {P : Pa} {lot : Nat → Nat} {e : Ev} {n i k : Nat} (h : Wk μ P lot e) (hs : ShR μ n) (hi : i < n) (hn : n ≤ 60) (hk : k < 7) : F_X8_put (iI 0) (kI i) (kI k).toInt64 μ = some (kI 1, pL μ 107 i (kI k).toInt64) ∧ Wk (pL μ 107 i (kI k).toInt64) P lot e ∧ ShR (pL μ 107 i (kI k).toInt64) n := by
  refine ⟨?_, h.same (fun _ _ => rfl) rfl, hs⟩
  have e1 := refElem_eq (μ := μ) (s := 0) (x := kI i) (o := .inl (some (0, n))) (by omega) ⟨by omega, hn⟩ hs
  rw [whyI_row, if_pos (by rw [kI_toInt (by omega)]; omega)] at e1
  unfold F_X8_put
  rw [show iI 0 = kI 0 from rfl, bnd_eq e1, if_pos (show iI 0 = kI 0 from rfl), rd_kI (by omega) (by omega), rd_kI (by omega) (by omega), hs.1, bnd_eq (lowestBits_eq (by omega) _), lowB_7 hk, wrL_kI (by omega) (by omega), Nat.one_mul]
  rfl
theorem bytes_ok {μ : Mm} {n : Nat} (hs : ShR μ n) (hn : n ≤ 60) : F_X5_refusalOfBytes (kI 0) μ = some (iI 0, μ) := refBytes_eq (o := .inl (some (0, n))) (by omega) ⟨by omega, hn⟩ hs
theorem Wk.hr {μ : Mm} {P : Pa} {lot : Nat → Nat} {e : Ev} {s sz : Nat} (h : Wk μ P lot e) : Wk (hrM μ s sz) P lot e :=
  h.same (fun a q => funext fun j => by unfold hrM; rw [gI_pI, if_neg (by unfold CPc at q; omega)]; rfl) (by unfold hrM; rw [gR_pI, gR_pR, if_neg (by omega)])
theorem Th.hr {μ : Mm} {s sz : Nat} : Th μ (hrM μ s sz) := ⟨fun a j q _ => by
  unfold hrM
  rw [gI_pI, if_neg (fun z => q (by unfold CT; omega))]
  rfl, fun _ _ => rfl, fun a j q => by unfold hrM; rw [gR_pI, gR_pR, if_neg (by omega)]⟩
theorem unl_none {el : Nat → Int64} {h : Nat → Nat} : ∀ c i, (∀ j, i ≤ j → j < i + c → el j = (kI (h j)).toInt64) → unl el h c i = none
  | 0, _, _ => rfl
  | c + 1, i, q => by
    unfold unl
    rw [if_pos (q i (Nat.le_refl _) (by omega))]
    exact unl_none c (i + 1) (fun j h1 h2 => q j (by omega) (by omega))
theorem k_judge {μ : Mm} {P : Pa} {lot : Nat → Nat} {e : Ev} (h : Wk μ P lot e) (h0 : 0 < pN P) (hs : ShR μ (pN P)) (hel : ∀ j, j < pN P → gL μ 107 j = (kI (has0 (evE P lot (kI 0) (kI 0)) j)).toInt64) : ∃ m1, F_X8_judge (iI 0) μ = some (iI (-2), m1) ∧ Wk m1 P lot e ∧ Th μ m1 := by
  have hn := h.1.n7
  have h1 := bytes_ok hs (by omega)
  have w6 := h.hr (s := 0) (sz := pN P)
  obtain ⟨_, m1, a1, rfl, ⟨w, g, a2⟩, a3⟩ := eveningBy_eq w6.1 (r := 24) sh24 (by omega) w6.2.2.1.1 w6.2.2.1.2 w6.2.2.2.1
  rw [ev_wg h0 w g (kI 0) (kI 0)] at a2
  have f : FrC CT (hrM μ 0 (pN P)) m1 := a3.c.mono (fun a j q => by unfold SA at q; unfold CT SL at *; omega)
  have w1 := w6.th f
  obtain ⟨hw, he, hf⟩ := ev_ok h.1.ok h.2.2.2.1 (kI 0) (kI 0)
  have h8 : gI m1 33 8 = kI (pN P) := (a3.1 33 (by unfold SA SL; omega) 8).trans (by unfold hrM; rw [gI_pI, if_pos ⟨rfl, rfl⟩])
  have hr : gR m1 33 7 = 107 + 1 * 0 := (a3.2.2 33 7).trans (by unfold hrM; rw [gR_pI, gR_pR, if_pos ⟨rfl, rfl⟩])
  have q8 := unl8 w1.1 a2 (fun p hp => (hf.2 p hp).2.2) (s := 0) (sz := pN P) (by omega) (by omega) h8 hr (min (pN P) (pN P)) 0 FU (by omega) (by unfold FU; omega)
  rw [unl_none _ _ (fun j _ hj => by rw [f.2.1]; exact hel j (by omega))] at q8
  refine ⟨m1, ?_, w1, Th.hr.trans (Th.of f)⟩
  unfold F_X8_judge
  rw [show iI 0 = kI 0 from rfl, bnd_eq h1, if_pos (show iI 0 = kI 0 from rfl), rd_kI (by omega) (by omega), rd_kI (by omega) (by omega), hs.2, bnd_eq (hear_eq (s := 0) (by omega)), bnd_eq a1, gdS_yes sh50]
  unfold F_X7_firstUnlikeTold
  rw [if_pos sh50, show iI 0 = kI 0 from rfl, bnd_eq q8]
  rfl
theorem k_lots {μ : Mm} {P : Pa} {lot : Nat → Nat} {e : Ev} (h : Wk μ P lot e) (h0 : 0 < pN P) (hs : ShR μ (pN P)) (hel : ∀ j, j < pN P → gL μ 107 j = (kI (has0 (evE P lot (kI 0) (kI 0)) j)).toInt64) : ∃ v m1, F_X8_lots (iI 0) μ = some (kI v, m1) ∧ Wk m1 P lot e ∧ Th μ m1 ∧ 1 ≤ v ∧ v ≤ fct (pN P) := by
  have hn := h.1.n7
  have hok := h.1.ok
  have p2 := p2_n hn
  have h1 := bytes_ok hs (by omega)
  have w6 := h.hr (s := 0) (sz := pN P)
  obtain ⟨m3, a1, a2, a3⟩ := wrap_eq (μ := hrM μ 0 (pN P)) sh50
  have f3 : FrC CT (hrM μ 0 (pN P)) m3 := a3.c.mono fun a j q => Or.inl (by unfold SE at q; omega)
  have w3 := w6.th f3
  have hT0 : Told (hrM μ 0 (pN P)) 0 (pN P) := ⟨by unfold hrM; rw [gI_pI, if_pos ⟨rfl, rfl⟩], by unfold hrM; rw [gR_pI, gR_pR, if_pos ⟨rfl, rfl⟩]⟩
  have hT3 := hT0.fr a3 (by unfold SE; omega)
  obtain ⟨L0, hL0⟩ : ∃ L0 : Nat → Nat, ∀ j, L0 j < 4294967296 ∧ gI m3 51 j = kI (L0 j) := ⟨fun j => Classical.choose (kI_all (gI m3 51 j)), fun j => Classical.choose_spec (kI_all (gI m3 51 j))⟩
  have hLC : LotC m3 (50 + 5 * 0) L0 := ⟨fun j _ => (hL0 j).2, fun j _ => (hL0 j).1⟩
  have hU0 : ∀ L, Us P 0 0 L := fun L => ⟨⟨by omega, fun i j hi => absurd hi (by omega), fun i hi => absurd hi (by omega)⟩, by omega, fun j hj => absurd hj (by omega)⟩
  have hS0 : Sm (lsE P L0 0) (wrE (gI (hrM μ 0 (pN P)) 50 8) (gI (hrM μ 0 (pN P)) 50 9) (gI (hrM μ 0 (pN P)) 50 10)) := ⟨_, _, _, rfl⟩
  have hel8 : gL m3 (107 + 1 * 0) = gL μ 107 := funext fun j => by rw [a3.2.1]; rfl
  obtain ⟨v, m5, b1, rfl, b3⟩ := lots8 hok (s := 0) (sz := pN P) (by omega) (by omega) (pN P) 40 0 0 L0 _ m3 (by omega) (by omega) (hU0 L0) hS0 w3.1 hT3 hel8 a2 hLC
  have f5 : FrC CT (hrM μ 0 (pN P)) m5 := f3.trans (b3.c.mono fun a j q => by
    unfold SKL at q
    rcases q with q | q
    · exact Or.inr (Or.inl q)
    · exact Or.inl (by omega))
  have hnone : unl (gL μ 107) (has0 (evE P lot (kI 0) (kI 0))) (min (pN P) (pN P)) 0 = none := unl_none _ _ (fun j _ hj => hel j (by omega))
  refine ⟨_, m5, ?_, w6.th f5, Th.hr.trans (Th.of f5), lt_ge hok h.2.2.2.1 hnone (pN P) 0 0 L0 (by omega) (hU0 L0) (fun j hj => absurd hj (by omega)) (fun w hw z => by
    have : bt 0 w = 0 := by unfold bt; simp
    omega), lt_le hok (pN P) 0 0 L0 (by omega) (hU0 L0)⟩
  unfold F_X8_lots F_X7_lotsAsTold
  rw [show iI 0 = kI 0 from rfl, bnd_eq h1, if_pos (show iI 0 = kI 0 from rfl), rd_kI (by omega) (by omega), rd_kI (by omega) (by omega), hs.2, bnd_eq (hear_eq (s := 0) (by omega)), bnd_id, rd_kI (by omega) (by omega)]
  show (bnd (F_X2_wrapAll 50 (hrM μ 0 (pN P))) fun _ m3 => bnd (R_77 40 (kI 0) (kI 0) m3) fun v m => some (v, m)) = _
  rw [bnd_eq a1, bnd_id]
  exact b1
/-! in deed -/
theorem k_turn {μ : Mm} {P : Pa} {lot : Nat → Nat} {e : Ev} (h : Wk μ P lot e) : F_X8_turn μ = some (cI (cu P lot e), μ) := by
  have e1 := whose_eq h.1 h.2.1 h.2.2.1 h.2.2.2.2.1.1
  unfold F_X8_turn
  rw [e1, bnd_some]
theorem Wk.play {μ m1 : Mm} {P : Pa} {lot : Nat → Nat} {e e' : Ev} (h : Wk μ P lot e) (hf : FrC (fun a _ => SP 23 a) μ m1) (hr : RC m1 23 e') (hw : WfE (pN P) P lot e') (hz : Z0 e') : Wk m1 P lot e' :=
  ⟨h.1.frC hf (fun a j q => by unfold SP SE SL at q; unfold CPc; omega), hr, h.2.2.1.frC hf (fun a j q => by unfold SP SE SL at q; omega), h.2.2.2.1, hw, hz⟩
theorem k_open {μ : Mm} {P : Pa} {lot : Nat → Nat} {e : Ev} {p : Nat} (h : Wk μ P lot e) (hc : cu P lot e = some p) : ∃ m1, F_X8_open μ = some (kI (eP e), m1) ∧ Wk m1 P lot (opE p e) := by
  have hn := h.1.n7
  have hw := h.2.2.2.2.1
  have e1 := whose_eq h.1 h.2.1 h.2.2.1 hw.1
  have ho := cu_lt hw hc
  have hp := (cu_free h.1.ok h.2.2.2.1 hw ho hc).1
  rw [hc, cI_some] at e1
  have u1 := unwrap_eq h.2.1 (p := p) (by omega) (by omega)
  have u2 := unwrap_RC (p := p) h.2.1
  have u3 : FrC (fun a _ => SP 23 a) μ (opM μ 23 p (eP e)) := (unwrap_Fr.mono (fun _ q => Or.inl q)).c
  refine ⟨opM μ 23 p (eP e), ?_, h.play u3 u2 (wf_op h.1.ok h.2.2.2.1 hw ho hc) z0_op⟩
  unfold F_X8_open
  rw [e1, bnd_some]
  simp (disch := omega) only [u1, Nat.zero_le, iI_lit, kI_add, kI_mul, kI_eq, kI_lt, kI_le, kI_neg1, neg1_kI, neg1_lt0, neg1_0le, kO_none, kO_some, nm_eq, bnd_some, rz_0, rz_1, zb_0, zb_1, rd_kI, wrI_kI, wrL_kI, dvI_kI, rmI_kI, if_true, if_false, ite_true, ite_false, reduceIte, Nat.lt_irrefl, Nat.le_refl, not_true, not_false_iff, true_and, and_true, false_and, and_false, and_self, Bool.false_eq_true, eq_self, Decidable.not_not]
theorem k_goOn {μ : Mm} {P : Pa} {lot : Nat → Nat} {e : Ev} (h : Wk μ P lot e) : ∃ m1, F_X8_goOn μ = some (kI (plE P lot (pN P) 28 e).2, m1) ∧ Wk m1 P lot (plE P lot (pN P) 28 e).1 := by
  have hw := h.2.2.2.2.1
  obtain ⟨m1, p1, p2, p3, p4, p5⟩ := play_eq (m := pN P) h.2.2.2.1 h.1 h.2.1 h.2.2.1 hw
  have hz : Z0 (plE P lot (pN P) 28 e).1 := by
    intro z
    rw [p5] at z
    have he : eP e = 0 := by have := hw.2.1; omega
    have : plE P lot (pN P) 28 e = (e, 0) := by rw [plE, if_pos (by omega)]
    rw [this]
    exact h.2.2.2.2.2 he
  refine ⟨m1, ?_, h.play p3.c p2 p4 hz⟩
  unfold F_X8_goOn
  rw [h.1.n, p1, bnd_some]
theorem k_again {μ : Mm} {P : Pa} {lot : Nat → Nat} {e : Ev} (h : Wk μ P lot e) (ha : pA P = 1) (w0 : eA e = 0) (h1 : 0 < eP e) (he : eP e = pN P) : ∃ k m1, k < 7 ∧ F_X8_again μ = some (kI k, m1) ∧ Wk m1 P lot (agE P lot e) := by
  have hn := h.1.n7
  have hw := h.2.2.2.2.1
  have hok := h.1.ok
  have ea1 := h.1.a
  have ew1 := h.2.1.2.2.2.2.2.1
  have hen := hasEnded_eq h.1 h.2.1 hw.1
  rw [if_pos ⟨h1, by omega⟩] at hen
  obtain ⟨_, m1, c1, c2, c3⟩ := chooseOnce_eq h.1 h.2.1 h.2.2.1 h.2.2.2.1 hw h1 he
  have u3 : FrC (fun a _ => SP 23 a) μ m1 := c3.c.mono fun a j q => Or.inl q
  have hwy := wf_ag hok h.2.2.2.1 hw h1 he
  have hL1 : LotC m1 23 lot := h.2.2.1.frC u3 (fun a j q => by unfold SP SE SL at q; omega)
  have hp : lot 0 < pN P := h.2.2.2.1.2.2 0 (by omega)
  have el : gI m1 24 0 = kI (lot 0) := hL1.1 0 (by omega)
  have eh : gI m1 25 (lot 0) = kO (eH (agE P lot e) (lot 0)) := c2.2.1.2.2 (lot 0) (by omega)
  have hz : Z0 (agE P lot e) := by
    intro z
    unfold agE at z
    cases hc : agC P lot e with
    | none => rw [hc] at z; have z : eP e = 0 := z; omega
    | some w => rw [hc] at z; have z : eP e = 0 := z; omega
  have eP' : eP (agE P lot e) = pN P := by
    unfold agE
    cases agC P lot e <;> exact he
  have hfu := full_of h.2.2.2.1 hwy eP'
  obtain ⟨q1, -, q3⟩ := hfu.2 (lot 0) hp
  rw [q3, kO_some] at eh
  refine ⟨has0 (agE P lot e) (lot 0), m1, by omega, ?_, h.play u3 c2 hwy hz⟩
  unfold F_X8_again
  simp (disch := omega) only [ea1, ha, ew1, w0, hen, c1, el, eh, Nat.one_ne_zero, iI_lit, kI_add, kI_mul, kI_eq, kI_lt, kI_le, kI_neg1, neg1_kI, neg1_lt0, neg1_0le, kO_none, kO_some, nm_eq, bnd_some, rz_0, rz_1, zb_0, zb_1, rd_kI, wrI_kI, wrL_kI, dvI_kI, rmI_kI, if_true, if_false, ite_true, ite_false, reduceIte, Nat.lt_irrefl, Nat.le_refl, not_true, not_false_iff, true_and, and_true, false_and, and_false, and_self, Bool.false_eq_true, eq_self, Decidable.not_not]
theorem k_led2 {μ : Mm} {P : Pa} {lot : Nat → Nat} {e : Ev} (h : Wk μ P lot e) : F_X8_led (iI 2) μ = some (eN e, μ) := by
  have c10 := h.2.1.2.2.2.2.2.2.2.2
  unfold F_X8_led
  simp (disch := omega) only [c10, Nat.not_lt_zero, Nat.le_refl, iI_lit, kI_add, kI_mul, kI_eq, kI_lt, kI_le, kI_neg1, neg1_kI, neg1_lt0, neg1_0le, kO_none, kO_some, nm_eq, bnd_some, rz_0, rz_1, zb_0, zb_1, rd_kI, wrI_kI, wrL_kI, dvI_kI, rmI_kI, if_true, if_false, ite_true, ite_false, reduceIte, Nat.lt_irrefl, Nat.le_refl, not_true, not_false_iff, true_and, and_true, false_and, and_false, and_self, Bool.false_eq_true, eq_self, Decidable.not_not]
theorem k_anew {μ : Mm} {P : Pa} {lot : Nat → Nat} {e : Ev} (h : Wk μ P lot e) : ∃ m1, F_X8_anew μ = some (kI (pN P), m1) ∧ Wk m1 P lot (wrE (eW e) (eG e) (eN e)) := by
  obtain ⟨m1, a1, a2, a3⟩ := wrap_eq (μ := μ) (t := 23) sh23
  rw [h.2.1.2.2.2.2.2.2.1, h.2.1.2.2.2.2.2.2.2.1, h.2.1.2.2.2.2.2.2.2.2] at a2
  have u3 : FrC (fun a _ => SP 23 a) μ m1 := a3.c.mono fun a j q => Or.inl q
  refine ⟨m1, ?_, h.play u3 a2 wf_wr (fun _ => ⟨rfl, rfl, rfl⟩)⟩
  unfold F_X8_anew
  rw [bnd_eq a1, u3.1 2 0 (by unfold SP SE SL; omega), h.1.n]
