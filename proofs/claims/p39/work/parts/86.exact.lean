/-! EXACT: WHAT IS THOUGHT, AND THE CLASS'S WAY -/
def exL (F : Ev → Ev) (P : Pa) (p : Nat) (e : Ev) : Nat → Nat → Ev → Ev
  | 0, _, r => r
  | c + 1, i, r => exL F P p e c (i + 1) (if mayB P e i = true ∧ wo P p (eH r p) < wo P p (eH (F (rbE p i (own0 e i) e)) p) then F (rbE p i (own0 e i) e) else r)
/-- the end to which all who look ahead come -/
def exF (P : Pa) (lot : Nat → Nat) : Nat → Ev → Ev
  | 0, e => e
  | g + 1, e => match cu P lot e with
    | none => e
    | some p => exL (exF P lot g) P p e (pN P) 0 (exF P lot g (opE p e))
theorem exL_s {F : Ev → Ev} {P : Pa} {p : Nat} {e : Ev} {c i : Nat} {r : Ev} : exL F P p e (c + 1) i r = exL F P p e c (i + 1) (if mayB P e i = true ∧ wo P p (eH r p) < wo P p (eH (F (rbE p i (own0 e i) e)) p) then F (rbE p i (own0 e i) e) else r) := rfl
theorem exL_end {F : Ev → Ev} {P : Pa} {p : Nat} {e : Ev} : ∀ c i r, eP e ≤ i → exL F P p e c i r = r
  | 0, _, _, _ => rfl
  | c + 1, i, r, h => by
    rw [exL_s, if_neg (fun q => by have := (mayB_iff.mp q.1).1; omega)]
    exact exL_end c (i + 1) r (by omega)
theorem exL_add {F : Ev → Ev} {P : Pa} {p : Nat} {e : Ev} : ∀ a b i r, exL F P p e (a + b) i r = exL F P p e b (i + a) (exL F P p e a i r)
  | 0, b, i, r => by rw [Nat.zero_add]; rfl
  | a + 1, b, i, r => by
    rw [show a + 1 + b = (a + b) + 1 by omega, exL_s, exL_add a b (i + 1), show i + 1 + a = i + (a + 1) by omega, exL_s]
theorem exL_cut {F : Ev → Ev} {P : Pa} {p : Nat} {e r : Ev} (h : eP e ≤ pN P) : exL F P p e (pN P) 0 r = exL F P p e (eP e) 0 r := by
  have := exL_add (F := F) (P := P) (p := p) (e := e) (eP e) (pN P - eP e) 0 r
  rw [show eP e + (pN P - eP e) = pN P by omega] at this
  rw [this]
  exact exL_end _ _ _ (by omega)
theorem left_op {P : Pa} {lot : Nat → Nat} {e : Ev} {p : Nat} (h : WfE (pN P) P lot e) (ho : eP e < pN P) : left P (opE p e) + 1 = left P e := by
  have h0 := (h.2.2.2.1 (eP e) (Nat.le_refl _)).2
  show (pN P - (eP e + 1)) * (1 + pM P) + ((pM P - eT e (eP e)) + sT P (eT e) (eP e)) + 1 = (pN P - eP e) * (1 + pM P) + sT P (eT e) (eP e)
  rw [h0]
  have : pN P - eP e = (pN P - (eP e + 1)) + 1 := by omega
  rw [this, Nat.succ_mul]
  omega
theorem left_rb {P : Pa} {e : Ev} {p k q : Nat} (hm : mayB P e k = true) : left P (rbE p k q e) + 1 = left P e := by
  obtain ⟨k1, -, k3⟩ := mayB_iff.mp hm
  have := sT_rb k3 (eP e) k1
  show (pN P - eP e) * (1 + pM P) + sT P (up (eT e) k (eT e k + 1)) (eP e) + 1 = (pN P - eP e) * (1 + pM P) + sT P (eT e) (eP e)
  omega
theorem left_0 {P : Pa} {lot : Nat → Nat} {e : Ev} (h : WfE (pN P) P lot e) (hl : left P e ≤ 0) : eP e = pN P := by
  have h1 := h.2.1
  have h2 : (pN P - eP e) * (1 + pM P) = 0 := by unfold left at hl; omega
  rcases Nat.mul_eq_zero.mp h2 with h3 | h3 <;> omega
def ExOk (P : Pa) (lot : Nat → Nat) (r : Ev) : Prop := WfE (pN P) P lot r ∧ eP r = pN P
theorem exL_ok {F : Ev → Ev} {P : Pa} {lot : Nat → Nat} {p : Nat} {e : Ev} (hF : ∀ k, mayB P e k = true → ExOk P lot (F (rbE p k (own0 e k) e))) : ∀ c i r, ExOk P lot r → ExOk P lot (exL F P p e c i r)
  | 0, _, _, h => h
  | c + 1, i, r, h => by
    rw [exL_s]
    refine exL_ok hF c (i + 1) _ ?_
    split
    · next q => exact hF i q.1
    · exact h
theorem ex_ok {P : Pa} {lot : Nat → Nat} (hP : PaOk P) (hl : LotOk (pN P) P lot) : ∀ g e, left P e ≤ g → WfE (pN P) P lot e → ExOk P lot (exF P lot g e) := by
  intro g
  induction g with
  | zero => exact fun e hg hw => ⟨hw, left_0 hw hg⟩
  | succ g ih =>
    intro e hg hw
    unfold exF
    cases hc : cu P lot e with
    | none => exact ⟨hw, cu_none hw hc⟩
    | some p =>
      have ho := cu_lt hw hc
      have lo := left_op (p := p) hw ho
      refine exL_ok (fun k hk => ?_) _ _ _ (ih (opE p e) (by omega) (wf_op hP hl hw ho hc))
      have lr := left_rb (p := p) (q := own0 e k) hk
      exact ih _ (by omega) (wf_rb hP hl hw ho hc hk (own_of hw (mayB_iff.mp hk).1).1)
theorem sh5l : ∀ l, l < 10 → shp (50 + 5 * l) = (9, 2) := by decide +kernel
/-- what came out at a level -/
def EndC (P : Pa) (μ : Mm) (l : Nat) (r : Ev) : Prop := (∀ p, p < 7 → gI μ (36 + 1 * l) p = kO (eH r p)) ∧ gI μ (36 + 1 * l) 7 = eN r
def SK (l a : Nat) : Prop := (36 + l ≤ a ∧ a ≤ 45) ∨ (55 + 5 * l ≤ a ∧ a ≤ 99)
theorem PC.sk {μ μ1 : Mm} {P : Pa} {l : Nat} (h : PC μ P) (hf : Fr (SK l) μ μ1) : PC μ1 P := h.fr hf (fun a q => by unfold SK at q; omega)
theorem EndC.fr {P : Pa} {μ μ1 : Mm} {l : Nat} {r : Ev} {S : Nat → Prop} (h : EndC P μ l r) (hf : Fr S μ μ1) (hs : ¬ S (36 + 1 * l)) : EndC P μ1 l r := ⟨fun p hp => by rw [hf.1 _ hs]; exact h.1 p hp, by rw [hf.1 _ hs]; exact h.2⟩
theorem come8 {P : Pa} {μ : Mm} {l : Nat} {r : Ev} (hl : l + 1 < 10) (h : EndC P μ (l + 1) r) : Wp (F_X7_comeTo (kI l) μ) fun _ μ' => EndC P μ' l r ∧ Fr (fun a => a = 36 + 1 * l) μ μ' := by
  unfold F_X7_comeTo
  rw [kI_a1, rd_kI (by omega) (by omega), rd_kI (by omega) (by omega)]
  simp only [iI_lit]
  refine wp_cp (sp := 0) (dp := 0) (k := 8) (by omega) (by omega) (by omega) (by omega) (fun m1 p1 f1 => ⟨(), m1, rfl, ⟨fun p hp => ?_, ?_⟩, f1⟩)
  · rw [p1, if_pos (by omega), show 0 + (p - 0) = p by omega]; exact h.1 p hp
  · rw [p1, if_pos (by omega)]; exact h.2
theorem last8 {P : Pa} {μ : Mm} {l : Nat} {e : Ev} {g : Int32 → Mm → Option (Unit × Mm)} (hl : l < 10) (h : RC μ (50 + 5 * l) e) : Wp (F_X7_lookAhead_28 g (kI l) (50 + 5 * l) μ) fun _ μ' => EndC P μ' l e ∧ Fr (fun a => a = 36 + 1 * l) μ μ' := by
  unfold F_X7_lookAhead_28
  rw [gdS_yes h.1, rd_kI (by omega) (by omega)]
  simp only [iI_lit]
  refine wp_cp (sp := 0) (dp := 0) (k := 7) (by omega) (by omega) (by omega) (by omega) (fun m1 p1 f1 => ?_)
  rw [rd_kI (by omega) (by omega), wrI_kI (by omega) (by omega)]
  refine ⟨(), _, rfl, ⟨fun p hp => ?_, ?_⟩, f1.put rfl⟩
  · rw [gI_pI, if_neg (by omega), p1, if_pos (by omega), show 0 + (p - 0) = p by omega]
    exact h.2.1.2.2 p hp
  · rw [gI_pI, if_pos ⟨rfl, rfl⟩, f1.1 (50 + 5 * l) (by omega)]
    exact h.2.2.2.2.2.2.2.2
theorem worthEnd8 {P : Pa} {lot : Nat → Nat} {μ : Mm} {l p : Nat} {r : Ev} (hP : PC μ P) (hl : l < 10) (h : EndC P μ l r) (hr : BdE r) (hp : p < 7) : F_X7_worthAtEnd (kI l) (kI p) μ = some (kI (wo P p (eH r p)), μ) := by
  unfold F_X7_worthAtEnd
  rw [rd_kI (by omega) (by omega), rd_kI (by omega) (by omega), h.1 p hp, bnd_eq (worthFor_eq hP hp (hr.2.2.2.1 p))]
theorem look8_loop {P : Pa} {lot : Nat → Nat} {l d g p : Nat} {e : Ev} (hok : PaOk P) (hl : LotOk (pN P) P lot) (hll : l + 1 < 10) (hw : WfE (pN P) P lot e) (ho : eP e < pN P) (hc : cu P lot e = some p) (hg : left P e ≤ g + 1) (ih : ∀ (e : Ev) (μ : Mm), left P e ≤ g → PC μ P → RC μ (50 + 5 * (l + 1)) e → LotC μ (50 + 5 * (l + 1)) lot → WfE (pN P) P lot e → Wp (R_62 d (kI (l + 1)) μ) fun _ μ' => EndC P μ' (l + 1) (exF P lot g e) ∧ Fr (SK (l + 1)) μ μ') : ∀ c i r f (μ : Mm), i + c = eP e → c < f → ExOk P lot r → PC μ P → RC μ (50 + 5 * l) e → LotC μ (50 + 5 * l) lot → EndC P μ l r → Wp (F_X7_lookAhead_97 (R_62 d) f (kI l) (50 + 5 * l) (kI p) (50 + 5 * (l + 1)) (kI i) μ) fun _ μ' => EndC P μ' l (exL (exF P lot g) P p e c i r) ∧ Fr (SK l) μ μ' := by
  have hn : pN P ≤ 7 := hok.1
  have hb := hw.1
  have hp7 := (cu_free hok hl hw ho hc).1
  have sh0 := sh5l l (by omega)
  have sh1 := sh5l (l + 1) hll
  intro c
  induction c with
  | zero =>
    intro i r f μ hi hf hr hP h hL hE
    obtain ⟨f, rfl⟩ : ∃ g, f = g + 1 := ⟨f - 1, by omega⟩
    refine ⟨(), μ, ?_, hE, Fr.refl⟩
    rw [F_X7_lookAhead_97, gdS_yes sh0, gdS_yes sh1, h.2.2.1, if_pos (by rw [kI_le (by omega) (by omega)]; omega)]
  | succ c ihc =>
    intro i r f μ hi hf hr hP h hL hE
    obtain ⟨f, rfl⟩ : ∃ g, f = g + 1 := ⟨f - 1, by omega⟩
    rw [exL_s, F_X7_lookAhead_97, gdS_yes sh0, gdS_yes sh1, h.2.2.1, if_neg (by rw [kI_le (by omega) (by omega)]; omega), bnd_eq (mayRob_eq hP h hb (by omega))]
    by_cases z : mayB P e i = true
    · rw [if_pos z, if_neg k1_ne0]
      obtain ⟨q1, q2⟩ := own_of hw (show i < eP e by omega)
      obtain ⟨_, m4, b1, b2, b3, b4⟩ := become_eq sh1 (show 50 + 5 * (l + 1) ≠ 50 + 5 * l by omega) h hb
      have hP4 : PC m4 P := hP.fr b4 (fun a q => by unfold SA at q; omega)
      have r1 := rob_eq b2 (show p < 7 by omega) (show i < 7 by omega) q1 (by omega)
      have r2 := rob_RC (p := p) (k := i) (q := own0 e i) b2
      have r3 := rob_Fr (μ := m4) (t := 50 + 5 * (l + 1)) (p := p) (k := i) (q := own0 e i) (v := eT e i)
      have hL4 : LotC m4 (50 + 5 * (l + 1)) lot := ⟨fun j hj => by rw [b3 j hj]; exact hL.1 j hj, hL.2⟩
      generalize rbM m4 (50 + 5 * (l + 1)) p i (own0 e i) (eT e i) = m6 at r1 r2 r3
      have hP6 : PC m6 P := hP4.fr r3 (fun a q => by unfold SE at q; omega)
      have hL6 : LotC m6 (50 + 5 * (l + 1)) lot := hL4.fr r3 (fun a q => by unfold SE at q; omega)
      have lr := left_rb (p := p) (q := own0 e i) z
      have wr' := wf_rb hok hl hw ho hc z q1
      obtain ⟨_, m8, i1, i2, i3⟩ := ih (rbE p i (own0 e i) e) m6 (by omega) hP6 r2 hL6 wr'
      have eo := ex_ok hok hl g (rbE p i (own0 e i) e) (by omega) wr'
      have hP8 := hP6.sk i3
      have f8 : Fr (SK l) μ m8 := ((b4.mono fun a q => by unfold SA at q; unfold SK; omega).trans (r3.mono fun a q => by unfold SE at q; unfold SK; omega)).trans (i3.mono fun a q => by unfold SK at q ⊢; omega)
      have fE : Fr (fun a => SA (50 + 5 * (l + 1)) a ∨ SK (l + 1) a) μ m8 := ((b4.mono fun a q => Or.inl q).trans (r3.mono fun a q => Or.inl (by unfold SE at q; unfold SA; omega))).trans (i3.mono fun a q => Or.inr q)
      have hE8 : EndC P m8 l r := hE.fr fE (by unfold SA SK; omega)
      have h8 : RC m8 (50 + 5 * l) e := h.fr f8 (fun a q => by unfold SK at q; omega)
      have hL8 : LotC m8 (50 + 5 * l) lot := hL.fr f8 (fun a q => by unfold SK at q; omega)
      have w1 := worthEnd8 (lot := lot) hP8 hll i2 eo.1.1 (show p < 7 by omega)
      have w2 := worthEnd8 (lot := lot) hP8 (show l < 10 by omega) hE8 hr.1.1 (show p < 7 by omega)
      have v1 := wo_le hok p (eH (exF P lot g (rbE p i (own0 e i) e)) p)
      have v2 := wo_le hok p (eH r p)
      rw [bnd_eq b1, bnd_eq r1, kI_a1, bnd_eq i1, bnd_eq w1, bnd_eq w2]
      by_cases y : wo P p (eH r p) < wo P p (eH (exF P lot g (rbE p i (own0 e i) e)) p)
      · rw [if_neg (by rw [kI_le (by omega) (by omega)]; omega), if_pos ⟨z, y⟩]
        obtain ⟨_, m10, c1, c2, c3⟩ := come8 hll i2
        rw [bnd_eq c1, F_X7_lookAhead_163, gdS_yes sh0, gdS_yes sh1, nm_eq, kI_a1]
        have f10 : Fr (SK l) m8 m10 := c3.mono fun a q => by unfold SK; omega
        refine (ihc (i + 1) _ f m10 (by omega) (by omega) eo (hP8.sk f10) (h8.fr f10 (fun a q => by unfold SK at q; omega)) (hL8.fr f10 (fun a q => by unfold SK at q; omega)) c2).mono (fun _ m' q => ⟨q.1, (f8.trans f10).trans q.2⟩)
      · rw [if_pos (by rw [kI_le (by omega) (by omega)]; omega), if_neg (fun q => y q.2), F_X7_lookAhead_163, gdS_yes sh0, gdS_yes sh1, nm_eq, kI_a1]
        exact (ihc (i + 1) r f m8 (by omega) (by omega) hr hP8 h8 hL8 hE8).mono (fun _ m' q => ⟨q.1, f8.trans q.2⟩)
    · rw [if_neg z, if_pos k0_eq0, if_neg (fun q => z q.1), F_X7_lookAhead_163, gdS_yes sh0, gdS_yes sh1, nm_eq, kI_a1]
      exact ihc (i + 1) r f μ (by omega) (by omega) hr hP h hL hE
theorem look8 {P : Pa} {lot : Nat → Nat} (hok : PaOk P) (hl : LotOk (pN P) P lot) : ∀ g d l (e : Ev) (μ : Mm), left P e ≤ g → l + g ≤ 9 → g < d → PC μ P → RC μ (50 + 5 * l) e → LotC μ (50 + 5 * l) lot → WfE (pN P) P lot e → Wp (R_62 d (kI l) μ) fun _ μ' => EndC P μ' l (exF P lot g e) ∧ Fr (SK l) μ μ' := by
  have hn : pN P ≤ 7 := hok.1
  have done : ∀ d l (e : Ev) (μ : Mm), l ≤ 9 → eP e = pN P → PC μ P → RC μ (50 + 5 * l) e → LotC μ (50 + 5 * l) lot → WfE (pN P) P lot e → Wp (R_62 (d + 1) (kI l) μ) fun _ μ' => EndC P μ' l e ∧ Fr (SK l) μ μ' := by
    intro d l e μ hl9 he hP h hL hw
    show Wp (B_X7_lookAhead (R_62 d) (kI l) μ) _
    unfold B_X7_lookAhead
    rw [rd_kI (by omega) (by omega), bnd_eq (whose_eq hP h hL hw.1), cu_end hw he, if_pos (by rw [iI_lit]; exact cI_lt0.mpr trivial)]
    exact (last8 (by omega) h).mono (fun _ m' q => ⟨q.1, q.2.mono fun a z => by unfold SK; omega⟩)
  intro g
  induction g with
  | zero =>
    intro d l e μ hg hlg hd hP h hL hw
    obtain ⟨d, rfl⟩ : ∃ x, d = x + 1 := ⟨d - 1, by omega⟩
    exact done d l e μ (by omega) (left_0 hw hg) hP h hL hw
  | succ g ih =>
    intro d l e μ hg hlg hd hP h hL hw
    obtain ⟨d, rfl⟩ : ∃ x, d = x + 1 := ⟨d - 1, by omega⟩
    unfold exF
    cases hc : cu P lot e with
    | none => exact done d l e μ (by omega) (cu_none hw hc) hP h hL hw
    | some p =>
      have ho := cu_lt hw hc
      have hp7 := (cu_free hok hl hw ho hc).1
      have sh0 := sh5l l (by omega)
      have sh1 := sh5l (l + 1) (by omega)
      show Wp (B_X7_lookAhead (R_62 d) (kI l) μ) fun _ μ' => EndC P μ' l (exL (exF P lot g) P p e (pN P) 0 (exF P lot g (opE p e))) ∧ Fr (SK l) μ μ'
      rw [exL_cut (by omega)]
      unfold B_X7_lookAhead
      rw [rd_kI (by omega) (by omega), bnd_eq (whose_eq hP h hL hw.1), hc, cI_some, if_neg (by rw [iI_lit, kI_lt (by omega) (by omega)]; omega), kI_a1, if_pos (by rw [iI_lit, kI_lt (by omega) (by omega)]; omega), rd_kI (by omega) (by omega)]
      obtain ⟨_, m4, b1, b2, b3, b4⟩ := become_eq sh1 (show 50 + 5 * (l + 1) ≠ 50 + 5 * l by omega) h hw.1
      have hP4 : PC m4 P := hP.fr b4 (fun a q => by unfold SA at q; omega)
      have r1 := unwrap_eq b2 (show p < 7 by omega) (show eP e < 7 by omega)
      have r2 := unwrap_RC (p := p) b2
      have r3 := unwrap_Fr (μ := m4) (t := 50 + 5 * (l + 1)) (p := p) (o := eP e)
      have hL4 : LotC m4 (50 + 5 * (l + 1)) lot := ⟨fun j hj => by rw [b3 j hj]; exact hL.1 j hj, hL.2⟩
      generalize opM m4 (50 + 5 * (l + 1)) p (eP e) = m6 at r1 r2 r3
      have hP6 : PC m6 P := hP4.fr r3 (fun a q => by unfold SE at q; omega)
      have hL6 : LotC m6 (50 + 5 * (l + 1)) lot := hL4.fr r3 (fun a q => by unfold SE at q; omega)
      have lo := left_op (p := p) hw ho
      have wo' := wf_op hok hl hw ho hc
      obtain ⟨_, m8, i1, i2, i3⟩ := ih d (l + 1) (opE p e) m6 (by omega) (by omega) (by omega) hP6 r2 hL6 wo'
      have eo := ex_ok hok hl g (opE p e) (by omega) wo'
      have f8 : Fr (SK l) μ m8 := ((b4.mono fun a q => by unfold SA at q; unfold SK; omega).trans (r3.mono fun a q => by unfold SE at q; unfold SK; omega)).trans (i3.mono fun a q => by unfold SK at q ⊢; omega)
      obtain ⟨_, m10, c1, c2, c3⟩ := come8 (show l + 1 < 10 by omega) i2
      have f10 : Fr (SK l) μ m10 := f8.trans (c3.mono fun a q => by unfold SK; omega)
      rw [bnd_eq b1, bnd_eq r1, bnd_eq i1, bnd_eq c1]
      refine (look8_loop (d := d) hok hl (show l + 1 < 10 by omega) hw ho hc hg (fun e' μ' h1 h2 h3 h4 h5 => ih d (l + 1) e' μ' h1 (by omega) (by omega) h2 h3 h4 h5) (eP e) 0 (exF P lot g (opE p e)) FU m10 (by omega) (by unfold FU; omega) eo (hP.sk f10) (h.fr f10 (fun a q => by unfold SK at q; omega)) (hL.fr f10 (fun a q => by unfold SK at q; omega)) c2).mono (fun _ m' q => ⟨q.1, f10.trans q.2⟩)
