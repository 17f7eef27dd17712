/-! LAW, OF BOTH -/
def CLaw (q a j : Nat) : Prop := CLw q a j ∨ (a = 16 ∧ j = 1) ∨ CT9 a j ∨ (a = 113 ∧ j = 39)
def wF (P : Pa) (F : Int32 → Int32 → Int32 → Int32 → Int32 → Int32 → Int32) : Pa := (P.1, P.2.1, P.2.2.1, P.2.2.2.1, P.2.2.2.2.1, P.2.2.2.2.2.1, F)
theorem IDeed.wF {μ : Mm} {P : Pa} {F : Int32 → Int32 → Int32 → Int32 → Int32 → Int32 → Int32} {lot : Nat → Nat} {e : Ev} (h : IDeed μ P lot e) : IDeed μ (wF P F) lot e := h
theorem PC0.wF {μ : Mm} {P : Pa} {F : Int32 → Int32 → Int32 → Int32 → Int32 → Int32 → Int32} (h : PC0 μ P) : PC0 μ (wF P F) := h
theorem PR0.wF {μ : Mm} {P : Pa} {F : Int32 → Int32 → Int32 → Int32 → Int32 → Int32 → Int32} (h : PR0 μ P) : PR0 μ (wF P F) := h
theorem PaOk.wF {P : Pa} {F : Int32 → Int32 → Int32 → Int32 → Int32 → Int32 → Int32} (h : PaOk P) : PaOk (wF P F) := h
theorem IDeed.pR {μ : Mm} {P : Pa} {lot : Nat → Nat} {e : Ev} {a j v b k w : Nat} (h : IDeed μ P lot e) : IDeed (pR (pR μ a j v) b k w) P lot e := h
theorem IChg.pR {μ : Mm} {n : Nat} {a j v b k w : Nat} (h : IChg μ n) : IChg (pR (pR μ a j v) b k w) n := h
theorem IImg.pR {μ : Mm} {a j v b k w : Nat} (h : IImg μ) : IImg (pR (pR μ a j v) b k w) := h
theorem IBod.pR {μ : Mm} {a j v b k w : Nat} (h : IBod μ) : IBod (pR (pR μ a j v) b k w) := h
theorem IShe.pR {μ : Mm} {a j v b k w : Nat} (h : IShe μ) : IShe (pR (pR μ a j v) b k w) := h
theorem PC0.pR {μ : Mm} {P : Pa} {a j v b k w : Nat} (h : PC0 μ P) : PC0 (pR (pR μ a j v) b k w) P := h
theorem PR0.pR {μ : Mm} {P : Pa} {a j v b k w : Nat} (h : PR0 μ P) : PR0 (pR (pR μ a j v) b k w) P := h
theorem FrC.pR {C : Nat → Nat → Prop} {μ μ1 : Mm} {a j v b k w : Nat} (h : FrC C μ μ1) : FrC C (pR (pR μ a j v) b k w) (pR (pR μ1 a j v) b k w) := ⟨h.1, h.2.1, fun x y => by
  rw [gR_pR, gR_pR, gR_pR, gR_pR, h.2.2]⟩
section GLAW
variable {μ m : Mm} {P : Pa} {q : Nat}
theorem PC0.law (hq : q = 6 ∨ q = 18) (h : PC0 μ P) (hf : FrC (CLaw q) μ m) : PC0 m P := by
  obtain ⟨h1, h2, h3, h4, h5, h6⟩ := h
  have e : ∀ a j, 2 ≤ a → a ≤ 5 → gI m a j = gI μ a j := fun a j g1 g2 => hf.1 a j (fun z => by
    unfold CLaw CLw CT9 CF9 CW9 CE9 LA at z
    omega)
  refine ⟨?_, fun p k hp hk => ?_, fun p k hp hk => ?_, fun p hp => ?_, ?_, ?_⟩
  · rw [e 2 _ (by omega) (by omega)]; exact h1
  · rw [e 3 _ (by omega) (by omega)]; exact h2 p k hp hk
  · rw [e 4 _ (by omega) (by omega)]; exact h3 p k hp hk
  · rw [e 5 _ (by omega) (by omega)]; exact h4 p hp
  · rw [e 2 _ (by omega) (by omega)]; exact h5
  · rw [e 2 _ (by omega) (by omega)]; exact h6
theorem PR0.law (hq : q = 6 ∨ q = 18) (h : PR0 μ P) (hf : FrC (CLaw q) μ m) : PR0 m P := by
  obtain ⟨h1, h2, h3, h4, h5, h6⟩ := h
  have e : ∀ a j, (114 ≤ a ∧ a ≤ 116) ∨ (a = 113 ∧ (j = 1 ∨ j = 5 ∨ j = 6)) → gI m a j = gI μ a j := fun a j g => hf.1 a j (fun z => by
    unfold CLaw CLw CT9 CF9 CW9 CE9 LA at z
    omega)
  refine ⟨?_, fun p k hp hk => ?_, fun p k hp hk => ?_, fun p hp => ?_, ?_, ?_⟩
  · rw [e 113 _ (by omega)]; exact h1
  · rw [e 114 _ (by omega)]; exact h2 p k hp hk
  · rw [e 115 _ (by omega)]; exact h3 p k hp hk
  · rw [e 116 _ (by omega)]; exact h4 p hp
  · rw [e 113 _ (by omega)]; exact h5
  · rw [e 113 _ (by omega)]; exact h6
theorem Inv.law {lot : Nat → Nat} {e : Ev} (hq : q = 6 ∨ q = 18) (hn : pN P ≤ 7) (h3 : IDeed μ P lot e) (h4 : IChg μ (pN P)) (h7 : IImg μ) (h8 : IBod μ) (h9 : IShe μ) (hf : FrC (CLaw q) μ m) (pc : PC m P) (pr : PR m P) (t1 : gI m 16 1 = kI 0) (t2 : gI m 113 27 = kI 0) (law : ILaw m) : Inv m := by
  have c : ∀ a j, CLaw q a j → ¬ CDeed a j ∧ ¬ CChg a j ∧ ¬ CImg a j ∧ ¬ CBod a j ∧ ¬ CShe a j := fun a j z => by
    unfold CLaw CLw CT9 CF9 CW9 CE9 LA at z
    unfold CDeed CChg CImg CBod CShe
    omega
  exact ⟨P, lot, e, pc, pr, h3.fr hn hf (fun a j z => (c a j z).1), h4.fr hf (fun a j z => (c a j z).2.1), ⟨0, by omega, t1, t2, fun i hi => absurd hi (Nat.not_lt_zero i)⟩, law, h7.fr hf (fun a j z => (c a j z).2.2.1), h8.fr hf (fun a j z => (c a j z).2.2.2.1), h9.fr hf (fun a j z => (c a j z).2.2.2.2)⟩
end GLAW
theorem lwv {n : Nat} (h : n ≤ 120) : ¬ kI n = iI (-1) ∧ ¬ kI n < iI 0 := (by decide +kernel : ∀ n, n ≤ 120 → ¬ kI n = iI (-1) ∧ ¬ kI n < iI 0) n h
theorem g_law : Good F_X8_law F_X9_law := by
  intro μ hI
  obtain ⟨P, lot, e, h1, h2, h3, h4, h5, h6, h7, h8, h9⟩ := hI
  obtain ⟨l, l1, l2, l3, l4⟩ := h5
  have hb : ∀ i, i < l → (gI μ 17 i).toInt.toNat ≤ 255 ∧ gI μ 17 i = kI ((gI μ 17 i).toInt.toNat) ∧ gI μ 129 i = nB (kI ((gI μ 17 i).toInt.toNat)) := fun i hi => by
    obtain ⟨c, c1, c2, c3⟩ := l4 i hi
    have e : (gI μ 17 i).toInt.toNat = c := by rw [c2, kI_toInt (by omega)]; rfl
    rw [e]
    exact ⟨c1, c2, c3⟩
  generalize hbe : (fun i => (gI μ 17 i).toInt.toNat) = b
  have hb : ∀ i, i < l → b i ≤ 255 ∧ gI μ 17 i = kI (b i) ∧ gI μ 129 i = nB (kI (b i)) := fun i hi => by
    have := hb i hi
    rw [← hbe]
    exact this
  clear hbe
  obtain ⟨lp, q, hlp, hq, hne, r1, r2⟩ : ∃ lp q, (lp = 6 ∨ lp = 18) ∧ (q = 6 ∨ q = 18) ∧ lp ≠ q ∧ gR μ 2 6 = lp ∧ gR μ 16 4 = q := by
    rcases h6 with ⟨g1, g2⟩ | ⟨g1, g2⟩
    · exact ⟨6, 18, by omega, by omega, by omega, g1, g2⟩
    · exact ⟨18, 6, by omega, by omega, by omega, g1, g2⟩
  have hs1 : shp lp = (9, 3) := by rcases hlp with rfl | rfl <;> rfl
  have hs2 : shp q = (9, 3) := by rcases hq with rfl | rfl <;> rfl
  have H : H8 b l q μ := ⟨l1, fun i hi => (hb i hi).1, hq, l2, fun i hi => (hb i hi).2.1, r2⟩
  obtain ⟨v, m1, a1, a2⟩ := read8 H
  have g1 := txt_vg (C := cch b l) (l := l) 130 0 [] (fun ln q => absurd q (List.not_mem_nil))
  have g2 := txt_len (b := b) l1 130 0 [] (Nat.zero_le _) (Nat.le_refl _)
  have R9 : ∀ m0, H9 b l m0 → Wp (F_X9_readText (iI 0) m0) fun v m' => EndT9 l m0 m' v (txtR (cch b l) l 130 0 []) := fun m0 H => read9 H
  generalize txtR (cch b l) l 130 0 [] = r at g1 g2 R9 a2
  obtain ⟨p, o⟩ := r
  obtain ⟨m', rfl, a3⟩ := a2
  cases o with
  | none =>
    have a3 : v = kI p ∧ p ≤ l ∧ FrC (CLw q) μ m' := a3
    obtain ⟨rfl, b2, b3⟩ := a3
    have f1 : FrC (CLaw q) μ (pI m' 16 1 (iI 0)) := (b3.mono fun a j z => Or.inl z).put (Or.inr (Or.inl ⟨rfl, rfl⟩))
    have k1 : gI (pI m' 16 1 (iI 0)) 16 1 = kI 0 := by rw [gI_pI, if_pos ⟨rfl, rfl⟩]; rfl
    have k2 : gI (pI m' 16 1 (iI 0)) 113 27 = kI l := by
      rw [gI_pI, if_neg (by omega), b3.1 113 27 (by unfold CLw; omega)]; exact l3
    have k3 : ∀ i, i < l → gI (pI m' 16 1 (iI 0)) 129 i = nB (kI (b i)) := fun i hi => by
      rw [gI_pI, if_neg (by omega), b3.1 129 i (by unfold CLw; omega)]; exact (hb i hi).2.2
    have f1b : FrC (fun a j => CLw q a j ∨ (a = 16 ∧ j = 1) ∨ CF9 a j) μ (pI m' 16 1 (iI 0)) := (b3.mono fun a j z => Or.inl z).put (Or.inr (Or.inl ⟨rfl, rfl⟩))
    generalize pI m' 16 1 (iI 0) = m1 at a1 f1 f1b k1 k2 k3
    obtain ⟨v9, m2, c1, c2, c3⟩ := R9 m1 ⟨l1, fun i hi => (hb i hi).1, k2, k3⟩
    have c3 : v9 = kI p ∧ p ≤ l ∧ FrC CF9 m1 m2 := c3
    obtain ⟨rfl, -, c3⟩ := c3
    have f2 := f1.trans (c3.mono fun a j z => Or.inr (Or.inr (Or.inl (Or.inl z))))
    obtain ⟨n1, n2⟩ := lwv (n := p) (by omega)
    have law2 : ILaw m2 := by unfold ILaw; rw [f2.2.2, f2.2.2]; exact h6
    refine ⟨iI (-100) - kI p, m1, m2, ?_, ?_, Inv.law hq h1.n7 h3 h4 h7 h8 h9 f2 ?_ ?_ ?_ c2 law2⟩
    · unfold F_X8_law
      rw [bnd_eq a1, if_neg n1]
    · unfold F_X9_law
      rw [bnd_eq c1, if_neg n2]
    · refine ⟨h1.1.law hq f2, ?_, h1.2.2⟩
      obtain ⟨lp', w1, w2, w3⟩ := h1.2.1
      have ww : lp' = lp := by rw [← w2, r1]
      subst ww
      refine ⟨lp', w1, by rw [f2.2.2]; exact w2, fun μ' hag => w3 μ' (fun a ha j => ?_)⟩
      rw [hag a ha j, f2.1 a j (fun z => by
        unfold CLaw CLw CT9 CF9 CW9 CE9 LA at z
        omega)]
    · have f3 : FrC (fun a j => CLw q a j ∨ (a = 16 ∧ j = 1) ∨ CF9 a j) μ m2 := f1b.trans (c3.mono fun a j z => Or.inr (Or.inr z))
      exact h2.fr f3 (fun a j z w => by
        unfold CLw CF9 CW9 CE9 at z
        unfold CP at w
        omega)
    · rw [c3.1 16 1 (by unfold CF9 CW9 CE9; omega)]; exact k1
  | some T =>
    have a3 : v = iI (-1) ∧ ∃ p, P8 q μ m' p (iI (-1)) (lay T) := a3
    have g1 : ∀ ln, ln ∈ T → LV ln := g1
    have g2 : (lay T).length ≤ l + 1 := g2
    obtain ⟨rfl, p8, b3, b4, b5, b6, b7, b8⟩ := a3
    have f1 : FrC (CLaw q) μ (pI m' 16 1 (iI 0)) := (b3.mono fun a j z => Or.inl z).put (Or.inr (Or.inl ⟨rfl, rfl⟩))
    have k1 : gI (pI m' 16 1 (iI 0)) 16 1 = kI 0 := by rw [gI_pI, if_pos ⟨rfl, rfl⟩]; rfl
    have k2 : gI (pI m' 16 1 (iI 0)) 113 27 = kI l := by
      rw [gI_pI, if_neg (by omega), b3.1 113 27 (by unfold CLw; omega)]; exact l3
    have k3 : ∀ i, i < l → gI (pI m' 16 1 (iI 0)) 129 i = nB (kI (b i)) := fun i hi => by
      rw [gI_pI, if_neg (by omega), b3.1 129 i (by unfold CLw; omega)]; exact (hb i hi).2.2
    have k4 : gI (pI m' 16 1 (iI 0)) q 2 = kI (lay T).length := by
      rw [gI_pI, if_neg (by omega)]; exact b6
    have k5 : ∀ i, i < (lay T).length → gI (pI m' 16 1 (iI 0)) (q + 1) i = kI ((lay T).getD i (0, 0)).1 ∧ gI (pI m' 16 1 (iI 0)) (q + 2) i = kI ((lay T).getD i (0, 0)).2 := fun i hi => by
      rw [gI_pI, if_neg (by omega), gI_pI, if_neg (by omega)]; exact b8 i hi
    generalize pI m' 16 1 (iI 0) = m1 at a1 f1 k1 k2 k3 k4 k5
    have f2 : FrC (CLaw q) (pR (pR μ 16 4 lp) 2 6 q) (pR (pR m1 16 4 lp) 2 6 q) := f1.pR
    have x8 : F_X8_law μ = some (iI 1, pR (pR m1 16 4 lp) 2 6 q) := by
      unfold F_X8_law
      rw [bnd_eq a1, if_pos rfl, f1.2.2, r1, gdS_yes hs1]
      unfold F_X6_draftFor
      rw [if_pos hs1, f1.2.2, r2, gdS_yes hs2, nm_eq, bnd_some, gdS_yes hs2, nm_eq]
    obtain ⟨v9, m2, c1, c2, c3⟩ := R9 (pR (pR m1 16 4 lp) 2 6 q) ⟨l1, fun i hi => (hb i hi).1, k2, k3⟩
    have c3 : v9 = iI (-1) ∧ FrC CT9 (pR (pR m1 16 4 lp) 2 6 q) m2 ∧ Stp9 0 (flat T) m2 ∧ LnI 0 T m2 ∧ (flat T).length ≤ 120 ∧ T.length ≤ 60 := c3
    obtain ⟨rfl, c3, c4, c5, c6, c7⟩ := c3
    have f3 : FrC (fun a j => a = 113 ∧ j = 39) m2 (pI m2 113 39 (iI 1)) := FrC.put (C := fun a j => a = 113 ∧ j = 39) FrC.refl ⟨rfl, rfl⟩
    have f4 := (f2.trans (c3.mono fun a j z => Or.inr (Or.inr (Or.inl z)))).trans (f3.mono fun a j z => Or.inr (Or.inr (Or.inr z)))
    have f5 : FrC (fun a j => CT9 a j ∨ (a = 113 ∧ j = 39)) (pR (pR m1 16 4 lp) 2 6 q) (pI m2 113 39 (iI 1)) := (c3.mono fun a j z => Or.inl z).trans (f3.mono fun a j z => Or.inr z)
    have x9 : F_X9_law (pR (pR m1 16 4 lp) 2 6 q) = some (iI 1, pI m2 113 39 (iI 1)) := by
      unfold F_X9_law
      rw [bnd_eq c1, if_pos (by decide)]
      rfl
    have j1 : gI (pI m2 113 39 (iI 1)) 113 39 = kI 1 := by rw [gI_pI, if_pos ⟨rfl, rfl⟩]; rfl
    have j2 : gI (pI m2 113 39 (iI 1)) 113 27 = kI 0 := by rw [gI_pI, if_neg (by omega)]; exact c2
    have j3 : Stp9 0 (flat T) (pI m2 113 39 (iI 1)) := fun i hi => by
      rw [gI_pI, if_neg (by omega), gI_pI, if_neg (by omega)]; exact c4 i hi
    have j4 : LnI 0 T (pI m2 113 39 (iI 1)) := ln_fr c5 f3 (fun a j q => by omega)
    have e6 : gR (pR (pR μ 16 4 lp) 2 6 q) 2 6 = q ∧ gR (pR (pR μ 16 4 lp) 2 6 q) 16 4 = lp := by
      refine ⟨by rw [gR_pR, if_pos ⟨rfl, rfl⟩], by rw [gR_pR, if_neg (by omega), gR_pR, if_pos ⟨rfl, rfl⟩]⟩
    refine ⟨iI 1, _, _, x8, x9, ?_⟩
    have e1 : ∀ a j, (a = q ∨ a = q + 1 ∨ a = q + 2 ∨ (a = 16 ∧ j = 1)) → gI (pI m2 113 39 (iI 1)) a j = gI m1 a j := fun a j z => f5.1 a j (fun w => by
      unfold CT9 CF9 CW9 CE9 LA at w
      omega)
    generalize pI m2 113 39 (iI 1) = m3 at f4 j1 j2 j3 j4 e1
    have e7 : gR m3 2 6 = q := by rw [f4.2.2]; exact e6.1
    have e8 : gR m3 16 4 = lp := by rw [f4.2.2]; exact e6.2
    refine Inv.law (P := wF P fun w x t l o r => lawF (nms w x t l o r) T) hq h1.n7 h3.pR.wF h4.pR h7.pR h8.pR h9.pR f4 ?_ ?_ ?_ j2 ?_
    · refine ⟨(h1.1.pR.law hq f4).wF, ⟨q, hq, e7, fun μ' hag w x t l' o r => ?_⟩, h1.2.2.wF⟩
      refine number_eq hq ?_ (by omega) (fun i hi => ?_) g1 w x t l' o r
      · rw [hag q (Or.inl rfl), e1 q 2 (Or.inl rfl)]; exact k4
      · rw [hag (q + 1) (Or.inr (Or.inl rfl)), hag (q + 2) (Or.inr (Or.inr rfl)), e1 (q + 1) i (by omega), e1 (q + 2) i (by omega)]; exact k5 i hi
    · refine ⟨(h2.1.pR.law hq f4).wF, Or.inr ⟨j1, fun μ' hag => ?_⟩, h2.2.2.wF⟩
      refine gives_eq c6 c7 (fun i hi => ?_) ⟨?_, fun i hi => ?_⟩ g1
      · rw [hag 130 _ (by omega), hag 131 _ (by omega)]; exact j3 i hi
      · rw [hag 132 0 (by omega)]; exact j4.1
      · rw [hag 133 _ (by omega), hag 134 _ (by omega)]; exact j4.2 i hi
    · rw [e1 16 1 (by omega)]; exact k1
    · rcases hlp with rfl | rfl
      · rcases hq with rfl | rfl
        · exact absurd rfl hne
        · exact Or.inr ⟨e7, e8⟩
      · rcases hq with rfl | rfl
        · exact Or.inl ⟨e7, e8⟩
        · exact absurd rfl hne
