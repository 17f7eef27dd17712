/-! THE INVARIANT OF ALL CALLS -/
def tot (e : Ev) : Nat := eP e + (eT e 0 + eT e 1 + eT e 2 + eT e 3 + eT e 4 + eT e 5 + eT e 6)
def Z0 (e : Ev) : Prop := eP e = 0 → eR e = none ∧ eJ e = none ∧ eA e = 0
/-- what may be mended: which, its place in the class, its place in the reference -/
def Kn (n w num at9 : Nat) : Prop := (w = 0 ∧ ∃ p k, p < n ∧ k < n ∧ num = 10 * p + k ∧ at9 = 7 * p + k) ∨ (w = 1 ∧ ∃ p k, p < n ∧ k < n ∧ p ≠ k ∧ num = 10 * p + k ∧ at9 = 7 * p + k) ∨ (w = 2 ∧ num < n ∧ at9 = num) ∨ (w = 3 ∧ num = 0 ∧ at9 = 0) ∨ (w = 4 ∧ num = 0 ∧ at9 = 0)
/-- a value that it may have -/
def vOk (w v : Nat) : Prop := (w = 0 ∧ v ≤ 99) ∨ (w = 1 ∧ v ≤ 9) ∨ (w = 2 ∧ v ≤ 2) ∨ (w = 3 ∧ 1 ≤ v ∧ v ≤ 3) ∨ (w = 4 ∧ v ≤ 1)
/-- a change: place in the class, which, place in the reference, what it was, what it became -/
abbrev Chg : Type := Nat × Nat × Nat × Nat × Nat
def CC (μ : Mm) (d a : Nat) (E : Nat → Chg) : Prop := gI μ 11 4 = kI d ∧ gI μ 11 5 = kI a ∧ ∀ i, i < a → gI μ 12 i = kI (E i).1 ∧ gI μ 13 i = kI (E i).2.1 ∧ gI μ 14 i = kI (E i).2.2.2.1 ∧ gI μ 15 i = kI (E i).2.2.2.2
def CR (μ : Mm) (d a : Nat) (E : Nat → Chg) : Prop := gI μ 113 20 = kI d ∧ gI μ 113 21 = kI (a - d) ∧ ∀ i, i < a → gI μ 125 i = kI (E i).2.1 ∧ gI μ 126 i = kI (E i).2.2.1 ∧ gI μ 127 i = kI (E i).2.2.2.1 ∧ gI μ 128 i = kI (E i).2.2.2.2
def okC (n : Nat) (c : Chg) : Prop := Kn n c.2.1 c.1 c.2.2.1 ∧ vOk c.2.1 c.2.2.2.1 ∧ vOk c.2.1 c.2.2.2.2
def IChg (μ : Mm) (n : Nat) : Prop := ∃ d a E, d ≤ a ∧ a ≤ 40 ∧ CC μ d a E ∧ CR μ d a E ∧ ∀ i, i < a → okC n (E i)
def ITape (μ : Mm) : Prop := ∃ l, l ≤ 120 ∧ gI μ 16 1 = kI l ∧ gI μ 113 27 = kI l ∧ ∀ i, i < l → ∃ c, c ≤ 255 ∧ gI μ 17 i = kI c ∧ gI μ 129 i = nB (kI c)
def ILaw (μ : Mm) : Prop := (gR μ 2 6 = 6 ∧ gR μ 16 4 = 18) ∨ (gR μ 2 6 = 18 ∧ gR μ 16 4 = 6)
/-- an image kept, of n people -/
def Img (μ : Mm) (n : Nat) (lot : Nat → Nat) (e : Ev) : Prop := RC μ 28 e ∧ LotC μ 28 lot ∧ Z0 e ∧ (∀ P : Pa, PaOk P → pN P = n → LotOk n P lot ∧ WfE n P lot e ∧ gI μ 150 1 = kO (cu P lot e)) ∧ (∀ k, k < n → gI μ 147 k = kI (lot k) ∧ gI μ 148 k = kO (eO e k) ∧ gI μ 149 k = kI (eT e k)) ∧ gI μ 150 0 = kI (wr n (eP e)) ∧ ((n = 0 → (0 : Nat) = 1) → gI μ 150 2 = kI (eP e + 1)) ∧ ((n = 0 → (0 : Nat) = 1) → gI μ 150 3 = kO (eJ e)) ∧ gI μ 150 5 = kI (tot e) ∧ gI μ 150 6 = kI (eA e) ∧ gI μ 150 9 = eN e ∧ (eN e = kI 0 ∨ (gI μ 150 7 = eW e ∧ gI μ 150 8 = eG e))
def IImg (μ : Mm) : Prop := (gI μ 1 8 = iI (-1) ∧ gI μ 113 51 = iI (-1)) ∨ ∃ n lot e, n ≤ 7 ∧ gI μ 1 8 = kI n ∧ gI μ 113 51 = kI n ∧ Img μ n lot e
def IBod (μ : Mm) : Prop := ∃ b r, b ≤ 50 ∧ r ≤ 1000000 ∧ gI μ 100 1 = kI b ∧ gI μ 113 56 = kI b ∧ gI μ 100 3 = kI r ∧ gI μ 113 58 = kI r ∧ (∀ i, i < b → ∃ k, k < 8 ∧ gI μ 101 i = kI k ∧ gI μ 151 i = kI k) ∧ ∀ i, i < r → i < 24 → gI μ 102 i = gI μ 152 i
def she1 (μ : Mm) (s : Nat) : Prop := (gI μ 104 s = iI (-2) ∧ gI μ 153 s = iI (-1)) ∨ (∃ b c, gI μ 104 s = iI (-1) ∧ gI μ 105 s = kI b ∧ gI μ 153 s = kI b ∧ gI μ 100 1 = kI c ∧ b < c ∧ c ≤ 50) ∨ ∃ q n, q ≤ 4 ∧ n ≤ 60 ∧ gI μ 104 s = kI q ∧ gI μ 105 s = kI n ∧ gI μ 153 s = iI (-2 - (q : Int)) ∧ gI μ 154 s = kI n ∧ ∀ i, i < 60 → gL μ (107 + s) i = gL μ 155 (60 * s + i)
def IShe (μ : Mm) : Prop := ∀ s, s < 6 → she1 μ s
/-- cells -/
def CDeed (a j : Nat) : Prop := (23 ≤ a ∧ a ≤ 27) ∨ (a = 113 ∧ 15 ≤ j ∧ j ≤ 19) ∨ a = 117 ∨ ((a = 118 ∨ a = 119) ∧ j < 7) ∨ (120 ≤ a ∧ a ≤ 124 ∧ j = 0)
def CChg (a j : Nat) : Prop := (11 ≤ a ∧ a ≤ 15) ∨ (a = 113 ∧ (j = 20 ∨ j = 21)) ∨ (125 ≤ a ∧ a ≤ 128)
def CTape (a j : Nat) : Prop := (a = 16 ∧ j = 1) ∨ a = 17 ∨ (a = 113 ∧ j = 27) ∨ a = 129
def CImg (a j : Nat) : Prop := (28 ≤ a ∧ a ≤ 32) ∨ (a = 1 ∧ j = 8) ∨ (a = 113 ∧ j = 51) ∨ (147 ≤ a ∧ a ≤ 150)
def CBod (a j : Nat) : Prop := (a = 100 ∧ (j = 1 ∨ j = 3)) ∨ a = 101 ∨ a = 102 ∨ (a = 113 ∧ (j = 56 ∨ j = 58)) ∨ a = 151 ∨ a = 152
def CShe (a j : Nat) : Prop := a = 104 ∨ a = 105 ∨ a = 153 ∨ a = 154 ∨ (a = 100 ∧ j = 1)
def CPc (a : Nat) : Prop := (2 ≤ a ∧ a ≤ 8) ∨ (18 ≤ a ∧ a ≤ 20)
theorem PC.frC {C : Nat → Nat → Prop} {μ μ1 : Mm} {P : Pa} (h : PC μ P) (hf : FrC C μ μ1) (hs : ∀ a j, C a j → ¬ CPc a) : PC μ1 P := by
  have e : ∀ a j, CPc a → gI μ1 a j = gI μ a j := fun a j q => hf.1 a j (fun z => hs a j z q)
  obtain ⟨⟨h1, h2, h3, h4, h5, h6⟩, ⟨lp, l1, l2, l3⟩, ho⟩ := h
  refine ⟨⟨?_, fun p k hp hk => ?_, fun p k hp hk => ?_, fun p hp => ?_, ?_, ?_⟩, ⟨lp, l1, by rw [hf.2.2]; exact l2, fun μ' q => l3 μ' (fun a ha j => ?_)⟩, ho⟩
  · rw [e 2 _ (by unfold CPc; omega)]; exact h1
  · rw [e 3 _ (by unfold CPc; omega)]; exact h2 p k hp hk
  · rw [e 4 _ (by unfold CPc; omega)]; exact h3 p k hp hk
  · rw [e 5 _ (by unfold CPc; omega)]; exact h4 p hp
  · rw [e 2 _ (by unfold CPc; omega)]; exact h5
  · rw [e 2 _ (by unfold CPc; omega)]; exact h6
  · rw [q a ha j, e a j (by unfold CPc; omega)]
theorem RC.frC {C : Nat → Nat → Prop} {μ μ1 : Mm} {t : Nat} {e : Ev} (h : RC μ t e) (hf : FrC C μ μ1) (hs : ∀ a j, C a j → ¬ (t ≤ a ∧ a ≤ t + 4)) : RC μ1 t e := by
  have q : ∀ a, t ≤ a → a ≤ t + 4 → ∀ j, gI μ1 a j = gI μ a j := fun a h1 h2 j => hf.1 a j (fun z => hs a j z ⟨h1, h2⟩)
  obtain ⟨h0, ⟨h1, h2, h3⟩, h4, h5, h6, h7, h8, h9, h10⟩ := h
  refine ⟨h0, ⟨fun k hk => ?_, fun k hk => ?_, fun k hk => ?_⟩, ?_, ?_, ?_, ?_, ?_, ?_, ?_⟩
  · rw [q _ (by omega) (by omega)]; exact h1 k hk
  · rw [q _ (by omega) (by omega)]; exact h2 k hk
  · rw [q _ (by omega) (by omega)]; exact h3 k hk
  all_goals (rw [q _ (by omega) (by omega)]; assumption)
theorem LotC.frC {C : Nat → Nat → Prop} {μ μ1 : Mm} {t : Nat} {lot : Nat → Nat} (h : LotC μ t lot) (hf : FrC C μ μ1) (hs : ∀ a j, C a j → a ≠ t + 1) : LotC μ1 t lot := ⟨fun j hj => by rw [hf.1 (t + 1) j (fun q => hs _ _ q rfl)]; exact h.1 j hj, h.2⟩
theorem CC.fr {C : Nat → Nat → Prop} {μ μ1 : Mm} {d a : Nat} {E : Nat → Chg} (h : CC μ d a E) (hf : FrC C μ μ1) (hs : ∀ a j, C a j → ¬ (11 ≤ a ∧ a ≤ 15)) : CC μ1 d a E := by
  have q : ∀ a j, (11 ≤ a ∧ a ≤ 15) → gI μ1 a j = gI μ a j := fun a j z => hf.1 a j (fun y => hs a j y z)
  obtain ⟨h1, h2, h3⟩ := h
  refine ⟨?_, ?_, fun i hi => ?_⟩
  · rw [q 11 4 (by omega)]; exact h1
  · rw [q 11 5 (by omega)]; exact h2
  · rw [q 12 i (by omega), q 13 i (by omega), q 14 i (by omega), q 15 i (by omega)]; exact h3 i hi
theorem CR.fr {C : Nat → Nat → Prop} {μ μ1 : Mm} {d a : Nat} {E : Nat → Chg} (h : CR μ d a E) (hf : FrC C μ μ1) (hs : ∀ a j, C a j → ¬ ((a = 113 ∧ (j = 20 ∨ j = 21)) ∨ (125 ≤ a ∧ a ≤ 128))) : CR μ1 d a E := by
  have q : ∀ a j, ((a = 113 ∧ (j = 20 ∨ j = 21)) ∨ (125 ≤ a ∧ a ≤ 128)) → gI μ1 a j = gI μ a j := fun a j z => hf.1 a j (fun y => hs a j y z)
  obtain ⟨h1, h2, h3⟩ := h
  refine ⟨?_, ?_, fun i hi => ?_⟩
  · rw [q 113 20 (by omega)]; exact h1
  · rw [q 113 21 (by omega)]; exact h2
  · rw [q 125 i (by omega), q 126 i (by omega), q 127 i (by omega), q 128 i (by omega)]; exact h3 i hi
theorem IChg.fr {C : Nat → Nat → Prop} {μ μ1 : Mm} {n : Nat} (h : IChg μ n) (hf : FrC C μ μ1) (hs : ∀ a j, C a j → ¬ CChg a j) : IChg μ1 n := by
  obtain ⟨d, a, E, h1, h2, h3, h4, h5⟩ := h
  exact ⟨d, a, E, h1, h2, h3.fr hf (fun a j z q => hs a j z (by unfold CChg; omega)), h4.fr hf (fun a j z q => hs a j z (by unfold CChg; omega)), h5⟩
theorem ITape.fr {C : Nat → Nat → Prop} {μ μ1 : Mm} (h : ITape μ) (hf : FrC C μ μ1) (hs : ∀ a j, C a j → ¬ CTape a j) : ITape μ1 := by
  have q : ∀ a j, CTape a j → gI μ1 a j = gI μ a j := fun a j z => hf.1 a j (fun y => hs a j y z)
  obtain ⟨l, h1, h2, h3, h4⟩ := h
  refine ⟨l, h1, ?_, ?_, fun i hi => ?_⟩
  · rw [q 16 1 (by unfold CTape; omega)]; exact h2
  · rw [q 113 27 (by unfold CTape; omega)]; exact h3
  · obtain ⟨c, g1, g2, g3⟩ := h4 i hi
    refine ⟨c, g1, ?_, ?_⟩
    all_goals (rw [q _ _ (by unfold CTape; omega)]; assumption)
theorem IImg.fr {C : Nat → Nat → Prop} {μ μ1 : Mm} (h : IImg μ) (hf : FrC C μ μ1) (hs : ∀ a j, C a j → ¬ CImg a j) : IImg μ1 := by
  have q : ∀ a j, CImg a j → gI μ1 a j = gI μ a j := fun a j z => hf.1 a j (fun y => hs a j y z)
  rcases h with ⟨h1, h2⟩ | ⟨n, lot, e, h1, h2, h3, g1, g2, g3, g4, g5, g6, g7, g8, g9, g10, g11, g12⟩
  · refine Or.inl ⟨?_, ?_⟩
    · rw [q 1 8 (by unfold CImg; omega)]; exact h1
    · rw [q 113 51 (by unfold CImg; omega)]; exact h2
  · refine Or.inr ⟨n, lot, e, h1, ?_, ?_, g1.frC hf (fun a j z => by have := hs a j z; unfold CImg at this; omega), g2.frC hf (fun a j z => by have := hs a j z; unfold CImg at this; omega), g3, fun P hP hn => ?_, fun k hk => ?_, ?_, ?_, ?_, ?_, ?_, ?_, ?_⟩
    · rw [q 1 8 (by unfold CImg; omega)]; exact h2
    · rw [q 113 51 (by unfold CImg; omega)]; exact h3
    · rw [q 150 _ (by unfold CImg; omega)]; exact g4 P hP hn
    · rw [q 147 _ (by unfold CImg; omega), q 148 _ (by unfold CImg; omega), q 149 _ (by unfold CImg; omega)]; exact g5 k hk
    · rw [q 150 _ (by unfold CImg; omega)]; exact g6
    · rw [q 150 _ (by unfold CImg; omega)]; exact g7
    · rw [q 150 _ (by unfold CImg; omega)]; exact g8
    · rw [q 150 _ (by unfold CImg; omega)]; exact g9
    · rw [q 150 _ (by unfold CImg; omega)]; exact g10
    · rw [q 150 _ (by unfold CImg; omega)]; exact g11
    · rw [q 150 _ (by unfold CImg; omega), q 150 _ (by unfold CImg; omega)]; exact g12
theorem IBod.fr {C : Nat → Nat → Prop} {μ μ1 : Mm} (h : IBod μ) (hf : FrC C μ μ1) (hs : ∀ a j, C a j → ¬ CBod a j) : IBod μ1 := by
  have q : ∀ a j, CBod a j → gI μ1 a j = gI μ a j := fun a j z => hf.1 a j (fun y => hs a j y z)
  obtain ⟨b, r, h1, h2, h3, h4, h5, h6, h7, h8⟩ := h
  refine ⟨b, r, h1, h2, ?_, ?_, ?_, ?_, fun i hi => ?_, fun i hi hj => ?_⟩
  · rw [q _ _ (by unfold CBod; omega)]; exact h3
  · rw [q _ _ (by unfold CBod; omega)]; exact h4
  · rw [q _ _ (by unfold CBod; omega)]; exact h5
  · rw [q _ _ (by unfold CBod; omega)]; exact h6
  · rw [q _ _ (by unfold CBod; omega), q 151 _ (by unfold CBod; omega)]; exact h7 i hi
  · rw [q _ _ (by unfold CBod; omega), q 152 _ (by unfold CBod; omega)]; exact h8 i hi hj
theorem IShe.fr {C : Nat → Nat → Prop} {μ μ1 : Mm} (h : IShe μ) (hf : FrC C μ μ1) (hs : ∀ a j, C a j → ¬ CShe a j) : IShe μ1 := by
  have q : ∀ a j, CShe a j → gI μ1 a j = gI μ a j := fun a j z => hf.1 a j (fun y => hs a j y z)
  intro s hs6
  rcases h s hs6 with ⟨h1, h2⟩ | ⟨b, c, h1, h2, h3, h4, h5⟩ | ⟨w, n, h0, h1, h2, h3, h4, h5, h6⟩
  · refine Or.inl ⟨?_, ?_⟩
    all_goals (rw [q _ _ (by unfold CShe; omega)]; assumption)
  · refine Or.inr (Or.inl ⟨b, c, ?_, ?_, ?_, ?_, h5⟩)
    all_goals (rw [q _ _ (by unfold CShe; omega)]; assumption)
  · refine Or.inr (Or.inr ⟨w, n, h0, h1, ?_, ?_, ?_, ?_, fun i hi => ?_⟩)
    · rw [q _ _ (by unfold CShe; omega)]; exact h2
    · rw [q _ _ (by unfold CShe; omega)]; exact h3
    · rw [q _ _ (by unfold CShe; omega)]; exact h4
    · rw [q _ _ (by unfold CShe; omega)]; exact h5
    · rw [hf.2.1, hf.2.1]; exact h6 i hi
theorem ILaw.fr {C : Nat → Nat → Prop} {μ μ1 : Mm} (h : ILaw μ) (hf : FrC C μ μ1) : ILaw μ1 := by
  unfold ILaw
  rw [hf.2.2, hf.2.2]
  exact h
