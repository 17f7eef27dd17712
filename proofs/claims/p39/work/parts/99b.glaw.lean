/-! LAW, OF BOTH -/
def CLaw (q a j : Nat) : Prop := CLw q a j ∨ (a = 16 ∧ j = 1) ∨ CT9 a j ∨ (a = 113 ∧ j = 39)
def wF (P : Pa) (F : Int32 → Int32 → Int32 → Int32 → Int32 → Int32 → Int32) : Pa := (P.1, P.2.1, P.2.2.1, P.2.2.2.1, P.2.2.2.2.1, P.2.2.2.2.2.1, F)
theorem PC0.wF {μ : Mm} {P : Pa} {F : Int32 → Int32 → Int32 → Int32 → Int32 → Int32 → Int32} (h : PC0 μ P) : PC0 μ (wF P F) := h
theorem PaOk.wF {P : Pa} {F : Int32 → Int32 → Int32 → Int32 → Int32 → Int32 → Int32} (h : PaOk P) : PaOk (wF P F) := h
theorem IChg.pR {μ : Mm} {n : Nat} {a j v b k w : Nat} (h : IChg μ n) : IChg (pR (pR μ a j v) b k w) n := h
theorem IImg.pR {μ : Mm} {a j v b k w : Nat} (h : IImg μ) : IImg (pR (pR μ a j v) b k w) := h
theorem IBod.pR {μ : Mm} {a j v b k w : Nat} (h : IBod μ) : IBod (pR (pR μ a j v) b k w) := h
theorem IShe.pR {μ : Mm} {a j v b k w : Nat} (h : IShe μ) : IShe (pR (pR μ a j v) b k w) := h
theorem PC0.pR {μ : Mm} {P : Pa} {a j v b k w : Nat} (h : PC0 μ P) : PC0 (pR (pR μ a j v) b k w) P := h
theorem FrC.pR {C : Nat → Nat → Prop} {μ μ1 : Mm} {a j v b k w : Nat} (h : FrC C μ μ1) : FrC C (pR (pR μ a j v) b k w) (pR (pR μ1 a j v) b k w) := ⟨h.1, h.2.1, fun x y => by
  rw [gR_pR, gR_pR, gR_pR, gR_pR, h.2.2]⟩
section GLAW
variable {μ m : Mm} {P : Pa} {q : Nat}
theorem PC0.law (hq : q = 6 ∨ q = 18) (h : PC0 μ P) (hf : FrC (CLaw q) μ m) : PC0 m P := by
  obtain ⟨h1, h2, h3, h4, h5, h6⟩ := h
  have e : ∀ a j, 2 ≤ a → a ≤ 5 → gI m a j = gI μ a j := fun a j g1 g2 => hf.1 a j (fun z => by
    unfold CLaw CLw CT9 CF9 CW9 CE9 LA at z
    omega)
  refine ⟨?_, fun p k hp hk => ?_, fun p k hp hk => ?_, fun p hp => ?_, ?_, ?_⟩
  · rw [e 2 _ (by omega) (by omega)]; exact h1
  · rw [e 3 _ (by omega) (by omega)]; exact h2 p k hp hk
  · rw [e 4 _ (by omega) (by omega)]; exact h3 p k hp hk
  · rw [e 5 _ (by omega) (by omega)]; exact h4 p hp
  · rw [e 2 _ (by omega) (by omega)]; exact h5
  · rw [e 2 _ (by omega) (by omega)]; exact h6
end GLAW
theorem lwv {n : Nat} (h : n ≤ 120) : ¬ kI n = iI (-1) ∧ ¬ kI n < iI 0 := (by decide +kernel : ∀ n, n ≤ 120 → ¬ kI n = iI (-1) ∧ ¬ kI n < iI 0) n h
