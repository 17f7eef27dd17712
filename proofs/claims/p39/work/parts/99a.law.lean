/-! A LAW IS MADE: BOTH -/
theorem vst_lt {i : Ins} {d e : Nat} (h : vst i d e) : i.1 < 128 := by
  unfold vst Op2 at h; omega
theorem Vd.lt : ∀ {t : List Ins} {d e : Nat}, Vd t d e → ∀ i, i ∈ t → i.1 < 128
  | [], _, _, _, i, hi => absurd hi (List.not_mem_nil)
  | j :: t, d, e, h, i, hi => by
    obtain ⟨d', h1, h2⟩ := h
    rcases List.mem_cons.mp hi with q | q
    · rw [q]; exact vst_lt h1
    · exact Vd.lt h2 i q
/-- the place of the law -/
def LA (a j : Nat) : Prop := ((a = 130 ∨ a = 131) ∧ j < 130) ∨ (a = 132 ∧ j = 0) ∨ ((a = 133 ∨ a = 134) ∧ j < 61)
def CF9 (a j : Nat) : Prop := CW9 a j ∨ (a = 113 ∧ j = 27)
def CT9 (a j : Nat) : Prop := CF9 a j ∨ LA a j
