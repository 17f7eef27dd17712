/-! THE REFERENCE'S WHOLE EVENING -/
theorem cu_end {P : Pa} {lot : Nat → Nat} {e : Ev} (hw : WfE (pN P) P lot e) (h : eP e = pN P) : cu P lot e = none := by
  unfold cu
  cases q : eR e with
  | none =>
    show (if eP e < pN P then _ else none) = none
    rw [if_neg (by omega)]
  | some r => have := (hw.2.2.2.2.2.2.1 r q).1; omega
