/-! THE START -/
def mA : Mm := ((F_X8_init (clr m00 1)).getD ((), m00)).2
def mB : Mm := ((F_X9_init (clr mA 113)).getD ((), m00)).2
theorem get_of {o : Option (Unit × Mm)} (h : o.isSome = true) : o = some ((), (o.getD ((), m00)).2) := by
  cases o with
  | none => cases h
  | some x => rfl
theorem i8_eq : F_X8_init (clr m00 1) = some ((), mA) := get_of (by decide +kernel)
theorem i9_eq : F_X9_init (clr mA 113) = some ((), mB) := get_of (by decide +kernel)
