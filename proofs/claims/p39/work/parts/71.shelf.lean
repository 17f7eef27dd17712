/-! COUNT, FEED, BODY, TRACE, THE SHELVES OF BOTH -/
theorem feed_val {c : Nat} (hc : c ≤ 255) : nC (((kI c).toUInt32 % 65536).toInt32) = kI c ∧ nB ((kI c).toInt8.toInt32) = nB (kI c) := (by decide +kernel : ∀ c, c < 256 → nC (((kI c).toUInt32 % 65536).toInt32) = kI c ∧ nB ((kI c).toInt8.toInt32) = nB (kI c)) c (by omega)
