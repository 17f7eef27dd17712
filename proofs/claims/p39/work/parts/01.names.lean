-- ===== PART A: goes FIRST, ahead of the names: the tables' words, and 'selects' of the private methods out of them =====
/-- a private method of a class that the tables say can be made, by its rows of tables_1 -/
def lw_okq (q : MethodName × Nat) : Prop := (q.1.cls ≠ "java/lang/invoke/MethodHandle" ∧ q.1.cls ≠ "java/lang/invoke/VarHandle") ∧ Cond.instantiable q.1.cls q.2 ∈ tables_1 ∧ Cond.privateMethod q.1 ∈ tables_1 ∧ Cond.instanceMethod q.1 ∈ tables_1
theorem lw_p0 : lw_okq (⟨"OpenOrTake$Evening", "give", "(II)V"⟩, 11) := ⟨⟨by decide +kernel, by decide +kernel⟩, List.mem_of_getElem? (i := 144) (by decide +kernel), List.mem_of_getElem? (i := 351) (by decide +kernel), List.mem_of_getElem? (i := 352) (by decide +kernel)⟩
theorem lw_p1 : lw_okq (⟨"OpenOrTake$Evening", "byTheLaw", "(ILOpenOrTake$Party;)I"⟩, 11) := ⟨⟨by decide +kernel, by decide +kernel⟩, List.mem_of_getElem? (i := 144) (by decide +kernel), List.mem_of_getElem? (i := 364) (by decide +kernel), List.mem_of_getElem? (i := 365) (by decide +kernel)⟩
theorem lw_p2 : lw_okq (⟨"OpenOrTake$Evening", "guess", "(ILOpenOrTake$Party;)I"⟩, 11) := ⟨⟨by decide +kernel, by decide +kernel⟩, List.mem_of_getElem? (i := 144) (by decide +kernel), List.mem_of_getElem? (i := 368) (by decide +kernel), List.mem_of_getElem? (i := 369) (by decide +kernel)⟩
theorem lw_p3 : lw_okq (⟨"OpenOrTake$Evening", "fromWhomItLikesLeast", "(ILOpenOrTake$Party;)I"⟩, 11) := ⟨⟨by decide +kernel, by decide +kernel⟩, List.mem_of_getElem? (i := 144) (by decide +kernel), List.mem_of_getElem? (i := 398) (by decide +kernel), List.mem_of_getElem? (i := 399) (by decide +kernel)⟩
theorem lw_p4 : lw_okq (⟨"OpenOrTake$Evening", "ofMostWorth", "(ILOpenOrTake$Party;)I"⟩, 11) := ⟨⟨by decide +kernel, by decide +kernel⟩, List.mem_of_getElem? (i := 144) (by decide +kernel), List.mem_of_getElem? (i := 402) (by decide +kernel), List.mem_of_getElem? (i := 403) (by decide +kernel)⟩
theorem lw_p5 : lw_okq (⟨"OpenOrTake$Evening", "exchange", "(III)V"⟩, 11) := ⟨⟨by decide +kernel, by decide +kernel⟩, List.mem_of_getElem? (i := 144) (by decide +kernel), List.mem_of_getElem? (i := 427) (by decide +kernel), List.mem_of_getElem? (i := 428) (by decide +kernel)⟩
theorem lw_p6 : lw_okq (⟨"OpenOrTake$Thought", "lookAhead", "(I)V"⟩, 9) := ⟨⟨by decide +kernel, by decide +kernel⟩, List.mem_of_getElem? (i := 198) (by decide +kernel), List.mem_of_getElem? (i := 478) (by decide +kernel), List.mem_of_getElem? (i := 479) (by decide +kernel)⟩
theorem lw_p7 : lw_okq (⟨"OpenOrTake$Thought", "comeTo", "(I)V"⟩, 9) := ⟨⟨by decide +kernel, by decide +kernel⟩, List.mem_of_getElem? (i := 198) (by decide +kernel), List.mem_of_getElem? (i := 489) (by decide +kernel), List.mem_of_getElem? (i := 490) (by decide +kernel)⟩
theorem lw_p8 : lw_okq (⟨"OpenOrTake$Thought", "worthAtEnd", "(II)I"⟩, 9) := ⟨⟨by decide +kernel, by decide +kernel⟩, List.mem_of_getElem? (i := 198) (by decide +kernel), List.mem_of_getElem? (i := 495) (by decide +kernel), List.mem_of_getElem? (i := 496) (by decide +kernel)⟩
theorem lw_p9 : lw_okq (⟨"OpenOrTake$Thought", "fillMostBehind", "()V"⟩, 9) := ⟨⟨by decide +kernel, by decide +kernel⟩, List.mem_of_getElem? (i := 198) (by decide +kernel), List.mem_of_getElem? (i := 508) (by decide +kernel), List.mem_of_getElem? (i := 509) (by decide +kernel)⟩
theorem lw_p10 : lw_okq (⟨"OpenOrTake$Thought", "worthWithAllBehind", "(III)I"⟩, 9) := ⟨⟨by decide +kernel, by decide +kernel⟩, List.mem_of_getElem? (i := 198) (by decide +kernel), List.mem_of_getElem? (i := 518) (by decide +kernel), List.mem_of_getElem? (i := 519) (by decide +kernel)⟩
theorem lw_p11 : lw_okq (⟨"OpenOrTake$Thought", "firstBest", "(II)I"⟩, 9) := ⟨⟨by decide +kernel, by decide +kernel⟩, List.mem_of_getElem? (i := 198) (by decide +kernel), List.mem_of_getElem? (i := 523) (by decide +kernel), List.mem_of_getElem? (i := 524) (by decide +kernel)⟩
theorem lw_p12 : lw_okq (⟨"OpenOrTake$Thought", "envies", "(LOpenOrTake$Evening;II)Z"⟩, 9) := ⟨⟨by decide +kernel, by decide +kernel⟩, List.mem_of_getElem? (i := 198) (by decide +kernel), List.mem_of_getElem? (i := 536) (by decide +kernel), List.mem_of_getElem? (i := 537) (by decide +kernel)⟩
theorem lw_p13 : lw_okq (⟨"OpenOrTake$Thought", "lessen", "(II)V"⟩, 9) := ⟨⟨by decide +kernel, by decide +kernel⟩, List.mem_of_getElem? (i := 198) (by decide +kernel), List.mem_of_getElem? (i := 548) (by decide +kernel), List.mem_of_getElem? (i := 549) (by decide +kernel)⟩
theorem lw_p14 : lw_okq (⟨"OpenOrTake$Thought", "lotsBehind", "(II)I"⟩, 9) := ⟨⟨by decide +kernel, by decide +kernel⟩, List.mem_of_getElem? (i := 198) (by decide +kernel), List.mem_of_getElem? (i := 602) (by decide +kernel), List.mem_of_getElem? (i := 603) (by decide +kernel)⟩
theorem lw_p15 : lw_okq (⟨"OpenOrTake", "welcome", "(I)I"⟩, 9) := ⟨⟨by decide +kernel, by decide +kernel⟩, List.mem_of_getElem? (i := 15) (by decide +kernel), List.mem_of_getElem? (i := 666) (by decide +kernel), List.mem_of_getElem? (i := 667) (by decide +kernel)⟩
def lw_privs_1 : List (MethodName × Nat) := [(⟨"OpenOrTake$Evening", "give", "(II)V"⟩, 11), (⟨"OpenOrTake$Evening", "byTheLaw", "(ILOpenOrTake$Party;)I"⟩, 11), (⟨"OpenOrTake$Evening", "guess", "(ILOpenOrTake$Party;)I"⟩, 11), (⟨"OpenOrTake$Evening", "fromWhomItLikesLeast", "(ILOpenOrTake$Party;)I"⟩, 11), (⟨"OpenOrTake$Evening", "ofMostWorth", "(ILOpenOrTake$Party;)I"⟩, 11), (⟨"OpenOrTake$Evening", "exchange", "(III)V"⟩, 11), (⟨"OpenOrTake$Thought", "lookAhead", "(I)V"⟩, 9), (⟨"OpenOrTake$Thought", "comeTo", "(I)V"⟩, 9), (⟨"OpenOrTake$Thought", "worthAtEnd", "(II)I"⟩, 9), (⟨"OpenOrTake$Thought", "fillMostBehind", "()V"⟩, 9), (⟨"OpenOrTake$Thought", "worthWithAllBehind", "(III)I"⟩, 9), (⟨"OpenOrTake$Thought", "firstBest", "(II)I"⟩, 9), (⟨"OpenOrTake$Thought", "envies", "(LOpenOrTake$Evening;II)Z"⟩, 9), (⟨"OpenOrTake$Thought", "lessen", "(II)V"⟩, 9), (⟨"OpenOrTake$Thought", "lotsBehind", "(II)I"⟩, 9), (⟨"OpenOrTake", "welcome", "(I)I"⟩, 9)]
theorem lw_r1 : ∀ q ∈ lw_privs_1, lw_okq q := List.forall_mem_cons.mpr ⟨lw_p0, List.forall_mem_cons.mpr ⟨lw_p1, List.forall_mem_cons.mpr ⟨lw_p2, List.forall_mem_cons.mpr ⟨lw_p3, List.forall_mem_cons.mpr ⟨lw_p4, List.forall_mem_cons.mpr ⟨lw_p5, List.forall_mem_cons.mpr ⟨lw_p6, List.forall_mem_cons.mpr ⟨lw_p7, List.forall_mem_cons.mpr ⟨lw_p8, List.forall_mem_cons.mpr ⟨lw_p9, List.forall_mem_cons.mpr ⟨lw_p10, List.forall_mem_cons.mpr ⟨lw_p11, List.forall_mem_cons.mpr ⟨lw_p12, List.forall_mem_cons.mpr ⟨lw_p13, List.forall_mem_cons.mpr ⟨lw_p14, List.forall_mem_cons.mpr ⟨lw_p15, fun _ h => absurd h List.not_mem_nil⟩⟩⟩⟩⟩⟩⟩⟩⟩⟩⟩⟩⟩⟩⟩⟩
theorem lw_p16 : lw_okq (⟨"OpenOrTake$Changes", "forgetOldest", "()V"⟩, 6) := ⟨⟨by decide +kernel, by decide +kernel⟩, List.mem_of_getElem? (i := 93) (by decide +kernel), List.mem_of_getElem? (i := 684) (by decide +kernel), List.mem_of_getElem? (i := 685) (by decide +kernel)⟩
theorem lw_p17 : lw_okq (⟨"OpenOrTake$Tape", "line", "()V"⟩, 5) := ⟨⟨by decide +kernel, by decide +kernel⟩, List.mem_of_getElem? (i := 119) (by decide +kernel), List.mem_of_getElem? (i := 734) (by decide +kernel), List.mem_of_getElem? (i := 735) (by decide +kernel)⟩
theorem lw_p18 : lw_okq (⟨"OpenOrTake$Tape", "either", "(I)V"⟩, 5) := ⟨⟨by decide +kernel, by decide +kernel⟩, List.mem_of_getElem? (i := 119) (by decide +kernel), List.mem_of_getElem? (i := 738) (by decide +kernel), List.mem_of_getElem? (i := 739) (by decide +kernel)⟩
theorem lw_p19 : lw_okq (⟨"OpenOrTake$Tape", "both", "(I)V"⟩, 5) := ⟨⟨by decide +kernel, by decide +kernel⟩, List.mem_of_getElem? (i := 119) (by decide +kernel), List.mem_of_getElem? (i := 742) (by decide +kernel), List.mem_of_getElem? (i := 743) (by decide +kernel)⟩
theorem lw_p20 : lw_okq (⟨"OpenOrTake$Tape", "compared", "(I)V"⟩, 5) := ⟨⟨by decide +kernel, by decide +kernel⟩, List.mem_of_getElem? (i := 119) (by decide +kernel), List.mem_of_getElem? (i := 746) (by decide +kernel), List.mem_of_getElem? (i := 747) (by decide +kernel)⟩
theorem lw_p21 : lw_okq (⟨"OpenOrTake$Tape", "sum", "(I)V"⟩, 5) := ⟨⟨by decide +kernel, by decide +kernel⟩, List.mem_of_getElem? (i := 119) (by decide +kernel), List.mem_of_getElem? (i := 750) (by decide +kernel), List.mem_of_getElem? (i := 751) (by decide +kernel)⟩
theorem lw_p22 : lw_okq (⟨"OpenOrTake$Tape", "product", "(I)V"⟩, 5) := ⟨⟨by decide +kernel, by decide +kernel⟩, List.mem_of_getElem? (i := 119) (by decide +kernel), List.mem_of_getElem? (i := 754) (by decide +kernel), List.mem_of_getElem? (i := 755) (by decide +kernel)⟩
theorem lw_p23 : lw_okq (⟨"OpenOrTake$Tape", "operand", "(I)V"⟩, 5) := ⟨⟨by decide +kernel, by decide +kernel⟩, List.mem_of_getElem? (i := 119) (by decide +kernel), List.mem_of_getElem? (i := 758) (by decide +kernel), List.mem_of_getElem? (i := 759) (by decide +kernel)⟩
theorem lw_p24 : lw_okq (⟨"OpenOrTake$Tape", "ahead", "()I"⟩, 5) := ⟨⟨by decide +kernel, by decide +kernel⟩, List.mem_of_getElem? (i := 119) (by decide +kernel), List.mem_of_getElem? (i := 762) (by decide +kernel), List.mem_of_getElem? (i := 763) (by decide +kernel)⟩
theorem lw_p25 : lw_okq (⟨"OpenOrTake$Tape", "number", "()V"⟩, 5) := ⟨⟨by decide +kernel, by decide +kernel⟩, List.mem_of_getElem? (i := 119) (by decide +kernel), List.mem_of_getElem? (i := 769) (by decide +kernel), List.mem_of_getElem? (i := 770) (by decide +kernel)⟩
theorem lw_p26 : lw_okq (⟨"OpenOrTake$Tape", "fail", "()V"⟩, 5) := ⟨⟨by decide +kernel, by decide +kernel⟩, List.mem_of_getElem? (i := 119) (by decide +kernel), List.mem_of_getElem? (i := 780) (by decide +kernel), List.mem_of_getElem? (i := 781) (by decide +kernel)⟩
theorem lw_p27 : lw_okq (⟨"OpenOrTake$Tape", "write", "(C)V"⟩, 5) := ⟨⟨by decide +kernel, by decide +kernel⟩, List.mem_of_getElem? (i := 119) (by decide +kernel), List.mem_of_getElem? (i := 784) (by decide +kernel), List.mem_of_getElem? (i := 785) (by decide +kernel)⟩
theorem lw_p28 : lw_okq (⟨"OpenOrTake$Tape", "comes", "(C)Z"⟩, 5) := ⟨⟨by decide +kernel, by decide +kernel⟩, List.mem_of_getElem? (i := 119) (by decide +kernel), List.mem_of_getElem? (i := 788) (by decide +kernel), List.mem_of_getElem? (i := 789) (by decide +kernel)⟩
def lw_privs_2 : List (MethodName × Nat) := [(⟨"OpenOrTake$Changes", "forgetOldest", "()V"⟩, 6), (⟨"OpenOrTake$Tape", "line", "()V"⟩, 5), (⟨"OpenOrTake$Tape", "either", "(I)V"⟩, 5), (⟨"OpenOrTake$Tape", "both", "(I)V"⟩, 5), (⟨"OpenOrTake$Tape", "compared", "(I)V"⟩, 5), (⟨"OpenOrTake$Tape", "sum", "(I)V"⟩, 5), (⟨"OpenOrTake$Tape", "product", "(I)V"⟩, 5), (⟨"OpenOrTake$Tape", "operand", "(I)V"⟩, 5), (⟨"OpenOrTake$Tape", "ahead", "()I"⟩, 5), (⟨"OpenOrTake$Tape", "number", "()V"⟩, 5), (⟨"OpenOrTake$Tape", "fail", "()V"⟩, 5), (⟨"OpenOrTake$Tape", "write", "(C)V"⟩, 5), (⟨"OpenOrTake$Tape", "comes", "(C)Z"⟩, 5)]
theorem lw_r2 : ∀ q ∈ lw_privs_2, lw_okq q := List.forall_mem_cons.mpr ⟨lw_p16, List.forall_mem_cons.mpr ⟨lw_p17, List.forall_mem_cons.mpr ⟨lw_p18, List.forall_mem_cons.mpr ⟨lw_p19, List.forall_mem_cons.mpr ⟨lw_p20, List.forall_mem_cons.mpr ⟨lw_p21, List.forall_mem_cons.mpr ⟨lw_p22, List.forall_mem_cons.mpr ⟨lw_p23, List.forall_mem_cons.mpr ⟨lw_p24, List.forall_mem_cons.mpr ⟨lw_p25, List.forall_mem_cons.mpr ⟨lw_p26, List.forall_mem_cons.mpr ⟨lw_p27, List.forall_mem_cons.mpr ⟨lw_p28, fun _ h => absurd h List.not_mem_nil⟩⟩⟩⟩⟩⟩⟩⟩⟩⟩⟩⟩⟩
def lw_privs : List (MethodName × Nat) := lw_privs_1 ++ (lw_privs_2)
def lw_tbl : List Cond := k2_sels lw_privs ++ tables_1
theorem lw_privs_ok : ∀ q ∈ lw_privs, lw_okq q := by
  show ∀ q ∈ lw_privs_1 ++ (lw_privs_2), lw_okq q
  exact List.forall_mem_append.mpr ⟨lw_r1, lw_r2⟩
-- ===== end of PART A; then your names; then what follows =====
/-! ===== BEGIN printed: names, fields, word lists, decode rows ===== -/
def RX0 : String := "OpenOrTake$Bodies"
def TX0 : u_T := fun k => match k with
  | 0 => ("OpenOrTake$Bodies", "kinds", "[I", true)
  | 1 => ("OpenOrTake$Bodies", "count", "I", false)
  | 2 => ("OpenOrTake$Bodies", "trace", "[I", true)
  | 3 => ("OpenOrTake$Bodies", "ran", "I", false)
  | _ => ("OpenOrTake$Bodies", "self", "I", false)
def tyX0 : Nat → FieldType := fun k => match k with
  | 0 => .array .int
  | 1 => .int
  | 2 => .array .int
  | 3 => .int
  | _ => .int
abbrev wsX00 : List Cond := u_ws RX0 TX0 5
theorem nmX0 : ∀ a, a < 5 → ∀ b, b < 5 → a ≠ b → (TX0 a).2.1 ≠ (TX0 b).2.1 := by decide +kernel
theorem tyX0_ok : ∀ k, k < 5 → parseFieldDescriptor (TX0 k).2.2.1 = some (tyX0 k) := by decide +kernel
abbrev cX0_init : ByteArray := prog_2_method_1_code
def yX0_init : MethodName := ⟨RX0, "<init>", "()V"⟩
def RX1 : String := "OpenOrTake$Changes"
def TX1 : u_T := fun k => match k with
  | 0 => ("OpenOrTake$Changes", "number", "[I", true)
  | 1 => ("OpenOrTake$Changes", "what", "[I", true)
  | 2 => ("OpenOrTake$Changes", "before", "[I", true)
  | 3 => ("OpenOrTake$Changes", "after", "[I", true)
  | 4 => ("OpenOrTake$Changes", "done", "I", false)
  | _ => ("OpenOrTake$Changes", "all", "I", false)
def tyX1 : Nat → FieldType := fun k => match k with
  | 0 => .array .int
  | 1 => .array .int
  | 2 => .array .int
  | 3 => .array .int
  | 4 => .int
  | _ => .int
abbrev wsX10 : List Cond := u_ws RX1 TX1 6
theorem nmX1 : ∀ a, a < 6 → ∀ b, b < 6 → a ≠ b → (TX1 a).2.1 ≠ (TX1 b).2.1 := by decide +kernel
theorem tyX1_ok : ∀ k, k < 6 → parseFieldDescriptor (TX1 k).2.2.1 = some (tyX1 k) := by decide +kernel
abbrev cX1_init : ByteArray := prog_3_method_1_code
def yX1_init : MethodName := ⟨RX1, "<init>", "()V"⟩
abbrev cX1_note : ByteArray := prog_3_method_2_code
def yX1_note : MethodName := ⟨RX1, "note", "(IIII)V"⟩
abbrev cX1_forgetOldest : ByteArray := prog_3_method_3_code
def yX1_forgetOldest : MethodName := ⟨RX1, "forgetOldest", "()V"⟩
def RX2 : String := "OpenOrTake$Evening"
def TX2 : u_T := fun k => match k with
  | 0 => ("OpenOrTake$Evening", "lot", "[I", true)
  | 1 => ("OpenOrTake$Evening", "has", "[I", true)
  | 2 => ("OpenOrTake$Evening", "holder", "[I", true)
  | 3 => ("OpenOrTake$Evening", "taken", "[I", true)
  | 4 => ("OpenOrTake$Evening", "opened", "I", false)
  | 5 => ("OpenOrTake$Evening", "robbed", "I", false)
  | 6 => ("OpenOrTake$Evening", "just", "I", false)
  | 7 => ("OpenOrTake$Evening", "againWas", "Z", false)
  | 8 => ("OpenOrTake$Evening", "latestWho", "I", false)
  | 9 => ("OpenOrTake$Evening", "latestGot", "I", false)
  | _ => ("OpenOrTake$Evening", "turns", "I", false)
def tyX2 : Nat → FieldType := fun k => match k with
  | 0 => .array .int
  | 1 => .array .int
  | 2 => .array .int
  | 3 => .array .int
  | 4 => .int
  | 5 => .int
  | 6 => .int
  | 7 => .boolean
  | 8 => .int
  | 9 => .int
  | _ => .int
abbrev wsX20 : List Cond := u_ws RX2 TX2 11
theorem nmX2 : ∀ a, a < 11 → ∀ b, b < 11 → a ≠ b → (TX2 a).2.1 ≠ (TX2 b).2.1 := by decide +kernel
theorem tyX2_ok : ∀ k, k < 11 → parseFieldDescriptor (TX2 k).2.2.1 = some (tyX2 k) := by decide +kernel
abbrev cX2_init : ByteArray := prog_4_method_1_code
def yX2_init : MethodName := ⟨RX2, "<init>", "()V"⟩
abbrev cX2_hasBegun : ByteArray := prog_4_method_2_code
def yX2_hasBegun : MethodName := ⟨RX2, "hasBegun", "()Z"⟩
abbrev cX2_hasEnded : ByteArray := prog_4_method_3_code
def yX2_hasEnded : MethodName := ⟨RX2, "hasEnded", "(LOpenOrTake$Party;)Z"⟩
abbrev cX2_wrapAll : ByteArray := prog_4_method_4_code
def yX2_wrapAll : MethodName := ⟨RX2, "wrapAll", "()V"⟩
abbrev cX2_become : ByteArray := prog_4_method_5_code
def yX2_become : MethodName := ⟨RX2, "become", "(LOpenOrTake$Evening;)V"⟩
abbrev cX2_beginBy : ByteArray := prog_4_method_6_code
def yX2_beginBy : MethodName := ⟨RX2, "beginBy", "([I)V"⟩
abbrev cX2_changePlaces : ByteArray := prog_4_method_7_code
def yX2_changePlaces : MethodName := ⟨RX2, "changePlaces", "(II)V"⟩
abbrev cX2_whoseTurn : ByteArray := prog_4_method_8_code
def yX2_whoseTurn : MethodName := ⟨RX2, "whoseTurn", "(LOpenOrTake$Party;)I"⟩
abbrev cX2_isSafe : ByteArray := prog_4_method_9_code
def yX2_isSafe : MethodName := ⟨RX2, "isSafe", "(ILOpenOrTake$Party;)Z"⟩
abbrev cX2_countSafe : ByteArray := prog_4_method_10_code
def yX2_countSafe : MethodName := ⟨RX2, "countSafe", "(LOpenOrTake$Party;)I"⟩
abbrev cX2_mayRob : ByteArray := prog_4_method_11_code
def yX2_mayRob : MethodName := ⟨RX2, "mayRob", "(ILOpenOrTake$Party;)Z"⟩
abbrev cX2_unwrap : ByteArray := prog_4_method_12_code
def yX2_unwrap : MethodName := ⟨RX2, "unwrap", "(I)I"⟩
abbrev cX2_rob : ByteArray := prog_4_method_13_code
def yX2_rob : MethodName := ⟨RX2, "rob", "(II)I"⟩
abbrev cX2_give : ByteArray := prog_4_method_14_code
def yX2_give : MethodName := ⟨RX2, "give", "(II)V"⟩
abbrev cX2_playTill : ByteArray := prog_4_method_15_code
def yX2_playTill : MethodName := ⟨RX2, "playTill", "(ILOpenOrTake$Party;)I"⟩
abbrev cX2_guess : ByteArray := prog_4_method_16_code
def yX2_guess : MethodName := ⟨RX2, "guess", "(ILOpenOrTake$Party;)I"⟩
abbrev cX2_ofMostWorth : ByteArray := prog_4_method_17_code
def yX2_ofMostWorth : MethodName := ⟨RX2, "ofMostWorth", "(ILOpenOrTake$Party;)I"⟩
abbrev cX2_fromWhomItLikesLeast : ByteArray := prog_4_method_18_code
def yX2_fromWhomItLikesLeast : MethodName := ⟨RX2, "fromWhomItLikesLeast", "(ILOpenOrTake$Party;)I"⟩
abbrev cX2_byTheLaw : ByteArray := prog_4_method_19_code
def yX2_byTheLaw : MethodName := ⟨RX2, "byTheLaw", "(ILOpenOrTake$Party;)I"⟩
abbrev cX2_closeByLaw : ByteArray := prog_4_method_20_code
def yX2_closeByLaw : MethodName := ⟨RX2, "closeByLaw", "(LOpenOrTake$Party;)V"⟩
abbrev cX2_chooseOnceMore : ByteArray := prog_4_method_21_code
def yX2_chooseOnceMore : MethodName := ⟨RX2, "chooseOnceMore", "(LOpenOrTake$Party;)V"⟩
abbrev cX2_exchange : ByteArray := prog_4_method_22_code
def yX2_exchange : MethodName := ⟨RX2, "exchange", "(III)V"⟩
abbrev cX2_worths : ByteArray := prog_4_method_23_code
def yX2_worths : MethodName := ⟨RX2, "worths", "(LOpenOrTake$Party;)I"⟩
def RX3 : String := "OpenOrTake$Law"
def TX3 : u_T := fun k => match k with
  | 0 => ("OpenOrTake$Law", "sign", "[C", true)
  | 1 => ("OpenOrTake$Law", "detail", "[I", true)
  | 2 => ("OpenOrTake$Law", "length", "I", false)
  | 3 => ("OpenOrTake$Law", "latestIf", "I", false)
  | 4 => ("OpenOrTake$Law", "stack", "[I", true)
  | _ => ("OpenOrTake$Law", "named", "[I", true)
def tyX3 : Nat → FieldType := fun k => match k with
  | 0 => .array .char
  | 1 => .array .int
  | 2 => .int
  | 3 => .int
  | 4 => .array .int
  | _ => .array .int
abbrev wsX30 : List Cond := u_ws RX3 TX3 6
theorem nmX3 : ∀ a, a < 6 → ∀ b, b < 6 → a ≠ b → (TX3 a).2.1 ≠ (TX3 b).2.1 := by decide +kernel
theorem tyX3_ok : ∀ k, k < 6 → parseFieldDescriptor (TX3 k).2.2.1 = some (tyX3 k) := by decide +kernel
abbrev cX3_init : ByteArray := prog_5_method_1_code
def yX3_init : MethodName := ⟨RX3, "<init>", "()V"⟩
abbrev cX3_clear : ByteArray := prog_5_method_2_code
def yX3_clear : MethodName := ⟨RX3, "clear", "()V"⟩
abbrev cX3_write : ByteArray := prog_5_method_3_code
def yX3_write : MethodName := ⟨RX3, "write", "(CI)V"⟩
abbrev cX3_writeIf : ByteArray := prog_5_method_4_code
def yX3_writeIf : MethodName := ⟨RX3, "writeIf", "()V"⟩
abbrev cX3_writeEndOfLine : ByteArray := prog_5_method_5_code
def yX3_writeEndOfLine : MethodName := ⟨RX3, "writeEndOfLine", "()V"⟩
abbrev cX3_nameOf : ByteArray := prog_5_method_6_code
def yX3_nameOf : MethodName := ⟨RX3, "nameOf", "(I)I"⟩
abbrev cX3_number : ByteArray := prog_5_method_7_code
def yX3_number : MethodName := ⟨RX3, "number", "(IIIIII)I"⟩
abbrev cX3_joined : ByteArray := prog_5_method_8_code
def yX3_joined : MethodName := ⟨RX3, "joined", "(CII)I"⟩
def RX4 : String := "OpenOrTake$Party"
def TX4 : u_T := fun k => match k with
  | 0 => ("OpenOrTake$Party", "people", "I", false)
  | 1 => ("OpenOrTake$Party", "worth", "[I", true)
  | 2 => ("OpenOrTake$Party", "like", "[I", true)
  | 3 => ("OpenOrTake$Party", "way", "[I", true)
  | 4 => ("OpenOrTake$Party", "most", "I", false)
  | 5 => ("OpenOrTake$Party", "again", "I", false)
  | _ => ("OpenOrTake$Party", "law", "LOpenOrTake$Law;", false)
def tyX4 : Nat → FieldType := fun k => match k with
  | 0 => .int
  | 1 => .array .int
  | 2 => .array .int
  | 3 => .array .int
  | 4 => .int
  | 5 => .int
  | _ => .object "OpenOrTake$Law"
abbrev wsX40 : List Cond := u_ws RX4 TX4 7
theorem nmX4 : ∀ a, a < 7 → ∀ b, b < 7 → a ≠ b → (TX4 a).2.1 ≠ (TX4 b).2.1 := by decide +kernel
theorem tyX4_ok : ∀ k, k < 7 → parseFieldDescriptor (TX4 k).2.2.1 = some (tyX4 k) := by decide +kernel
abbrev cX4_init : ByteArray := prog_6_method_1_code
def yX4_init : MethodName := ⟨RX4, "<init>", "()V"⟩
abbrev cX4_isOne : ByteArray := prog_6_method_2_code
def yX4_isOne : MethodName := ⟨RX4, "isOne", "(I)Z"⟩
abbrev cX4_isPair : ByteArray := prog_6_method_3_code
def yX4_isPair : MethodName := ⟨RX4, "isPair", "(I)Z"⟩
abbrev cX4_worthFor : ByteArray := prog_6_method_4_code
def yX4_worthFor : MethodName := ⟨RX4, "worthFor", "(II)I"⟩
abbrev cX4_likeFor : ByteArray := prog_6_method_5_code
def yX4_likeFor : MethodName := ⟨RX4, "likeFor", "(II)I"⟩
abbrev cX4_knows : ByteArray := prog_6_method_6_code
def yX4_knows : MethodName := ⟨RX4, "knows", "(II)Z"⟩
abbrev cX4_allows : ByteArray := prog_6_method_7_code
def yX4_allows : MethodName := ⟨RX4, "allows", "(II)Z"⟩
abbrev cX4_value : ByteArray := prog_6_method_8_code
def yX4_value : MethodName := ⟨RX4, "value", "(II)I"⟩
abbrev cX4_become : ByteArray := prog_6_method_9_code
def yX4_become : MethodName := ⟨RX4, "become", "(III)V"⟩
def RX5 : String := "OpenOrTake$Shelves"
def TX5 : u_T := fun k => match k with
  | 0 => ("OpenOrTake$Shelves", "sort", "[I", true)
  | 1 => ("OpenOrTake$Shelves", "size", "[I", true)
  | _ => ("OpenOrTake$Shelves", "rows", "[[J", true)
def tyX5 : Nat → FieldType := fun k => match k with
  | 0 => .array .int
  | 1 => .array .int
  | _ => .array (.array .long)
abbrev wsX50 : List Cond := u_ws RX5 TX5 3
theorem nmX5 : ∀ a, a < 3 → ∀ b, b < 3 → a ≠ b → (TX5 a).2.1 ≠ (TX5 b).2.1 := by decide +kernel
theorem tyX5_ok : ∀ k, k < 3 → parseFieldDescriptor (TX5 k).2.2.1 = some (tyX5 k) := by decide +kernel
abbrev cX5_init : ByteArray := prog_7_method_1_code
def yX5_init : MethodName := ⟨RX5, "<init>", "()V"⟩
abbrev cX5_isShelf : ByteArray := prog_7_method_2_code
def yX5_isShelf : MethodName := ⟨RX5, "isShelf", "(I)Z"⟩
abbrev cX5_isEmpty : ByteArray := prog_7_method_3_code
def yX5_isEmpty : MethodName := ⟨RX5, "isEmpty", "(I)Z"⟩
abbrev cX5_isRow : ByteArray := prog_7_method_4_code
def yX5_isRow : MethodName := ⟨RX5, "isRow", "(I)Z"⟩
abbrev cX5_holdRow : ByteArray := prog_7_method_6_code
def yX5_holdRow : MethodName := ⟨RX5, "holdRow", "(III)V"⟩
abbrev cX5_refusalOfBytes : ByteArray := prog_7_method_7_code
def yX5_refusalOfBytes : MethodName := ⟨RX5, "refusalOfBytes", "(I)I"⟩
abbrev cX5_refusalOfElement : ByteArray := prog_7_method_8_code
def yX5_refusalOfElement : MethodName := ⟨RX5, "refusalOfElement", "(II)I"⟩
abbrev cX5_lowestBits : ByteArray := prog_7_method_10_code
def yX5_lowestBits : MethodName := ⟨RX5, "lowestBits", "(IJ)J"⟩
def RX6 : String := "OpenOrTake$Tape"
def TX6 : u_T := fun k => match k with
  | 0 => ("OpenOrTake$Tape", "bytes", "[C", true)
  | 1 => ("OpenOrTake$Tape", "length", "I", false)
  | 2 => ("OpenOrTake$Tape", "at", "I", false)
  | 3 => ("OpenOrTake$Tape", "fault", "I", false)
  | _ => ("OpenOrTake$Tape", "draft", "LOpenOrTake$Law;", false)
def tyX6 : Nat → FieldType := fun k => match k with
  | 0 => .array .char
  | 1 => .int
  | 2 => .int
  | 3 => .int
  | _ => .object "OpenOrTake$Law"
abbrev wsX60 : List Cond := u_ws RX6 TX6 5
theorem nmX6 : ∀ a, a < 5 → ∀ b, b < 5 → a ≠ b → (TX6 a).2.1 ≠ (TX6 b).2.1 := by decide +kernel
theorem tyX6_ok : ∀ k, k < 5 → parseFieldDescriptor (TX6 k).2.2.1 = some (tyX6 k) := by decide +kernel
abbrev cX6_init : ByteArray := prog_8_method_1_code
def yX6_init : MethodName := ⟨RX6, "<init>", "()V"⟩
abbrev cX6_append : ByteArray := prog_8_method_2_code
def yX6_append : MethodName := ⟨RX6, "append", "(I)Z"⟩
abbrev cX6_read : ByteArray := prog_8_method_3_code
def yX6_read : MethodName := ⟨RX6, "read", "()I"⟩
abbrev cX6_draftFor : ByteArray := prog_8_method_4_code
def yX6_draftFor : MethodName := ⟨RX6, "draftFor", "(LOpenOrTake$Law;)LOpenOrTake$Law;"⟩
abbrev cX6_ahead : ByteArray := prog_8_method_5_code
def yX6_ahead : MethodName := ⟨RX6, "ahead", "()I"⟩
abbrev cX6_comes : ByteArray := prog_8_method_6_code
def yX6_comes : MethodName := ⟨RX6, "comes", "(C)Z"⟩
abbrev cX6_fail : ByteArray := prog_8_method_7_code
def yX6_fail : MethodName := ⟨RX6, "fail", "()V"⟩
abbrev cX6_write : ByteArray := prog_8_method_8_code
def yX6_write : MethodName := ⟨RX6, "write", "(C)V"⟩
abbrev cX6_line : ByteArray := prog_8_method_9_code
def yX6_line : MethodName := ⟨RX6, "line", "()V"⟩
abbrev cX6_either : ByteArray := prog_8_method_10_code
def yX6_either : MethodName := ⟨RX6, "either", "(I)V"⟩
abbrev cX6_both : ByteArray := prog_8_method_11_code
def yX6_both : MethodName := ⟨RX6, "both", "(I)V"⟩
abbrev cX6_compared : ByteArray := prog_8_method_12_code
def yX6_compared : MethodName := ⟨RX6, "compared", "(I)V"⟩
abbrev cX6_sum : ByteArray := prog_8_method_13_code
def yX6_sum : MethodName := ⟨RX6, "sum", "(I)V"⟩
abbrev cX6_product : ByteArray := prog_8_method_14_code
def yX6_product : MethodName := ⟨RX6, "product", "(I)V"⟩
abbrev cX6_operand : ByteArray := prog_8_method_15_code
def yX6_operand : MethodName := ⟨RX6, "operand", "(I)V"⟩
abbrev cX6_number : ByteArray := prog_8_method_16_code
def yX6_number : MethodName := ⟨RX6, "number", "()V"⟩
abbrev cX6_isDigit : ByteArray := prog_8_method_17_code
def yX6_isDigit : MethodName := ⟨RX6, "isDigit", "(I)Z"⟩
def RX7 : String := "OpenOrTake$Thought"
def TX7 : u_T := fun k => match k with
  | 0 => ("OpenOrTake$Thought", "party", "LOpenOrTake$Party;", true)
  | 1 => ("OpenOrTake$Thought", "levels", "[LOpenOrTake$Evening;", true)
  | 2 => ("OpenOrTake$Thought", "ends", "[[I", true)
  | 3 => ("OpenOrTake$Thought", "mostBehind", "[I", true)
  | 4 => ("OpenOrTake$Thought", "trueWorth", "[I", true)
  | 5 => ("OpenOrTake$Thought", "drawn", "[I", true)
  | 6 => ("OpenOrTake$Thought", "sums", "[I", true)
  | 7 => ("OpenOrTake$Thought", "told", "[J", false)
  | _ => ("OpenOrTake$Thought", "toldSize", "I", false)
def tyX7 : Nat → FieldType := fun k => match k with
  | 0 => .object "OpenOrTake$Party"
  | 1 => .array (.object "OpenOrTake$Evening")
  | 2 => .array (.array .int)
  | 3 => .array .int
  | 4 => .array .int
  | 5 => .array .int
  | 6 => .array .int
  | 7 => .array .long
  | _ => .int
abbrev wsX70 : List Cond := u_ws RX7 TX7 9
theorem nmX7 : ∀ a, a < 9 → ∀ b, b < 9 → a ≠ b → (TX7 a).2.1 ≠ (TX7 b).2.1 := by decide +kernel
theorem tyX7_ok : ∀ k, k < 9 → parseFieldDescriptor (TX7 k).2.2.1 = some (tyX7 k) := by decide +kernel
abbrev cX7_init : ByteArray := prog_9_method_1_code
def yX7_init : MethodName := ⟨RX7, "<init>", "(LOpenOrTake$Party;)V"⟩
abbrev cX7_eveningBy : ByteArray := prog_9_method_2_code
def yX7_eveningBy : MethodName := ⟨RX7, "eveningBy", "([I)LOpenOrTake$Evening;"⟩
abbrev cX7_eachForItself : ByteArray := prog_9_method_3_code
def yX7_eachForItself : MethodName := ⟨RX7, "eachForItself", "([II)I"⟩
abbrev cX7_lookAhead : ByteArray := prog_9_method_4_code
def yX7_lookAhead : MethodName := ⟨RX7, "lookAhead", "(I)V"⟩
abbrev cX7_worthAtEnd : ByteArray := prog_9_method_5_code
def yX7_worthAtEnd : MethodName := ⟨RX7, "worthAtEnd", "(II)I"⟩
abbrev cX7_comeTo : ByteArray := prog_9_method_6_code
def yX7_comeTo : MethodName := ⟨RX7, "comeTo", "(I)V"⟩
abbrev cX7_bestParting : ByteArray := prog_9_method_7_code
def yX7_bestParting : MethodName := ⟨RX7, "bestParting", "(I)I"⟩
abbrev cX7_fillMostBehind : ByteArray := prog_9_method_8_code
def yX7_fillMostBehind : MethodName := ⟨RX7, "fillMostBehind", "()V"⟩
abbrev cX7_worthWithAllBehind : ByteArray := prog_9_method_9_code
def yX7_worthWithAllBehind : MethodName := ⟨RX7, "worthWithAllBehind", "(III)I"⟩
abbrev cX7_firstBest : ByteArray := prog_9_method_10_code
def yX7_firstBest : MethodName := ⟨RX7, "firstBest", "(II)I"⟩
abbrev cX7_pairsWhoWouldChange : ByteArray := prog_9_method_11_code
def yX7_pairsWhoWouldChange : MethodName := ⟨RX7, "pairsWhoWouldChange", "([I)I"⟩
abbrev cX7_envies : ByteArray := prog_9_method_12_code
def yX7_envies : MethodName := ⟨RX7, "envies", "(LOpenOrTake$Evening;II)Z"⟩
abbrev cX7_leastFace : ByteArray := prog_9_method_13_code
def yX7_leastFace : MethodName := ⟨RX7, "leastFace", "([II)I"⟩
abbrev cX7_lessen : ByteArray := prog_9_method_14_code
def yX7_lessen : MethodName := ⟨RX7, "lessen", "(II)V"⟩
abbrev cX7_drawNumbers : ByteArray := prog_9_method_15_code
def yX7_drawNumbers : MethodName := ⟨RX7, "drawNumbers", "([III)V"⟩
abbrev cX7_unlike : ByteArray := prog_9_method_16_code
def yX7_unlike : MethodName := ⟨RX7, "unlike", "()I"⟩
abbrev cX7_hear : ByteArray := prog_9_method_17_code
def yX7_hear : MethodName := ⟨RX7, "hear", "([JI)V"⟩
abbrev cX7_firstUnlikeTold : ByteArray := prog_9_method_18_code
def yX7_firstUnlikeTold : MethodName := ⟨RX7, "firstUnlikeTold", "(LOpenOrTake$Evening;)I"⟩
abbrev cX7_lotsAsTold : ByteArray := prog_9_method_19_code
def yX7_lotsAsTold : MethodName := ⟨RX7, "lotsAsTold", "()I"⟩
abbrev cX7_lotsBehind : ByteArray := prog_9_method_20_code
def yX7_lotsBehind : MethodName := ⟨RX7, "lotsBehind", "(II)I"⟩
def RX8 : String := "OpenOrTake"
def TX8 : u_T := fun k => match k with
  | 0 => ("OpenOrTake", "party", "LOpenOrTake$Party;", true)
  | 1 => ("OpenOrTake", "changes", "LOpenOrTake$Changes;", true)
  | 2 => ("OpenOrTake", "tape", "LOpenOrTake$Tape;", true)
  | 3 => ("OpenOrTake", "deed", "LOpenOrTake$Evening;", true)
  | 4 => ("OpenOrTake", "kept", "LOpenOrTake$Evening;", true)
  | 5 => ("OpenOrTake", "thought", "LOpenOrTake$Thought;", true)
  | 6 => ("OpenOrTake", "bodies", "LOpenOrTake$Bodies;", true)
  | 7 => ("OpenOrTake", "shelves", "LOpenOrTake$Shelves;", true)
  | _ => ("OpenOrTake", "peopleOfImage", "I", false)
def tyX8 : Nat → FieldType := fun k => match k with
  | 0 => .object "OpenOrTake$Party"
  | 1 => .object "OpenOrTake$Changes"
  | 2 => .object "OpenOrTake$Tape"
  | 3 => .object "OpenOrTake$Evening"
  | 4 => .object "OpenOrTake$Evening"
  | 5 => .object "OpenOrTake$Thought"
  | 6 => .object "OpenOrTake$Bodies"
  | 7 => .object "OpenOrTake$Shelves"
  | _ => .int
abbrev wsX80 : List Cond := u_ws RX8 TX8 9
theorem nmX8 : ∀ a, a < 9 → ∀ b, b < 9 → a ≠ b → (TX8 a).2.1 ≠ (TX8 b).2.1 := by decide +kernel
theorem tyX8_ok : ∀ k, k < 9 → parseFieldDescriptor (TX8 k).2.2.1 = some (tyX8 k) := by decide +kernel
abbrev cX8_init : ByteArray := prog_1_method_1_code
def yX8_init : MethodName := ⟨RX8, "<init>", "()V"⟩
abbrev cX8_person : ByteArray := prog_1_method_2_code
def yX8_person : MethodName := ⟨RX8, "person", "(I)I"⟩
abbrev cX8_mend : ByteArray := prog_1_method_4_code
def yX8_mend : MethodName := ⟨RX8, "mend", "(III)I"⟩
abbrev cX8_of : ByteArray := prog_1_method_5_code
def yX8_of : MethodName := ⟨RX8, "of", "(II)I"⟩
abbrev cX8_swap : ByteArray := prog_1_method_6_code
def yX8_swap : MethodName := ⟨RX8, "swap", "(I)I"⟩
abbrev cX8_feed : ByteArray := prog_1_method_7_code
def yX8_feed : MethodName := ⟨RX8, "feed", "(I)I"⟩
abbrev cX8_law : ByteArray := prog_1_method_8_code
def yX8_law : MethodName := ⟨RX8, "law", "()I"⟩
abbrev cX8_turn : ByteArray := prog_1_method_9_code
def yX8_turn : MethodName := ⟨RX8, "turn", "()I"⟩
abbrev cX8_open : ByteArray := prog_1_method_10_code
def yX8_open : MethodName := ⟨RX8, "open", "()I"⟩
abbrev cX8_goOn : ByteArray := prog_1_method_12_code
def yX8_goOn : MethodName := ⟨RX8, "goOn", "()I"⟩
abbrev cX8_again : ByteArray := prog_1_method_13_code
def yX8_again : MethodName := ⟨RX8, "again", "()I"⟩
abbrev cX8_anew : ByteArray := prog_1_method_14_code
def yX8_anew : MethodName := ⟨RX8, "anew", "()I"⟩
abbrev cX8_led : ByteArray := prog_1_method_15_code
def yX8_led : MethodName := ⟨RX8, "led", "(I)I"⟩
abbrev cX8_evening : ByteArray := prog_1_method_16_code
def yX8_evening : MethodName := ⟨RX8, "evening", "(II)I"⟩
abbrev cX8_exact : ByteArray := prog_1_method_17_code
def yX8_exact : MethodName := ⟨RX8, "exact", "(I)I"⟩
abbrev cX8_best : ByteArray := prog_1_method_18_code
def yX8_best : MethodName := ⟨RX8, "best", "(I)I"⟩
abbrev cX8_pairs : ByteArray := prog_1_method_19_code
def yX8_pairs : MethodName := ⟨RX8, "pairs", "()I"⟩
abbrev cX8_face : ByteArray := prog_1_method_20_code
def yX8_face : MethodName := ⟨RX8, "face", "(I)I"⟩
abbrev cX8_numbers : ByteArray := prog_1_method_21_code
def yX8_numbers : MethodName := ⟨RX8, "numbers", "(III)I"⟩
abbrev cX8_judge : ByteArray := prog_1_method_22_code
def yX8_judge : MethodName := ⟨RX8, "judge", "(I)I"⟩
abbrev cX8_lots : ByteArray := prog_1_method_23_code
def yX8_lots : MethodName := ⟨RX8, "lots", "(I)I"⟩
abbrev cX8_row : ByteArray := prog_1_method_32_code
def yX8_row : MethodName := ⟨RX8, "row", "(III)I"⟩
abbrev cX8_put : ByteArray := prog_1_method_33_code
def yX8_put : MethodName := ⟨RX8, "put", "(IIJ)I"⟩
abbrev cX8_count : ByteArray := prog_1_method_37_code
def yX8_count : MethodName := ⟨RX8, "count", "(I)I"⟩
abbrev cX8_welcome : ByteArray := prog_1_method_38_code
def yX8_welcome : MethodName := ⟨RX8, "welcome", "(I)I"⟩
def RX9 : String := "OpenOrTakeLaw$Party"
def TX9 : u_T := fun k => match k with
  | _ => ("", "", "", false)
def tyX9 : Nat → FieldType := fun k => match k with
  | _ => .int
abbrev wsX90 : List Cond := u_ws RX9 TX9 0
theorem nmX9 : ∀ a, a < 0 → ∀ b, b < 0 → a ≠ b → (TX9 a).2.1 ≠ (TX9 b).2.1 := by decide +kernel
theorem tyX9_ok : ∀ k, k < 0 → parseFieldDescriptor (TX9 k).2.2.1 = some (tyX9 k) := by decide +kernel
def RX10 : String := "OpenOrTakeModel"
def TX10 : u_T := fun k => match k with
  | _ => ("", "", "", false)
def tyX10 : Nat → FieldType := fun k => match k with
  | _ => .int
abbrev wsX100 : List Cond := u_ws RX10 TX10 0
theorem nmX10 : ∀ a, a < 0 → ∀ b, b < 0 → a ≠ b → (TX10 a).2.1 ≠ (TX10 b).2.1 := by decide +kernel
theorem tyX10_ok : ∀ k, k < 0 → parseFieldDescriptor (TX10 k).2.2.1 = some (tyX10 k) := by decide +kernel
def RJ6 : String := "java/lang/Integer"
def TJ6 : u_T := fun k => match k with
  | _ => ("", "", "", false)
def tyJ6 : Nat → FieldType := fun k => match k with
  | _ => .int
abbrev wsJ60 : List Cond := u_ws RJ6 TJ6 0
theorem nmJ6 : ∀ a, a < 0 → ∀ b, b < 0 → a ≠ b → (TJ6 a).2.1 ≠ (TJ6 b).2.1 := by decide +kernel
theorem tyJ6_ok : ∀ k, k < 0 → parseFieldDescriptor (TJ6 k).2.2.1 = some (tyJ6 k) := by decide +kernel
abbrev cJ6_bitCount_0f7a4 : ByteArray := prog_13_method_49_code
def yJ6_bitCount_0f7a4 : MethodName := ⟨RJ6, "bitCount", "(I)I"⟩
def RJ9 : String := "java/lang/Math"
def TJ9 : u_T := fun k => match k with
  | _ => ("", "", "", false)
def tyJ9 : Nat → FieldType := fun k => match k with
  | _ => .int
abbrev wsJ90 : List Cond := u_ws RJ9 TJ9 0
theorem nmJ9 : ∀ a, a < 0 → ∀ b, b < 0 → a ≠ b → (TJ9 a).2.1 ≠ (TJ9 b).2.1 := by decide +kernel
theorem tyJ9_ok : ∀ k, k < 0 → parseFieldDescriptor (TJ9 k).2.2.1 = some (tyJ9 k) := by decide +kernel
abbrev cJ9_max_7cf53 : ByteArray := prog_14_method_65_code
def yJ9_max_7cf53 : MethodName := ⟨RJ9, "max", "(II)I"⟩
abbrev cJ9_min_7cf53 : ByteArray := prog_14_method_69_code
def yJ9_min_7cf53 : MethodName := ⟨RJ9, "min", "(II)I"⟩
def RJ10 : String := "java/lang/System"
def TJ10 : u_T := fun k => match k with
  | _ => ("", "", "", false)
def tyJ10 : Nat → FieldType := fun k => match k with
  | _ => .int
abbrev wsJ100 : List Cond := u_ws RJ10 TJ10 0
theorem nmJ10 : ∀ a, a < 0 → ∀ b, b < 0 → a ≠ b → (TJ10 a).2.1 ≠ (TJ10 b).2.1 := by decide +kernel
theorem tyJ10_ok : ∀ k, k < 0 → parseFieldDescriptor (TJ10 k).2.2.1 = some (tyJ10 k) := by decide +kernel
def RJ7 : String := "java/util/Arrays"
def TJ7 : u_T := fun k => match k with
  | _ => ("", "", "", false)
def tyJ7 : Nat → FieldType := fun k => match k with
  | _ => .int
abbrev wsJ70 : List Cond := u_ws RJ7 TJ7 0
theorem nmJ7 : ∀ a, a < 0 → ∀ b, b < 0 → a ≠ b → (TJ7 a).2.1 ≠ (TJ7 b).2.1 := by decide +kernel
theorem tyJ7_ok : ∀ k, k < 0 → parseFieldDescriptor (TJ7 k).2.2.1 = some (tyJ7 k) := by decide +kernel
abbrev cJ7_fill_d0a16 : ByteArray := prog_16_method_101_code
def yJ7_fill_d0a16 : MethodName := ⟨RJ7, "fill", "([JJ)V"⟩
abbrev cJ7_fill_53178 : ByteArray := prog_16_method_103_code
def yJ7_fill_53178 : MethodName := ⟨RJ7, "fill", "([II)V"⟩
def RL : String := "OpenOrTakeLaw"
abbrev cL_tell : ByteArray := method_2_code
def yL_tell : MethodName := ⟨RL, "tell", "(LOpenOrTake;[II)Z"⟩
abbrev cL_cell : ByteArray := method_3_code
def yL_cell : MethodName := ⟨RL, "cell", "([II)I"⟩
abbrev cL_people : ByteArray := method_4_code
def yL_people : MethodName := ⟨RL, "people", "([I)I"⟩
abbrev cL_way : ByteArray := method_5_code
def yL_way : MethodName := ⟨RL, "way", "([II)I"⟩
abbrev cL_most : ByteArray := method_6_code
def yL_most : MethodName := ⟨RL, "most", "([I)I"⟩
abbrev cL_again : ByteArray := method_7_code
def yL_again : MethodName := ⟨RL, "again", "([I)I"⟩
abbrev cL_worth : ByteArray := method_8_code
def yL_worth : MethodName := ⟨RL, "worth", "([III)I"⟩
abbrev cL_like : ByteArray := method_9_code
def yL_like : MethodName := ⟨RL, "like", "([III)I"⟩
abbrev cL_hasLaw : ByteArray := method_10_code
def yL_hasLaw : MethodName := ⟨RL, "hasLaw", "([I)Z"⟩
abbrev cL_lot : ByteArray := method_11_code
def yL_lot : MethodName := ⟨RL, "lot", "([I)[I"⟩
abbrev cL_built : ByteArray := method_12_code
def yL_built : MethodName := ⟨RL, "built", "(LOpenOrTake;[I)Z"⟩
abbrev cL_law : ByteArray := code
def yL_law : MethodName := ⟨RL, "law", "([I)Z"⟩
abbrev vwCl : List vw_C := [(RX0, TX0, 5), (RX1, TX1, 6), (RX2, TX2, 11), (RX3, TX3, 6), (RX4, TX4, 7), (RX5, TX5, 3), (RX6, TX6, 5), (RX7, TX7, 9), (RX8, TX8, 9)]
