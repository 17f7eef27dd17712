-- ===== PART A: goes FIRST, ahead of the names: the tables' words, and 'selects' of the private methods out of them =====
/-- a private method of a class that the tables say can be made, by its rows of tables_1 -/
def lw_okq (q : MethodName × Nat) : Prop := (q.1.cls ≠ "java/lang/invoke/MethodHandle" ∧ q.1.cls ≠ "java/lang/invoke/VarHandle") ∧ Cond.instantiable q.1.cls q.2 ∈ tables_1 ∧ Cond.privateMethod q.1 ∈ tables_1 ∧ Cond.instanceMethod q.1 ∈ tables_1
theorem lw_p0 : lw_okq (⟨"OpenOrTake", "welcome", "(I)I"⟩, 9) := ⟨⟨by decide +kernel, by decide +kernel⟩, List.mem_of_getElem? (i := 16) (by decide +kernel), List.mem_of_getElem? (i := 323) (by decide +kernel), List.mem_of_getElem? (i := 324) (by decide +kernel)⟩
theorem lw_p1 : lw_okq (⟨"OpenOrTake", "welcomeFrom", "(II)Z"⟩, 9) := ⟨⟨by decide +kernel, by decide +kernel⟩, List.mem_of_getElem? (i := 16) (by decide +kernel), List.mem_of_getElem? (i := 344) (by decide +kernel), List.mem_of_getElem? (i := 345) (by decide +kernel)⟩
theorem lw_p2 : lw_okq (⟨"OpenOrTake$Changes", "forgetOldest", "()V"⟩, 6) := ⟨⟨by decide +kernel, by decide +kernel⟩, List.mem_of_getElem? (i := 94) (by decide +kernel), List.mem_of_getElem? (i := 384) (by decide +kernel), List.mem_of_getElem? (i := 385) (by decide +kernel)⟩
theorem lw_p3 : lw_okq (⟨"OpenOrTake$Tape", "line", "()V"⟩, 5) := ⟨⟨by decide +kernel, by decide +kernel⟩, List.mem_of_getElem? (i := 121) (by decide +kernel), List.mem_of_getElem? (i := 429) (by decide +kernel), List.mem_of_getElem? (i := 430) (by decide +kernel)⟩
theorem lw_p4 : lw_okq (⟨"OpenOrTake$Tape", "either", "(I)V"⟩, 5) := ⟨⟨by decide +kernel, by decide +kernel⟩, List.mem_of_getElem? (i := 121) (by decide +kernel), List.mem_of_getElem? (i := 433) (by decide +kernel), List.mem_of_getElem? (i := 434) (by decide +kernel)⟩
theorem lw_p5 : lw_okq (⟨"OpenOrTake$Tape", "both", "(I)V"⟩, 5) := ⟨⟨by decide +kernel, by decide +kernel⟩, List.mem_of_getElem? (i := 121) (by decide +kernel), List.mem_of_getElem? (i := 437) (by decide +kernel), List.mem_of_getElem? (i := 438) (by decide +kernel)⟩
theorem lw_p6 : lw_okq (⟨"OpenOrTake$Tape", "compared", "(I)V"⟩, 5) := ⟨⟨by decide +kernel, by decide +kernel⟩, List.mem_of_getElem? (i := 121) (by decide +kernel), List.mem_of_getElem? (i := 441) (by decide +kernel), List.mem_of_getElem? (i := 442) (by decide +kernel)⟩
theorem lw_p7 : lw_okq (⟨"OpenOrTake$Tape", "sum", "(I)V"⟩, 5) := ⟨⟨by decide +kernel, by decide +kernel⟩, List.mem_of_getElem? (i := 121) (by decide +kernel), List.mem_of_getElem? (i := 445) (by decide +kernel), List.mem_of_getElem? (i := 446) (by decide +kernel)⟩
theorem lw_p8 : lw_okq (⟨"OpenOrTake$Tape", "product", "(I)V"⟩, 5) := ⟨⟨by decide +kernel, by decide +kernel⟩, List.mem_of_getElem? (i := 121) (by decide +kernel), List.mem_of_getElem? (i := 449) (by decide +kernel), List.mem_of_getElem? (i := 450) (by decide +kernel)⟩
theorem lw_p9 : lw_okq (⟨"OpenOrTake$Tape", "operand", "(I)V"⟩, 5) := ⟨⟨by decide +kernel, by decide +kernel⟩, List.mem_of_getElem? (i := 121) (by decide +kernel), List.mem_of_getElem? (i := 453) (by decide +kernel), List.mem_of_getElem? (i := 454) (by decide +kernel)⟩
theorem lw_p10 : lw_okq (⟨"OpenOrTake$Tape", "ahead", "()I"⟩, 5) := ⟨⟨by decide +kernel, by decide +kernel⟩, List.mem_of_getElem? (i := 121) (by decide +kernel), List.mem_of_getElem? (i := 457) (by decide +kernel), List.mem_of_getElem? (i := 458) (by decide +kernel)⟩
theorem lw_p11 : lw_okq (⟨"OpenOrTake$Tape", "number", "()V"⟩, 5) := ⟨⟨by decide +kernel, by decide +kernel⟩, List.mem_of_getElem? (i := 121) (by decide +kernel), List.mem_of_getElem? (i := 464) (by decide +kernel), List.mem_of_getElem? (i := 465) (by decide +kernel)⟩
theorem lw_p12 : lw_okq (⟨"OpenOrTake$Tape", "fail", "()V"⟩, 5) := ⟨⟨by decide +kernel, by decide +kernel⟩, List.mem_of_getElem? (i := 121) (by decide +kernel), List.mem_of_getElem? (i := 475) (by decide +kernel), List.mem_of_getElem? (i := 476) (by decide +kernel)⟩
theorem lw_p13 : lw_okq (⟨"OpenOrTake$Tape", "write", "(C)V"⟩, 5) := ⟨⟨by decide +kernel, by decide +kernel⟩, List.mem_of_getElem? (i := 121) (by decide +kernel), List.mem_of_getElem? (i := 479) (by decide +kernel), List.mem_of_getElem? (i := 480) (by decide +kernel)⟩
theorem lw_p14 : lw_okq (⟨"OpenOrTake$Tape", "comes", "(C)Z"⟩, 5) := ⟨⟨by decide +kernel, by decide +kernel⟩, List.mem_of_getElem? (i := 121) (by decide +kernel), List.mem_of_getElem? (i := 483) (by decide +kernel), List.mem_of_getElem? (i := 484) (by decide +kernel)⟩
theorem lw_p15 : lw_okq (⟨"OpenOrTake$Evening", "give", "(II)V"⟩, 11) := ⟨⟨by decide +kernel, by decide +kernel⟩, List.mem_of_getElem? (i := 146) (by decide +kernel), List.mem_of_getElem? (i := 516) (by decide +kernel), List.mem_of_getElem? (i := 517) (by decide +kernel)⟩
def lw_privs_1 : List (MethodName × Nat) := [(⟨"OpenOrTake", "welcome", "(I)I"⟩, 9), (⟨"OpenOrTake", "welcomeFrom", "(II)Z"⟩, 9), (⟨"OpenOrTake$Changes", "forgetOldest", "()V"⟩, 6), (⟨"OpenOrTake$Tape", "line", "()V"⟩, 5), (⟨"OpenOrTake$Tape", "either", "(I)V"⟩, 5), (⟨"OpenOrTake$Tape", "both", "(I)V"⟩, 5), (⟨"OpenOrTake$Tape", "compared", "(I)V"⟩, 5), (⟨"OpenOrTake$Tape", "sum", "(I)V"⟩, 5), (⟨"OpenOrTake$Tape", "product", "(I)V"⟩, 5), (⟨"OpenOrTake$Tape", "operand", "(I)V"⟩, 5), (⟨"OpenOrTake$Tape", "ahead", "()I"⟩, 5), (⟨"OpenOrTake$Tape", "number", "()V"⟩, 5), (⟨"OpenOrTake$Tape", "fail", "()V"⟩, 5), (⟨"OpenOrTake$Tape", "write", "(C)V"⟩, 5), (⟨"OpenOrTake$Tape", "comes", "(C)Z"⟩, 5), (⟨"OpenOrTake$Evening", "give", "(II)V"⟩, 11)]
theorem lw_r1 : ∀ q ∈ lw_privs_1, lw_okq q := List.forall_mem_cons.mpr ⟨lw_p0, List.forall_mem_cons.mpr ⟨lw_p1, List.forall_mem_cons.mpr ⟨lw_p2, List.forall_mem_cons.mpr ⟨lw_p3, List.forall_mem_cons.mpr ⟨lw_p4, List.forall_mem_cons.mpr ⟨lw_p5, List.forall_mem_cons.mpr ⟨lw_p6, List.forall_mem_cons.mpr ⟨lw_p7, List.forall_mem_cons.mpr ⟨lw_p8, List.forall_mem_cons.mpr ⟨lw_p9, List.forall_mem_cons.mpr ⟨lw_p10, List.forall_mem_cons.mpr ⟨lw_p11, List.forall_mem_cons.mpr ⟨lw_p12, List.forall_mem_cons.mpr ⟨lw_p13, List.forall_mem_cons.mpr ⟨lw_p14, List.forall_mem_cons.mpr ⟨lw_p15, fun _ h => absurd h List.not_mem_nil⟩⟩⟩⟩⟩⟩⟩⟩⟩⟩⟩⟩⟩⟩⟩⟩
theorem lw_p16 : lw_okq (⟨"OpenOrTake$Evening", "byTheLaw", "(ILOpenOrTake$Party;)I"⟩, 11) := ⟨⟨by decide +kernel, by decide +kernel⟩, List.mem_of_getElem? (i := 146) (by decide +kernel), List.mem_of_getElem? (i := 545) (by decide +kernel), List.mem_of_getElem? (i := 546) (by decide +kernel)⟩
theorem lw_p17 : lw_okq (⟨"OpenOrTake$Evening", "guess", "(ILOpenOrTake$Party;)I"⟩, 11) := ⟨⟨by decide +kernel, by decide +kernel⟩, List.mem_of_getElem? (i := 146) (by decide +kernel), List.mem_of_getElem? (i := 549) (by decide +kernel), List.mem_of_getElem? (i := 550) (by decide +kernel)⟩
theorem lw_p18 : lw_okq (⟨"OpenOrTake$Evening", "fromWhomItLikesLeast", "(ILOpenOrTake$Party;)I"⟩, 11) := ⟨⟨by decide +kernel, by decide +kernel⟩, List.mem_of_getElem? (i := 146) (by decide +kernel), List.mem_of_getElem? (i := 572) (by decide +kernel), List.mem_of_getElem? (i := 573) (by decide +kernel)⟩
theorem lw_p19 : lw_okq (⟨"OpenOrTake$Evening", "ofMostWorth", "(ILOpenOrTake$Party;)I"⟩, 11) := ⟨⟨by decide +kernel, by decide +kernel⟩, List.mem_of_getElem? (i := 146) (by decide +kernel), List.mem_of_getElem? (i := 576) (by decide +kernel), List.mem_of_getElem? (i := 577) (by decide +kernel)⟩
theorem lw_p20 : lw_okq (⟨"OpenOrTake$Evening", "exchange", "(III)V"⟩, 11) := ⟨⟨by decide +kernel, by decide +kernel⟩, List.mem_of_getElem? (i := 146) (by decide +kernel), List.mem_of_getElem? (i := 595) (by decide +kernel), List.mem_of_getElem? (i := 596) (by decide +kernel)⟩
theorem lw_p21 : lw_okq (⟨"OpenOrTake$Thought", "lookAhead", "(I)V"⟩, 9) := ⟨⟨by decide +kernel, by decide +kernel⟩, List.mem_of_getElem? (i := 200) (by decide +kernel), List.mem_of_getElem? (i := 644) (by decide +kernel), List.mem_of_getElem? (i := 645) (by decide +kernel)⟩
theorem lw_p22 : lw_okq (⟨"OpenOrTake$Thought", "comeTo", "(I)V"⟩, 9) := ⟨⟨by decide +kernel, by decide +kernel⟩, List.mem_of_getElem? (i := 200) (by decide +kernel), List.mem_of_getElem? (i := 655) (by decide +kernel), List.mem_of_getElem? (i := 656) (by decide +kernel)⟩
theorem lw_p23 : lw_okq (⟨"OpenOrTake$Thought", "worthAtEnd", "(II)I"⟩, 9) := ⟨⟨by decide +kernel, by decide +kernel⟩, List.mem_of_getElem? (i := 200) (by decide +kernel), List.mem_of_getElem? (i := 661) (by decide +kernel), List.mem_of_getElem? (i := 662) (by decide +kernel)⟩
theorem lw_p24 : lw_okq (⟨"OpenOrTake$Thought", "fillMostBehind", "()V"⟩, 9) := ⟨⟨by decide +kernel, by decide +kernel⟩, List.mem_of_getElem? (i := 200) (by decide +kernel), List.mem_of_getElem? (i := 674) (by decide +kernel), List.mem_of_getElem? (i := 675) (by decide +kernel)⟩
theorem lw_p25 : lw_okq (⟨"OpenOrTake$Thought", "worthWithAllBehind", "(III)I"⟩, 9) := ⟨⟨by decide +kernel, by decide +kernel⟩, List.mem_of_getElem? (i := 200) (by decide +kernel), List.mem_of_getElem? (i := 684) (by decide +kernel), List.mem_of_getElem? (i := 685) (by decide +kernel)⟩
theorem lw_p26 : lw_okq (⟨"OpenOrTake$Thought", "firstBest", "(II)I"⟩, 9) := ⟨⟨by decide +kernel, by decide +kernel⟩, List.mem_of_getElem? (i := 200) (by decide +kernel), List.mem_of_getElem? (i := 689) (by decide +kernel), List.mem_of_getElem? (i := 690) (by decide +kernel)⟩
theorem lw_p27 : lw_okq (⟨"OpenOrTake$Thought", "envies", "(LOpenOrTake$Evening;II)Z"⟩, 9) := ⟨⟨by decide +kernel, by decide +kernel⟩, List.mem_of_getElem? (i := 200) (by decide +kernel), List.mem_of_getElem? (i := 702) (by decide +kernel), List.mem_of_getElem? (i := 703) (by decide +kernel)⟩
theorem lw_p28 : lw_okq (⟨"OpenOrTake$Thought", "lessen", "(II)V"⟩, 9) := ⟨⟨by decide +kernel, by decide +kernel⟩, List.mem_of_getElem? (i := 200) (by decide +kernel), List.mem_of_getElem? (i := 714) (by decide +kernel), List.mem_of_getElem? (i := 715) (by decide +kernel)⟩
theorem lw_p29 : lw_okq (⟨"OpenOrTake$Thought", "lotsBehind", "(II)I"⟩, 9) := ⟨⟨by decide +kernel, by decide +kernel⟩, List.mem_of_getElem? (i := 200) (by decide +kernel), List.mem_of_getElem? (i := 756) (by decide +kernel), List.mem_of_getElem? (i := 757) (by decide +kernel)⟩
theorem lw_p30 : lw_okq (⟨"OpenOrTake$Bodies", "own", "(III)I"⟩, 5) := ⟨⟨by decide +kernel, by decide +kernel⟩, List.mem_of_getElem? (i := 240) (by decide +kernel), List.mem_of_getElem? (i := 807) (by decide +kernel), List.mem_of_getElem? (i := 808) (by decide +kernel)⟩
theorem lw_p31 : lw_okq (⟨"OpenOrTake$Bodies", "from", "(IIII)I"⟩, 5) := ⟨⟨by decide +kernel, by decide +kernel⟩, List.mem_of_getElem? (i := 240) (by decide +kernel), List.mem_of_getElem? (i := 815) (by decide +kernel), List.mem_of_getElem? (i := 816) (by decide +kernel)⟩
def lw_privs_2 : List (MethodName × Nat) := [(⟨"OpenOrTake$Evening", "byTheLaw", "(ILOpenOrTake$Party;)I"⟩, 11), (⟨"OpenOrTake$Evening", "guess", "(ILOpenOrTake$Party;)I"⟩, 11), (⟨"OpenOrTake$Evening", "fromWhomItLikesLeast", "(ILOpenOrTake$Party;)I"⟩, 11), (⟨"OpenOrTake$Evening", "ofMostWorth", "(ILOpenOrTake$Party;)I"⟩, 11), (⟨"OpenOrTake$Evening", "exchange", "(III)V"⟩, 11), (⟨"OpenOrTake$Thought", "lookAhead", "(I)V"⟩, 9), (⟨"OpenOrTake$Thought", "comeTo", "(I)V"⟩, 9), (⟨"OpenOrTake$Thought", "worthAtEnd", "(II)I"⟩, 9), (⟨"OpenOrTake$Thought", "fillMostBehind", "()V"⟩, 9), (⟨"OpenOrTake$Thought", "worthWithAllBehind", "(III)I"⟩, 9), (⟨"OpenOrTake$Thought", "firstBest", "(II)I"⟩, 9), (⟨"OpenOrTake$Thought", "envies", "(LOpenOrTake$Evening;II)Z"⟩, 9), (⟨"OpenOrTake$Thought", "lessen", "(II)V"⟩, 9), (⟨"OpenOrTake$Thought", "lotsBehind", "(II)I"⟩, 9), (⟨"OpenOrTake$Bodies", "own", "(III)I"⟩, 5), (⟨"OpenOrTake$Bodies", "from", "(IIII)I"⟩, 5)]
theorem lw_r2 : ∀ q ∈ lw_privs_2, lw_okq q := List.forall_mem_cons.mpr ⟨lw_p16, List.forall_mem_cons.mpr ⟨lw_p17, List.forall_mem_cons.mpr ⟨lw_p18, List.forall_mem_cons.mpr ⟨lw_p19, List.forall_mem_cons.mpr ⟨lw_p20, List.forall_mem_cons.mpr ⟨lw_p21, List.forall_mem_cons.mpr ⟨lw_p22, List.forall_mem_cons.mpr ⟨lw_p23, List.forall_mem_cons.mpr ⟨lw_p24, List.forall_mem_cons.mpr ⟨lw_p25, List.forall_mem_cons.mpr ⟨lw_p26, List.forall_mem_cons.mpr ⟨lw_p27, List.forall_mem_cons.mpr ⟨lw_p28, List.forall_mem_cons.mpr ⟨lw_p29, List.forall_mem_cons.mpr ⟨lw_p30, List.forall_mem_cons.mpr ⟨lw_p31, fun _ h => absurd h List.not_mem_nil⟩⟩⟩⟩⟩⟩⟩⟩⟩⟩⟩⟩⟩⟩⟩⟩
theorem lw_p32 : lw_okq (⟨"OpenOrTake$Bodies", "run", "(III)I"⟩, 5) := ⟨⟨by decide +kernel, by decide +kernel⟩, List.mem_of_getElem? (i := 240) (by decide +kernel), List.mem_of_getElem? (i := 821) (by decide +kernel), List.mem_of_getElem? (i := 822) (by decide +kernel)⟩
theorem lw_p33 : lw_okq (⟨"OpenOrTake$Bodies", "note", "(I)V"⟩, 5) := ⟨⟨by decide +kernel, by decide +kernel⟩, List.mem_of_getElem? (i := 240) (by decide +kernel), List.mem_of_getElem? (i := 825) (by decide +kernel), List.mem_of_getElem? (i := 826) (by decide +kernel)⟩
theorem lw_p34 : lw_okq (⟨"OpenOrTake$Bodies", "above", "(IIII)I"⟩, 5) := ⟨⟨by decide +kernel, by decide +kernel⟩, List.mem_of_getElem? (i := 240) (by decide +kernel), List.mem_of_getElem? (i := 829) (by decide +kernel), List.mem_of_getElem? (i := 830) (by decide +kernel)⟩
theorem lw_p35 : lw_okq (⟨"OpenOrTakeModel", "addPerson", "(I)I"⟩, 64) := ⟨⟨by decide +kernel, by decide +kernel⟩, List.mem_of_getElem? (i := 902) (by decide +kernel), List.mem_of_getElem? (i := 1109) (by decide +kernel), List.mem_of_getElem? (i := 1110) (by decide +kernel)⟩
theorem lw_p36 : lw_okq (⟨"OpenOrTakeModel", "beginAt", "(I)V"⟩, 64) := ⟨⟨by decide +kernel, by decide +kernel⟩, List.mem_of_getElem? (i := 902) (by decide +kernel), List.mem_of_getElem? (i := 1113) (by decide +kernel), List.mem_of_getElem? (i := 1114) (by decide +kernel)⟩
theorem lw_p37 : lw_okq (⟨"OpenOrTakeModel", "lays", "(III)V"⟩, 64) := ⟨⟨by decide +kernel, by decide +kernel⟩, List.mem_of_getElem? (i := 902) (by decide +kernel), List.mem_of_getElem? (i := 1128) (by decide +kernel), List.mem_of_getElem? (i := 1129) (by decide +kernel)⟩
theorem lw_p38 : lw_okq (⟨"OpenOrTakeModel", "areBoth", "(I)Z"⟩, 64) := ⟨⟨by decide +kernel, by decide +kernel⟩, List.mem_of_getElem? (i := 902) (by decide +kernel), List.mem_of_getElem? (i := 1140) (by decide +kernel), List.mem_of_getElem? (i := 1141) (by decide +kernel)⟩
theorem lw_p39 : lw_okq (⟨"OpenOrTakeModel", "isPerson", "(I)Z"⟩, 64) := ⟨⟨by decide +kernel, by decide +kernel⟩, List.mem_of_getElem? (i := 902) (by decide +kernel), List.mem_of_getElem? (i := 1144) (by decide +kernel), List.mem_of_getElem? (i := 1145) (by decide +kernel)⟩
theorem lw_p40 : lw_okq (⟨"OpenOrTakeModel", "changes", "(III)I"⟩, 64) := ⟨⟨by decide +kernel, by decide +kernel⟩, List.mem_of_getElem? (i := 902) (by decide +kernel), List.mem_of_getElem? (i := 1151) (by decide +kernel), List.mem_of_getElem? (i := 1152) (by decide +kernel)⟩
theorem lw_p41 : lw_okq (⟨"OpenOrTakeModel", "valueAt", "(II)I"⟩, 64) := ⟨⟨by decide +kernel, by decide +kernel⟩, List.mem_of_getElem? (i := 902) (by decide +kernel), List.mem_of_getElem? (i := 1155) (by decide +kernel), List.mem_of_getElem? (i := 1156) (by decide +kernel)⟩
theorem lw_p42 : lw_okq (⟨"OpenOrTakeModel", "hasIn", "(II)I"⟩, 64) := ⟨⟨by decide +kernel, by decide +kernel⟩, List.mem_of_getElem? (i := 902) (by decide +kernel), List.mem_of_getElem? (i := 1163) (by decide +kernel), List.mem_of_getElem? (i := 1164) (by decide +kernel)⟩
theorem lw_p43 : lw_okq (⟨"OpenOrTakeModel", "swapLot", "(II)V"⟩, 64) := ⟨⟨by decide +kernel, by decide +kernel⟩, List.mem_of_getElem? (i := 902) (by decide +kernel), List.mem_of_getElem? (i := 1174) (by decide +kernel), List.mem_of_getElem? (i := 1175) (by decide +kernel)⟩
theorem lw_p44 : lw_okq (⟨"OpenOrTakeModel", "readText", "(I)I"⟩, 64) := ⟨⟨by decide +kernel, by decide +kernel⟩, List.mem_of_getElem? (i := 902) (by decide +kernel), List.mem_of_getElem? (i := 1186) (by decide +kernel), List.mem_of_getElem? (i := 1187) (by decide +kernel)⟩
theorem lw_p45 : lw_okq (⟨"OpenOrTakeModel", "line", "()V"⟩, 64) := ⟨⟨by decide +kernel, by decide +kernel⟩, List.mem_of_getElem? (i := 902) (by decide +kernel), List.mem_of_getElem? (i := 1190) (by decide +kernel), List.mem_of_getElem? (i := 1191) (by decide +kernel)⟩
theorem lw_p46 : lw_okq (⟨"OpenOrTakeModel", "either", "()V"⟩, 64) := ⟨⟨by decide +kernel, by decide +kernel⟩, List.mem_of_getElem? (i := 902) (by decide +kernel), List.mem_of_getElem? (i := 1194) (by decide +kernel), List.mem_of_getElem? (i := 1195) (by decide +kernel)⟩
theorem lw_p47 : lw_okq (⟨"OpenOrTakeModel", "both", "()V"⟩, 64) := ⟨⟨by decide +kernel, by decide +kernel⟩, List.mem_of_getElem? (i := 902) (by decide +kernel), List.mem_of_getElem? (i := 1198) (by decide +kernel), List.mem_of_getElem? (i := 1199) (by decide +kernel)⟩
def lw_privs_3 : List (MethodName × Nat) := [(⟨"OpenOrTake$Bodies", "run", "(III)I"⟩, 5), (⟨"OpenOrTake$Bodies", "note", "(I)V"⟩, 5), (⟨"OpenOrTake$Bodies", "above", "(IIII)I"⟩, 5), (⟨"OpenOrTakeModel", "addPerson", "(I)I"⟩, 64), (⟨"OpenOrTakeModel", "beginAt", "(I)V"⟩, 64), (⟨"OpenOrTakeModel", "lays", "(III)V"⟩, 64), (⟨"OpenOrTakeModel", "areBoth", "(I)Z"⟩, 64), (⟨"OpenOrTakeModel", "isPerson", "(I)Z"⟩, 64), (⟨"OpenOrTakeModel", "changes", "(III)I"⟩, 64), (⟨"OpenOrTakeModel", "valueAt", "(II)I"⟩, 64), (⟨"OpenOrTakeModel", "hasIn", "(II)I"⟩, 64), (⟨"OpenOrTakeModel", "swapLot", "(II)V"⟩, 64), (⟨"OpenOrTakeModel", "readText", "(I)I"⟩, 64), (⟨"OpenOrTakeModel", "line", "()V"⟩, 64), (⟨"OpenOrTakeModel", "either", "()V"⟩, 64), (⟨"OpenOrTakeModel", "both", "()V"⟩, 64)]
theorem lw_r3 : ∀ q ∈ lw_privs_3, lw_okq q := List.forall_mem_cons.mpr ⟨lw_p32, List.forall_mem_cons.mpr ⟨lw_p33, List.forall_mem_cons.mpr ⟨lw_p34, List.forall_mem_cons.mpr ⟨lw_p35, List.forall_mem_cons.mpr ⟨lw_p36, List.forall_mem_cons.mpr ⟨lw_p37, List.forall_mem_cons.mpr ⟨lw_p38, List.forall_mem_cons.mpr ⟨lw_p39, List.forall_mem_cons.mpr ⟨lw_p40, List.forall_mem_cons.mpr ⟨lw_p41, List.forall_mem_cons.mpr ⟨lw_p42, List.forall_mem_cons.mpr ⟨lw_p43, List.forall_mem_cons.mpr ⟨lw_p44, List.forall_mem_cons.mpr ⟨lw_p45, List.forall_mem_cons.mpr ⟨lw_p46, List.forall_mem_cons.mpr ⟨lw_p47, fun _ h => absurd h List.not_mem_nil⟩⟩⟩⟩⟩⟩⟩⟩⟩⟩⟩⟩⟩⟩⟩⟩
theorem lw_p48 : lw_okq (⟨"OpenOrTakeModel", "compared", "()V"⟩, 64) := ⟨⟨by decide +kernel, by decide +kernel⟩, List.mem_of_getElem? (i := 902) (by decide +kernel), List.mem_of_getElem? (i := 1202) (by decide +kernel), List.mem_of_getElem? (i := 1203) (by decide +kernel)⟩
theorem lw_p49 : lw_okq (⟨"OpenOrTakeModel", "sum", "()V"⟩, 64) := ⟨⟨by decide +kernel, by decide +kernel⟩, List.mem_of_getElem? (i := 902) (by decide +kernel), List.mem_of_getElem? (i := 1206) (by decide +kernel), List.mem_of_getElem? (i := 1207) (by decide +kernel)⟩
theorem lw_p50 : lw_okq (⟨"OpenOrTakeModel", "product", "()V"⟩, 64) := ⟨⟨by decide +kernel, by decide +kernel⟩, List.mem_of_getElem? (i := 902) (by decide +kernel), List.mem_of_getElem? (i := 1210) (by decide +kernel), List.mem_of_getElem? (i := 1211) (by decide +kernel)⟩
theorem lw_p51 : lw_okq (⟨"OpenOrTakeModel", "operand", "()V"⟩, 64) := ⟨⟨by decide +kernel, by decide +kernel⟩, List.mem_of_getElem? (i := 902) (by decide +kernel), List.mem_of_getElem? (i := 1214) (by decide +kernel), List.mem_of_getElem? (i := 1215) (by decide +kernel)⟩
theorem lw_p52 : lw_okq (⟨"OpenOrTakeModel", "look", "()I"⟩, 64) := ⟨⟨by decide +kernel, by decide +kernel⟩, List.mem_of_getElem? (i := 902) (by decide +kernel), List.mem_of_getElem? (i := 1218) (by decide +kernel), List.mem_of_getElem? (i := 1219) (by decide +kernel)⟩
theorem lw_p53 : lw_okq (⟨"OpenOrTakeModel", "addStep", "(II)V"⟩, 64) := ⟨⟨by decide +kernel, by decide +kernel⟩, List.mem_of_getElem? (i := 902) (by decide +kernel), List.mem_of_getElem? (i := 1225) (by decide +kernel), List.mem_of_getElem? (i := 1226) (by decide +kernel)⟩
theorem lw_p54 : lw_okq (⟨"OpenOrTakeModel", "opens", "()Z"⟩, 64) := ⟨⟨by decide +kernel, by decide +kernel⟩, List.mem_of_getElem? (i := 902) (by decide +kernel), List.mem_of_getElem? (i := 1229) (by decide +kernel), List.mem_of_getElem? (i := 1230) (by decide +kernel)⟩
theorem lw_p55 : lw_okq (⟨"OpenOrTakeModel", "faulty", "()V"⟩, 64) := ⟨⟨by decide +kernel, by decide +kernel⟩, List.mem_of_getElem? (i := 902) (by decide +kernel), List.mem_of_getElem? (i := 1233) (by decide +kernel), List.mem_of_getElem? (i := 1234) (by decide +kernel)⟩
theorem lw_p56 : lw_okq (⟨"OpenOrTakeModel", "figure", "()V"⟩, 64) := ⟨⟨by decide +kernel, by decide +kernel⟩, List.mem_of_getElem? (i := 902) (by decide +kernel), List.mem_of_getElem? (i := 1237) (by decide +kernel), List.mem_of_getElem? (i := 1238) (by decide +kernel)⟩
theorem lw_p57 : lw_okq (⟨"OpenOrTakeModel", "opensAt", "(I)I"⟩, 64) := ⟨⟨by decide +kernel, by decide +kernel⟩, List.mem_of_getElem? (i := 902) (by decide +kernel), List.mem_of_getElem? (i := 1249) (by decide +kernel), List.mem_of_getElem? (i := 1250) (by decide +kernel)⟩
theorem lw_p58 : lw_okq (⟨"OpenOrTakeModel", "lowestWrapped", "(I)I"⟩, 64) := ⟨⟨by decide +kernel, by decide +kernel⟩, List.mem_of_getElem? (i := 902) (by decide +kernel), List.mem_of_getElem? (i := 1253) (by decide +kernel), List.mem_of_getElem? (i := 1254) (by decide +kernel)⟩
theorem lw_p59 : lw_okq (⟨"OpenOrTakeModel", "lead", "(II)V"⟩, 64) := ⟨⟨by decide +kernel, by decide +kernel⟩, List.mem_of_getElem? (i := 902) (by decide +kernel), List.mem_of_getElem? (i := 1257) (by decide +kernel), List.mem_of_getElem? (i := 1258) (by decide +kernel)⟩
theorem lw_p60 : lw_okq (⟨"OpenOrTakeModel", "mayTake", "(II)Z"⟩, 64) := ⟨⟨by decide +kernel, by decide +kernel⟩, List.mem_of_getElem? (i := 902) (by decide +kernel), List.mem_of_getElem? (i := 1265) (by decide +kernel), List.mem_of_getElem? (i := 1266) (by decide +kernel)⟩
theorem lw_p61 : lw_okq (⟨"OpenOrTakeModel", "takesAt", "(II)I"⟩, 64) := ⟨⟨by decide +kernel, by decide +kernel⟩, List.mem_of_getElem? (i := 902) (by decide +kernel), List.mem_of_getElem? (i := 1269) (by decide +kernel), List.mem_of_getElem? (i := 1270) (by decide +kernel)⟩
theorem lw_p62 : lw_okq (⟨"OpenOrTakeModel", "goTurn", "(I)I"⟩, 64) := ⟨⟨by decide +kernel, by decide +kernel⟩, List.mem_of_getElem? (i := 902) (by decide +kernel), List.mem_of_getElem? (i := 1277) (by decide +kernel), List.mem_of_getElem? (i := 1278) (by decide +kernel)⟩
theorem lw_p63 : lw_okq (⟨"OpenOrTakeModel", "choice", "(I)I"⟩, 64) := ⟨⟨by decide +kernel, by decide +kernel⟩, List.mem_of_getElem? (i := 902) (by decide +kernel), List.mem_of_getElem? (i := 1281) (by decide +kernel), List.mem_of_getElem? (i := 1282) (by decide +kernel)⟩
def lw_privs_4 : List (MethodName × Nat) := [(⟨"OpenOrTakeModel", "compared", "()V"⟩, 64), (⟨"OpenOrTakeModel", "sum", "()V"⟩, 64), (⟨"OpenOrTakeModel", "product", "()V"⟩, 64), (⟨"OpenOrTakeModel", "operand", "()V"⟩, 64), (⟨"OpenOrTakeModel", "look", "()I"⟩, 64), (⟨"OpenOrTakeModel", "addStep", "(II)V"⟩, 64), (⟨"OpenOrTakeModel", "opens", "()Z"⟩, 64), (⟨"OpenOrTakeModel", "faulty", "()V"⟩, 64), (⟨"OpenOrTakeModel", "figure", "()V"⟩, 64), (⟨"OpenOrTakeModel", "opensAt", "(I)I"⟩, 64), (⟨"OpenOrTakeModel", "lowestWrapped", "(I)I"⟩, 64), (⟨"OpenOrTakeModel", "lead", "(II)V"⟩, 64), (⟨"OpenOrTakeModel", "mayTake", "(II)Z"⟩, 64), (⟨"OpenOrTakeModel", "takesAt", "(II)I"⟩, 64), (⟨"OpenOrTakeModel", "goTurn", "(I)I"⟩, 64), (⟨"OpenOrTakeModel", "choice", "(I)I"⟩, 64)]
theorem lw_r4 : ∀ q ∈ lw_privs_4, lw_okq q := List.forall_mem_cons.mpr ⟨lw_p48, List.forall_mem_cons.mpr ⟨lw_p49, List.forall_mem_cons.mpr ⟨lw_p50, List.forall_mem_cons.mpr ⟨lw_p51, List.forall_mem_cons.mpr ⟨lw_p52, List.forall_mem_cons.mpr ⟨lw_p53, List.forall_mem_cons.mpr ⟨lw_p54, List.forall_mem_cons.mpr ⟨lw_p55, List.forall_mem_cons.mpr ⟨lw_p56, List.forall_mem_cons.mpr ⟨lw_p57, List.forall_mem_cons.mpr ⟨lw_p58, List.forall_mem_cons.mpr ⟨lw_p59, List.forall_mem_cons.mpr ⟨lw_p60, List.forall_mem_cons.mpr ⟨lw_p61, List.forall_mem_cons.mpr ⟨lw_p62, List.forall_mem_cons.mpr ⟨lw_p63, fun _ h => absurd h List.not_mem_nil⟩⟩⟩⟩⟩⟩⟩⟩⟩⟩⟩⟩⟩⟩⟩⟩
theorem lw_p64 : lw_okq (⟨"OpenOrTakeModel", "lawsNumber", "(III)I"⟩, 64) := ⟨⟨by decide +kernel, by decide +kernel⟩, List.mem_of_getElem? (i := 902) (by decide +kernel), List.mem_of_getElem? (i := 1285) (by decide +kernel), List.mem_of_getElem? (i := 1286) (by decide +kernel)⟩
theorem lw_p65 : lw_okq (⟨"OpenOrTakeModel", "guessOf", "(II)I"⟩, 64) := ⟨⟨by decide +kernel, by decide +kernel⟩, List.mem_of_getElem? (i := 902) (by decide +kernel), List.mem_of_getElem? (i := 1289) (by decide +kernel), List.mem_of_getElem? (i := 1290) (by decide +kernel)⟩
theorem lw_p66 : lw_okq (⟨"OpenOrTakeModel", "gives", "(I)I"⟩, 64) := ⟨⟨by decide +kernel, by decide +kernel⟩, List.mem_of_getElem? (i := 902) (by decide +kernel), List.mem_of_getElem? (i := 1296) (by decide +kernel), List.mem_of_getElem? (i := 1297) (by decide +kernel)⟩
theorem lw_p67 : lw_okq (⟨"OpenOrTakeModel", "worked", "(III)I"⟩, 64) := ⟨⟨by decide +kernel, by decide +kernel⟩, List.mem_of_getElem? (i := 902) (by decide +kernel), List.mem_of_getElem? (i := 1300) (by decide +kernel), List.mem_of_getElem? (i := 1301) (by decide +kernel)⟩
theorem lw_p68 : lw_okq (⟨"OpenOrTakeModel", "againChoice", "(I)I"⟩, 64) := ⟨⟨by decide +kernel, by decide +kernel⟩, List.mem_of_getElem? (i := 902) (by decide +kernel), List.mem_of_getElem? (i := 1311) (by decide +kernel), List.mem_of_getElem? (i := 1312) (by decide +kernel)⟩
theorem lw_p69 : lw_okq (⟨"OpenOrTakeModel", "changeAt", "(II)V"⟩, 64) := ⟨⟨by decide +kernel, by decide +kernel⟩, List.mem_of_getElem? (i := 902) (by decide +kernel), List.mem_of_getElem? (i := 1315) (by decide +kernel), List.mem_of_getElem? (i := 1316) (by decide +kernel)⟩
theorem lw_p70 : lw_okq (⟨"OpenOrTakeModel", "goEvening", "()V"⟩, 64) := ⟨⟨by decide +kernel, by decide +kernel⟩, List.mem_of_getElem? (i := 902) (by decide +kernel), List.mem_of_getElem? (i := 1331) (by decide +kernel), List.mem_of_getElem? (i := 1332) (by decide +kernel)⟩
theorem lw_p71 : lw_okq (⟨"OpenOrTakeModel", "goExact", "(I)V"⟩, 64) := ⟨⟨by decide +kernel, by decide +kernel⟩, List.mem_of_getElem? (i := 902) (by decide +kernel), List.mem_of_getElem? (i := 1339) (by decide +kernel), List.mem_of_getElem? (i := 1340) (by decide +kernel)⟩
theorem lw_p72 : lw_okq (⟨"OpenOrTakeModel", "keepAt", "(I)V"⟩, 64) := ⟨⟨by decide +kernel, by decide +kernel⟩, List.mem_of_getElem? (i := 902) (by decide +kernel), List.mem_of_getElem? (i := 1343) (by decide +kernel), List.mem_of_getElem? (i := 1344) (by decide +kernel)⟩
theorem lw_p73 : lw_okq (⟨"OpenOrTakeModel", "takeEnd", "(I)V"⟩, 64) := ⟨⟨by decide +kernel, by decide +kernel⟩, List.mem_of_getElem? (i := 902) (by decide +kernel), List.mem_of_getElem? (i := 1347) (by decide +kernel), List.mem_of_getElem? (i := 1348) (by decide +kernel)⟩
theorem lw_p74 : lw_okq (⟨"OpenOrTakeModel", "layAt", "(I)V"⟩, 64) := ⟨⟨by decide +kernel, by decide +kernel⟩, List.mem_of_getElem? (i := 902) (by decide +kernel), List.mem_of_getElem? (i := 1351) (by decide +kernel), List.mem_of_getElem? (i := 1352) (by decide +kernel)⟩
theorem lw_p75 : lw_okq (⟨"OpenOrTakeModel", "endWorth", "(II)I"⟩, 64) := ⟨⟨by decide +kernel, by decide +kernel⟩, List.mem_of_getElem? (i := 902) (by decide +kernel), List.mem_of_getElem? (i := 1355) (by decide +kernel), List.mem_of_getElem? (i := 1356) (by decide +kernel)⟩
theorem lw_p76 : lw_okq (⟨"OpenOrTakeModel", "goParts", "(III)V"⟩, 64) := ⟨⟨by decide +kernel, by decide +kernel⟩, List.mem_of_getElem? (i := 902) (by decide +kernel), List.mem_of_getElem? (i := 1363) (by decide +kernel), List.mem_of_getElem? (i := 1364) (by decide +kernel)⟩
theorem lw_p77 : lw_okq (⟨"OpenOrTakeModel", "keepLot", "()V"⟩, 64) := ⟨⟨by decide +kernel, by decide +kernel⟩, List.mem_of_getElem? (i := 902) (by decide +kernel), List.mem_of_getElem? (i := 1379) (by decide +kernel), List.mem_of_getElem? (i := 1380) (by decide +kernel)⟩
theorem lw_p78 : lw_okq (⟨"OpenOrTakeModel", "layLot", "()V"⟩, 64) := ⟨⟨by decide +kernel, by decide +kernel⟩, List.mem_of_getElem? (i := 902) (by decide +kernel), List.mem_of_getElem? (i := 1383) (by decide +kernel), List.mem_of_getElem? (i := 1384) (by decide +kernel)⟩
theorem lw_p79 : lw_okq (⟨"OpenOrTakeModel", "rowFault", "(I)I"⟩, 64) := ⟨⟨by decide +kernel, by decide +kernel⟩, List.mem_of_getElem? (i := 902) (by decide +kernel), List.mem_of_getElem? (i := 1392) (by decide +kernel), List.mem_of_getElem? (i := 1393) (by decide +kernel)⟩
def lw_privs_5 : List (MethodName × Nat) := [(⟨"OpenOrTakeModel", "lawsNumber", "(III)I"⟩, 64), (⟨"OpenOrTakeModel", "guessOf", "(II)I"⟩, 64), (⟨"OpenOrTakeModel", "gives", "(I)I"⟩, 64), (⟨"OpenOrTakeModel", "worked", "(III)I"⟩, 64), (⟨"OpenOrTakeModel", "againChoice", "(I)I"⟩, 64), (⟨"OpenOrTakeModel", "changeAt", "(II)V"⟩, 64), (⟨"OpenOrTakeModel", "goEvening", "()V"⟩, 64), (⟨"OpenOrTakeModel", "goExact", "(I)V"⟩, 64), (⟨"OpenOrTakeModel", "keepAt", "(I)V"⟩, 64), (⟨"OpenOrTakeModel", "takeEnd", "(I)V"⟩, 64), (⟨"OpenOrTakeModel", "layAt", "(I)V"⟩, 64), (⟨"OpenOrTakeModel", "endWorth", "(II)I"⟩, 64), (⟨"OpenOrTakeModel", "goParts", "(III)V"⟩, 64), (⟨"OpenOrTakeModel", "keepLot", "()V"⟩, 64), (⟨"OpenOrTakeModel", "layLot", "()V"⟩, 64), (⟨"OpenOrTakeModel", "rowFault", "(I)I"⟩, 64)]
theorem lw_r5 : ∀ q ∈ lw_privs_5, lw_okq q := List.forall_mem_cons.mpr ⟨lw_p64, List.forall_mem_cons.mpr ⟨lw_p65, List.forall_mem_cons.mpr ⟨lw_p66, List.forall_mem_cons.mpr ⟨lw_p67, List.forall_mem_cons.mpr ⟨lw_p68, List.forall_mem_cons.mpr ⟨lw_p69, List.forall_mem_cons.mpr ⟨lw_p70, List.forall_mem_cons.mpr ⟨lw_p71, List.forall_mem_cons.mpr ⟨lw_p72, List.forall_mem_cons.mpr ⟨lw_p73, List.forall_mem_cons.mpr ⟨lw_p74, List.forall_mem_cons.mpr ⟨lw_p75, List.forall_mem_cons.mpr ⟨lw_p76, List.forall_mem_cons.mpr ⟨lw_p77, List.forall_mem_cons.mpr ⟨lw_p78, List.forall_mem_cons.mpr ⟨lw_p79, fun _ h => absurd h List.not_mem_nil⟩⟩⟩⟩⟩⟩⟩⟩⟩⟩⟩⟩⟩⟩⟩⟩
theorem lw_p80 : lw_okq (⟨"OpenOrTakeModel", "wrongIn", "(I)I"⟩, 64) := ⟨⟨by decide +kernel, by decide +kernel⟩, List.mem_of_getElem? (i := 902) (by decide +kernel), List.mem_of_getElem? (i := 1396) (by decide +kernel), List.mem_of_getElem? (i := 1397) (by decide +kernel)⟩
theorem lw_p81 : lw_okq (⟨"OpenOrTakeModel", "goLots", "(III)I"⟩, 64) := ⟨⟨by decide +kernel, by decide +kernel⟩, List.mem_of_getElem? (i := 902) (by decide +kernel), List.mem_of_getElem? (i := 1404) (by decide +kernel), List.mem_of_getElem? (i := 1405) (by decide +kernel)⟩
theorem lw_p82 : lw_okq (⟨"OpenOrTakeModel", "isBody", "(I)Z"⟩, 64) := ⟨⟨by decide +kernel, by decide +kernel⟩, List.mem_of_getElem? (i := 902) (by decide +kernel), List.mem_of_getElem? (i := 1428) (by decide +kernel), List.mem_of_getElem? (i := 1429) (by decide +kernel)⟩
theorem lw_p83 : lw_okq (⟨"OpenOrTakeModel", "opening", "(II)I"⟩, 64) := ⟨⟨by decide +kernel, by decide +kernel⟩, List.mem_of_getElem? (i := 902) (by decide +kernel), List.mem_of_getElem? (i := 1432) (by decide +kernel), List.mem_of_getElem? (i := 1433) (by decide +kernel)⟩
theorem lw_p84 : lw_okq (⟨"OpenOrTakeModel", "ran", "(I)V"⟩, 64) := ⟨⟨by decide +kernel, by decide +kernel⟩, List.mem_of_getElem? (i := 902) (by decide +kernel), List.mem_of_getElem? (i := 1439) (by decide +kernel), List.mem_of_getElem? (i := 1440) (by decide +kernel)⟩
theorem lw_p85 : lw_okq (⟨"OpenOrTakeModel", "plainOpens", "(II)I"⟩, 64) := ⟨⟨by decide +kernel, by decide +kernel⟩, List.mem_of_getElem? (i := 902) (by decide +kernel), List.mem_of_getElem? (i := 1443) (by decide +kernel), List.mem_of_getElem? (i := 1444) (by decide +kernel)⟩
theorem lw_p86 : lw_okq (⟨"OpenOrTakeModel", "knownOpens", "(II)I"⟩, 64) := ⟨⟨by decide +kernel, by decide +kernel⟩, List.mem_of_getElem? (i := 902) (by decide +kernel), List.mem_of_getElem? (i := 1447) (by decide +kernel), List.mem_of_getElem? (i := 1448) (by decide +kernel)⟩
theorem lw_p87 : lw_okq (⟨"OpenOrTakeModel", "taking", "(II)I"⟩, 64) := ⟨⟨by decide +kernel, by decide +kernel⟩, List.mem_of_getElem? (i := 902) (by decide +kernel), List.mem_of_getElem? (i := 1451) (by decide +kernel), List.mem_of_getElem? (i := 1452) (by decide +kernel)⟩
theorem lw_p88 : lw_okq (⟨"OpenOrTakeModel", "openTakes", "(II)I"⟩, 64) := ⟨⟨by decide +kernel, by decide +kernel⟩, List.mem_of_getElem? (i := 902) (by decide +kernel), List.mem_of_getElem? (i := 1455) (by decide +kernel), List.mem_of_getElem? (i := 1456) (by decide +kernel)⟩
theorem lw_p89 : lw_okq (⟨"OpenOrTakeModel", "plainTakes", "(II)I"⟩, 64) := ⟨⟨by decide +kernel, by decide +kernel⟩, List.mem_of_getElem? (i := 902) (by decide +kernel), List.mem_of_getElem? (i := 1459) (by decide +kernel), List.mem_of_getElem? (i := 1460) (by decide +kernel)⟩
theorem lw_p90 : lw_okq (⟨"OpenOrTakeModel", "looking", "(II)I"⟩, 64) := ⟨⟨by decide +kernel, by decide +kernel⟩, List.mem_of_getElem? (i := 902) (by decide +kernel), List.mem_of_getElem? (i := 1463) (by decide +kernel), List.mem_of_getElem? (i := 1464) (by decide +kernel)⟩
theorem lw_p91 : lw_okq (⟨"OpenOrTakeModel", "hotLooks", "(II)I"⟩, 64) := ⟨⟨by decide +kernel, by decide +kernel⟩, List.mem_of_getElem? (i := 902) (by decide +kernel), List.mem_of_getElem? (i := 1467) (by decide +kernel), List.mem_of_getElem? (i := 1468) (by decide +kernel)⟩
theorem lw_p92 : lw_okq (⟨"OpenOrTakeModel", "plainLooks", "(II)I"⟩, 64) := ⟨⟨by decide +kernel, by decide +kernel⟩, List.mem_of_getElem? (i := 902) (by decide +kernel), List.mem_of_getElem? (i := 1471) (by decide +kernel), List.mem_of_getElem? (i := 1472) (by decide +kernel)⟩
theorem lw_p93 : lw_okq (⟨"OpenOrTakeModel", "keeping", "(II)I"⟩, 64) := ⟨⟨by decide +kernel, by decide +kernel⟩, List.mem_of_getElem? (i := 902) (by decide +kernel), List.mem_of_getElem? (i := 1475) (by decide +kernel), List.mem_of_getElem? (i := 1476) (by decide +kernel)⟩
theorem lw_p94 : lw_okq (⟨"OpenOrTakeModel", "plainKeeps", "(II)I"⟩, 64) := ⟨⟨by decide +kernel, by decide +kernel⟩, List.mem_of_getElem? (i := 902) (by decide +kernel), List.mem_of_getElem? (i := 1479) (by decide +kernel), List.mem_of_getElem? (i := 1480) (by decide +kernel)⟩
theorem lw_p95 : lw_okq (⟨"OpenOrTakeModel", "safeMany", "()I"⟩, 64) := ⟨⟨by decide +kernel, by decide +kernel⟩, List.mem_of_getElem? (i := 902) (by decide +kernel), List.mem_of_getElem? (i := 1487) (by decide +kernel), List.mem_of_getElem? (i := 1488) (by decide +kernel)⟩
def lw_privs_6 : List (MethodName × Nat) := [(⟨"OpenOrTakeModel", "wrongIn", "(I)I"⟩, 64), (⟨"OpenOrTakeModel", "goLots", "(III)I"⟩, 64), (⟨"OpenOrTakeModel", "isBody", "(I)Z"⟩, 64), (⟨"OpenOrTakeModel", "opening", "(II)I"⟩, 64), (⟨"OpenOrTakeModel", "ran", "(I)V"⟩, 64), (⟨"OpenOrTakeModel", "plainOpens", "(II)I"⟩, 64), (⟨"OpenOrTakeModel", "knownOpens", "(II)I"⟩, 64), (⟨"OpenOrTakeModel", "taking", "(II)I"⟩, 64), (⟨"OpenOrTakeModel", "openTakes", "(II)I"⟩, 64), (⟨"OpenOrTakeModel", "plainTakes", "(II)I"⟩, 64), (⟨"OpenOrTakeModel", "looking", "(II)I"⟩, 64), (⟨"OpenOrTakeModel", "hotLooks", "(II)I"⟩, 64), (⟨"OpenOrTakeModel", "plainLooks", "(II)I"⟩, 64), (⟨"OpenOrTakeModel", "keeping", "(II)I"⟩, 64), (⟨"OpenOrTakeModel", "plainKeeps", "(II)I"⟩, 64), (⟨"OpenOrTakeModel", "safeMany", "()I"⟩, 64)]
theorem lw_r6 : ∀ q ∈ lw_privs_6, lw_okq q := List.forall_mem_cons.mpr ⟨lw_p80, List.forall_mem_cons.mpr ⟨lw_p81, List.forall_mem_cons.mpr ⟨lw_p82, List.forall_mem_cons.mpr ⟨lw_p83, List.forall_mem_cons.mpr ⟨lw_p84, List.forall_mem_cons.mpr ⟨lw_p85, List.forall_mem_cons.mpr ⟨lw_p86, List.forall_mem_cons.mpr ⟨lw_p87, List.forall_mem_cons.mpr ⟨lw_p88, List.forall_mem_cons.mpr ⟨lw_p89, List.forall_mem_cons.mpr ⟨lw_p90, List.forall_mem_cons.mpr ⟨lw_p91, List.forall_mem_cons.mpr ⟨lw_p92, List.forall_mem_cons.mpr ⟨lw_p93, List.forall_mem_cons.mpr ⟨lw_p94, List.forall_mem_cons.mpr ⟨lw_p95, fun _ h => absurd h List.not_mem_nil⟩⟩⟩⟩⟩⟩⟩⟩⟩⟩⟩⟩⟩⟩⟩⟩
theorem lw_p96 : lw_okq (⟨"OpenOrTakeModel", "whyNoPlace", "(II)I"⟩, 64) := ⟨⟨by decide +kernel, by decide +kernel⟩, List.mem_of_getElem? (i := 902) (by decide +kernel), List.mem_of_getElem? (i := 1503) (by decide +kernel), List.mem_of_getElem? (i := 1504) (by decide +kernel)⟩
def lw_privs_7 : List (MethodName × Nat) := [(⟨"OpenOrTakeModel", "whyNoPlace", "(II)I"⟩, 64)]
theorem lw_r7 : ∀ q ∈ lw_privs_7, lw_okq q := List.forall_mem_cons.mpr ⟨lw_p96, fun _ h => absurd h List.not_mem_nil⟩
def lw_privs : List (MethodName × Nat) := lw_privs_1 ++ (lw_privs_2 ++ (lw_privs_3 ++ (lw_privs_4 ++ (lw_privs_5 ++ (lw_privs_6 ++ (lw_privs_7))))))
def lw_tbl : List Cond := k2_sels lw_privs ++ tables_1
theorem lw_privs_ok : ∀ q ∈ lw_privs, lw_okq q := by
  show ∀ q ∈ lw_privs_1 ++ (lw_privs_2 ++ (lw_privs_3 ++ (lw_privs_4 ++ (lw_privs_5 ++ (lw_privs_6 ++ (lw_privs_7)))))), lw_okq q
  exact List.forall_mem_append.mpr ⟨lw_r1, List.forall_mem_append.mpr ⟨lw_r2, List.forall_mem_append.mpr ⟨lw_r3, List.forall_mem_append.mpr ⟨lw_r4, List.forall_mem_append.mpr ⟨lw_r5, List.forall_mem_append.mpr ⟨lw_r6, lw_r7⟩⟩⟩⟩⟩⟩
-- ===== end of PART A; then your names; then what follows =====
/-! ===== BEGIN printed: names, fields, word lists, decode rows ===== -/
def RX0 : String := "OpenOrTake$Bodies"
def TX0 : u_T := fun k => match k with
  | 0 => ("OpenOrTake$Bodies", "kinds", "[I", true)
  | 1 => ("OpenOrTake$Bodies", "count", "I", false)
  | 2 => ("OpenOrTake$Bodies", "trace", "[I", true)
  | 3 => ("OpenOrTake$Bodies", "ran", "I", false)
  | _ => ("OpenOrTake$Bodies", "self", "I", false)
def tyX0 : Nat → FieldType := fun k => match k with
  | 0 => .array .int
  | 1 => .int
  | 2 => .array .int
  | 3 => .int
  | _ => .int
abbrev wsX00 : List Cond := u_ws RX0 TX0 5
theorem nmX0 : ∀ a, a < 5 → ∀ b, b < 5 → a ≠ b → (TX0 a).2.1 ≠ (TX0 b).2.1 := by decide +kernel
theorem tyX0_ok : ∀ k, k < 5 → parseFieldDescriptor (TX0 k).2.2.1 = some (tyX0 k) := by decide +kernel
abbrev cX0_init : ByteArray := prog_2_method_1_code
def yX0_init : MethodName := ⟨RX0, "<init>", "()V"⟩
abbrev cX0_add : ByteArray := prog_2_method_2_code
def yX0_add : MethodName := ⟨RX0, "add", "(I)I"⟩
abbrev cX0_isThere : ByteArray := prog_2_method_3_code
def yX0_isThere : MethodName := ⟨RX0, "isThere", "(I)Z"⟩
abbrev cX0_kindOf : ByteArray := prog_2_method_4_code
def yX0_kindOf : MethodName := ⟨RX0, "kindOf", "(I)I"⟩
abbrev cX0_isUnder : ByteArray := prog_2_method_5_code
def yX0_isUnder : MethodName := ⟨RX0, "isUnder", "(II)Z"⟩
abbrev cX0_traced : ByteArray := prog_2_method_6_code
def yX0_traced : MethodName := ⟨RX0, "traced", "(I)I"⟩
abbrev cX0_perform : ByteArray := prog_2_method_7_code
def yX0_perform : MethodName := ⟨RX0, "perform", "(III)I"⟩
abbrev cX0_own : ByteArray := prog_2_method_8_code
def yX0_own : MethodName := ⟨RX0, "own", "(III)I"⟩
abbrev cX0_above : ByteArray := prog_2_method_9_code
def yX0_above : MethodName := ⟨RX0, "above", "(IIII)I"⟩
abbrev cX0_from : ByteArray := prog_2_method_10_code
def yX0_from : MethodName := ⟨RX0, "from", "(IIII)I"⟩
abbrev cX0_note : ByteArray := prog_2_method_11_code
def yX0_note : MethodName := ⟨RX0, "note", "(I)V"⟩
abbrev cX0_run : ByteArray := prog_2_method_12_code
def yX0_run : MethodName := ⟨RX0, "run", "(III)I"⟩
def RX1 : String := "OpenOrTake$Changes"
def TX1 : u_T := fun k => match k with
  | 0 => ("OpenOrTake$Changes", "number", "[I", true)
  | 1 => ("OpenOrTake$Changes", "what", "[I", true)
  | 2 => ("OpenOrTake$Changes", "before", "[I", true)
  | 3 => ("OpenOrTake$Changes", "after", "[I", true)
  | 4 => ("OpenOrTake$Changes", "done", "I", false)
  | _ => ("OpenOrTake$Changes", "all", "I", false)
def tyX1 : Nat → FieldType := fun k => match k with
  | 0 => .array .int
  | 1 => .array .int
  | 2 => .array .int
  | 3 => .array .int
  | 4 => .int
  | _ => .int
abbrev wsX10 : List Cond := u_ws RX1 TX1 6
theorem nmX1 : ∀ a, a < 6 → ∀ b, b < 6 → a ≠ b → (TX1 a).2.1 ≠ (TX1 b).2.1 := by decide +kernel
theorem tyX1_ok : ∀ k, k < 6 → parseFieldDescriptor (TX1 k).2.2.1 = some (tyX1 k) := by decide +kernel
abbrev cX1_init : ByteArray := prog_3_method_1_code
def yX1_init : MethodName := ⟨RX1, "<init>", "()V"⟩
abbrev cX1_note : ByteArray := prog_3_method_2_code
def yX1_note : MethodName := ⟨RX1, "note", "(IIII)V"⟩
abbrev cX1_forgetOldest : ByteArray := prog_3_method_3_code
def yX1_forgetOldest : MethodName := ⟨RX1, "forgetOldest", "()V"⟩
abbrev cX1_stepBack : ByteArray := prog_3_method_4_code
def yX1_stepBack : MethodName := ⟨RX1, "stepBack", "(LOpenOrTake$Party;)V"⟩
abbrev cX1_stepOn : ByteArray := prog_3_method_5_code
def yX1_stepOn : MethodName := ⟨RX1, "stepOn", "(LOpenOrTake$Party;)V"⟩
def RX2 : String := "OpenOrTake$Evening"
def TX2 : u_T := fun k => match k with
  | 0 => ("OpenOrTake$Evening", "lot", "[I", true)
  | 1 => ("OpenOrTake$Evening", "has", "[I", true)
  | 2 => ("OpenOrTake$Evening", "holder", "[I", true)
  | 3 => ("OpenOrTake$Evening", "taken", "[I", true)
  | 4 => ("OpenOrTake$Evening", "opened", "I", false)
  | 5 => ("OpenOrTake$Evening", "robbed", "I", false)
  | 6 => ("OpenOrTake$Evening", "just", "I", false)
  | 7 => ("OpenOrTake$Evening", "againWas", "Z", false)
  | 8 => ("OpenOrTake$Evening", "latestWho", "I", false)
  | 9 => ("OpenOrTake$Evening", "latestGot", "I", false)
  | _ => ("OpenOrTake$Evening", "turns", "I", false)
def tyX2 : Nat → FieldType := fun k => match k with
  | 0 => .array .int
  | 1 => .array .int
  | 2 => .array .int
  | 3 => .array .int
  | 4 => .int
  | 5 => .int
  | 6 => .int
  | 7 => .boolean
  | 8 => .int
  | 9 => .int
  | _ => .int
abbrev wsX20 : List Cond := u_ws RX2 TX2 11
theorem nmX2 : ∀ a, a < 11 → ∀ b, b < 11 → a ≠ b → (TX2 a).2.1 ≠ (TX2 b).2.1 := by decide +kernel
theorem tyX2_ok : ∀ k, k < 11 → parseFieldDescriptor (TX2 k).2.2.1 = some (tyX2 k) := by decide +kernel
abbrev cX2_init : ByteArray := prog_4_method_1_code
def yX2_init : MethodName := ⟨RX2, "<init>", "()V"⟩
abbrev cX2_hasBegun : ByteArray := prog_4_method_2_code
def yX2_hasBegun : MethodName := ⟨RX2, "hasBegun", "()Z"⟩
abbrev cX2_hasEnded : ByteArray := prog_4_method_3_code
def yX2_hasEnded : MethodName := ⟨RX2, "hasEnded", "(LOpenOrTake$Party;)Z"⟩
abbrev cX2_wrapAll : ByteArray := prog_4_method_4_code
def yX2_wrapAll : MethodName := ⟨RX2, "wrapAll", "()V"⟩
abbrev cX2_become : ByteArray := prog_4_method_5_code
def yX2_become : MethodName := ⟨RX2, "become", "(LOpenOrTake$Evening;)V"⟩
abbrev cX2_beginBy : ByteArray := prog_4_method_6_code
def yX2_beginBy : MethodName := ⟨RX2, "beginBy", "([I)V"⟩
abbrev cX2_changePlaces : ByteArray := prog_4_method_7_code
def yX2_changePlaces : MethodName := ⟨RX2, "changePlaces", "(II)V"⟩
abbrev cX2_whoseTurn : ByteArray := prog_4_method_8_code
def yX2_whoseTurn : MethodName := ⟨RX2, "whoseTurn", "(LOpenOrTake$Party;)I"⟩
abbrev cX2_isSafe : ByteArray := prog_4_method_9_code
def yX2_isSafe : MethodName := ⟨RX2, "isSafe", "(ILOpenOrTake$Party;)Z"⟩
abbrev cX2_countSafe : ByteArray := prog_4_method_10_code
def yX2_countSafe : MethodName := ⟨RX2, "countSafe", "(LOpenOrTake$Party;)I"⟩
abbrev cX2_mayRob : ByteArray := prog_4_method_11_code
def yX2_mayRob : MethodName := ⟨RX2, "mayRob", "(ILOpenOrTake$Party;)Z"⟩
abbrev cX2_unwrap : ByteArray := prog_4_method_12_code
def yX2_unwrap : MethodName := ⟨RX2, "unwrap", "(I)I"⟩
abbrev cX2_rob : ByteArray := prog_4_method_13_code
def yX2_rob : MethodName := ⟨RX2, "rob", "(II)I"⟩
abbrev cX2_give : ByteArray := prog_4_method_14_code
def yX2_give : MethodName := ⟨RX2, "give", "(II)V"⟩
abbrev cX2_playTill : ByteArray := prog_4_method_15_code
def yX2_playTill : MethodName := ⟨RX2, "playTill", "(ILOpenOrTake$Party;)I"⟩
abbrev cX2_guess : ByteArray := prog_4_method_16_code
def yX2_guess : MethodName := ⟨RX2, "guess", "(ILOpenOrTake$Party;)I"⟩
abbrev cX2_ofMostWorth : ByteArray := prog_4_method_17_code
def yX2_ofMostWorth : MethodName := ⟨RX2, "ofMostWorth", "(ILOpenOrTake$Party;)I"⟩
abbrev cX2_fromWhomItLikesLeast : ByteArray := prog_4_method_18_code
def yX2_fromWhomItLikesLeast : MethodName := ⟨RX2, "fromWhomItLikesLeast", "(ILOpenOrTake$Party;)I"⟩
abbrev cX2_byTheLaw : ByteArray := prog_4_method_19_code
def yX2_byTheLaw : MethodName := ⟨RX2, "byTheLaw", "(ILOpenOrTake$Party;)I"⟩
abbrev cX2_closeByLaw : ByteArray := prog_4_method_20_code
def yX2_closeByLaw : MethodName := ⟨RX2, "closeByLaw", "(LOpenOrTake$Party;)V"⟩
abbrev cX2_chooseOnceMore : ByteArray := prog_4_method_21_code
def yX2_chooseOnceMore : MethodName := ⟨RX2, "chooseOnceMore", "(LOpenOrTake$Party;)V"⟩
abbrev cX2_exchange : ByteArray := prog_4_method_22_code
def yX2_exchange : MethodName := ⟨RX2, "exchange", "(III)V"⟩
abbrev cX2_worths : ByteArray := prog_4_method_23_code
def yX2_worths : MethodName := ⟨RX2, "worths", "(LOpenOrTake$Party;)I"⟩
def RX3 : String := "OpenOrTake$Law"
def TX3 : u_T := fun k => match k with
  | 0 => ("OpenOrTake$Law", "sign", "[C", true)
  | 1 => ("OpenOrTake$Law", "detail", "[I", true)
  | 2 => ("OpenOrTake$Law", "length", "I", false)
  | 3 => ("OpenOrTake$Law", "latestIf", "I", false)
  | 4 => ("OpenOrTake$Law", "stack", "[I", true)
  | _ => ("OpenOrTake$Law", "named", "[I", true)
def tyX3 : Nat → FieldType := fun k => match k with
  | 0 => .array .char
  | 1 => .array .int
  | 2 => .int
  | 3 => .int
  | 4 => .array .int
  | _ => .array .int
abbrev wsX30 : List Cond := u_ws RX3 TX3 6
theorem nmX3 : ∀ a, a < 6 → ∀ b, b < 6 → a ≠ b → (TX3 a).2.1 ≠ (TX3 b).2.1 := by decide +kernel
theorem tyX3_ok : ∀ k, k < 6 → parseFieldDescriptor (TX3 k).2.2.1 = some (tyX3 k) := by decide +kernel
abbrev cX3_init : ByteArray := prog_5_method_1_code
def yX3_init : MethodName := ⟨RX3, "<init>", "()V"⟩
abbrev cX3_clear : ByteArray := prog_5_method_2_code
def yX3_clear : MethodName := ⟨RX3, "clear", "()V"⟩
abbrev cX3_write : ByteArray := prog_5_method_3_code
def yX3_write : MethodName := ⟨RX3, "write", "(CI)V"⟩
abbrev cX3_writeIf : ByteArray := prog_5_method_4_code
def yX3_writeIf : MethodName := ⟨RX3, "writeIf", "()V"⟩
abbrev cX3_writeEndOfLine : ByteArray := prog_5_method_5_code
def yX3_writeEndOfLine : MethodName := ⟨RX3, "writeEndOfLine", "()V"⟩
abbrev cX3_nameOf : ByteArray := prog_5_method_6_code
def yX3_nameOf : MethodName := ⟨RX3, "nameOf", "(I)I"⟩
abbrev cX3_number : ByteArray := prog_5_method_7_code
def yX3_number : MethodName := ⟨RX3, "number", "(IIIIII)I"⟩
abbrev cX3_joined : ByteArray := prog_5_method_8_code
def yX3_joined : MethodName := ⟨RX3, "joined", "(CII)I"⟩
def RX4 : String := "OpenOrTake$Party"
def TX4 : u_T := fun k => match k with
  | 0 => ("OpenOrTake$Party", "people", "I", false)
  | 1 => ("OpenOrTake$Party", "worth", "[I", true)
  | 2 => ("OpenOrTake$Party", "like", "[I", true)
  | 3 => ("OpenOrTake$Party", "way", "[I", true)
  | 4 => ("OpenOrTake$Party", "most", "I", false)
  | 5 => ("OpenOrTake$Party", "again", "I", false)
  | _ => ("OpenOrTake$Party", "law", "LOpenOrTake$Law;", false)
def tyX4 : Nat → FieldType := fun k => match k with
  | 0 => .int
  | 1 => .array .int
  | 2 => .array .int
  | 3 => .array .int
  | 4 => .int
  | 5 => .int
  | _ => .object "OpenOrTake$Law"
abbrev wsX40 : List Cond := u_ws RX4 TX4 7
theorem nmX4 : ∀ a, a < 7 → ∀ b, b < 7 → a ≠ b → (TX4 a).2.1 ≠ (TX4 b).2.1 := by decide +kernel
theorem tyX4_ok : ∀ k, k < 7 → parseFieldDescriptor (TX4 k).2.2.1 = some (tyX4 k) := by decide +kernel
abbrev cX4_init : ByteArray := prog_6_method_1_code
def yX4_init : MethodName := ⟨RX4, "<init>", "()V"⟩
abbrev cX4_isOne : ByteArray := prog_6_method_2_code
def yX4_isOne : MethodName := ⟨RX4, "isOne", "(I)Z"⟩
abbrev cX4_isPair : ByteArray := prog_6_method_3_code
def yX4_isPair : MethodName := ⟨RX4, "isPair", "(I)Z"⟩
abbrev cX4_worthFor : ByteArray := prog_6_method_4_code
def yX4_worthFor : MethodName := ⟨RX4, "worthFor", "(II)I"⟩
abbrev cX4_likeFor : ByteArray := prog_6_method_5_code
def yX4_likeFor : MethodName := ⟨RX4, "likeFor", "(II)I"⟩
abbrev cX4_knows : ByteArray := prog_6_method_6_code
def yX4_knows : MethodName := ⟨RX4, "knows", "(II)Z"⟩
abbrev cX4_allows : ByteArray := prog_6_method_7_code
def yX4_allows : MethodName := ⟨RX4, "allows", "(II)Z"⟩
abbrev cX4_value : ByteArray := prog_6_method_8_code
def yX4_value : MethodName := ⟨RX4, "value", "(II)I"⟩
abbrev cX4_become : ByteArray := prog_6_method_9_code
def yX4_become : MethodName := ⟨RX4, "become", "(III)V"⟩
def RX5 : String := "OpenOrTake$Shelves"
def TX5 : u_T := fun k => match k with
  | 0 => ("OpenOrTake$Shelves", "sort", "[I", true)
  | 1 => ("OpenOrTake$Shelves", "size", "[I", true)
  | _ => ("OpenOrTake$Shelves", "rows", "[[J", true)
def tyX5 : Nat → FieldType := fun k => match k with
  | 0 => .array .int
  | 1 => .array .int
  | _ => .array (.array .long)
abbrev wsX50 : List Cond := u_ws RX5 TX5 3
theorem nmX5 : ∀ a, a < 3 → ∀ b, b < 3 → a ≠ b → (TX5 a).2.1 ≠ (TX5 b).2.1 := by decide +kernel
theorem tyX5_ok : ∀ k, k < 3 → parseFieldDescriptor (TX5 k).2.2.1 = some (tyX5 k) := by decide +kernel
abbrev cX5_init : ByteArray := prog_7_method_1_code
def yX5_init : MethodName := ⟨RX5, "<init>", "()V"⟩
abbrev cX5_isShelf : ByteArray := prog_7_method_2_code
def yX5_isShelf : MethodName := ⟨RX5, "isShelf", "(I)Z"⟩
abbrev cX5_isEmpty : ByteArray := prog_7_method_3_code
def yX5_isEmpty : MethodName := ⟨RX5, "isEmpty", "(I)Z"⟩
abbrev cX5_isRow : ByteArray := prog_7_method_4_code
def yX5_isRow : MethodName := ⟨RX5, "isRow", "(I)Z"⟩
abbrev cX5_holdBody : ByteArray := prog_7_method_5_code
def yX5_holdBody : MethodName := ⟨RX5, "holdBody", "(II)V"⟩
abbrev cX5_holdRow : ByteArray := prog_7_method_6_code
def yX5_holdRow : MethodName := ⟨RX5, "holdRow", "(III)V"⟩
abbrev cX5_refusalOfBytes : ByteArray := prog_7_method_7_code
def yX5_refusalOfBytes : MethodName := ⟨RX5, "refusalOfBytes", "(I)I"⟩
abbrev cX5_refusalOfElement : ByteArray := prog_7_method_8_code
def yX5_refusalOfElement : MethodName := ⟨RX5, "refusalOfElement", "(II)I"⟩
abbrev cX5_reaches : ByteArray := prog_7_method_9_code
def yX5_reaches : MethodName := ⟨RX5, "reaches", "(III)Z"⟩
abbrev cX5_lowestBits : ByteArray := prog_7_method_10_code
def yX5_lowestBits : MethodName := ⟨RX5, "lowestBits", "(IJ)J"⟩
def RX6 : String := "OpenOrTake$Tape"
def TX6 : u_T := fun k => match k with
  | 0 => ("OpenOrTake$Tape", "bytes", "[C", true)
  | 1 => ("OpenOrTake$Tape", "length", "I", false)
  | 2 => ("OpenOrTake$Tape", "at", "I", false)
  | 3 => ("OpenOrTake$Tape", "fault", "I", false)
  | _ => ("OpenOrTake$Tape", "draft", "LOpenOrTake$Law;", false)
def tyX6 : Nat → FieldType := fun k => match k with
  | 0 => .array .char
  | 1 => .int
  | 2 => .int
  | 3 => .int
  | _ => .object "OpenOrTake$Law"
abbrev wsX60 : List Cond := u_ws RX6 TX6 5
theorem nmX6 : ∀ a, a < 5 → ∀ b, b < 5 → a ≠ b → (TX6 a).2.1 ≠ (TX6 b).2.1 := by decide +kernel
theorem tyX6_ok : ∀ k, k < 5 → parseFieldDescriptor (TX6 k).2.2.1 = some (tyX6 k) := by decide +kernel
abbrev cX6_init : ByteArray := prog_8_method_1_code
def yX6_init : MethodName := ⟨RX6, "<init>", "()V"⟩
abbrev cX6_append : ByteArray := prog_8_method_2_code
def yX6_append : MethodName := ⟨RX6, "append", "(I)Z"⟩
abbrev cX6_read : ByteArray := prog_8_method_3_code
def yX6_read : MethodName := ⟨RX6, "read", "()I"⟩
abbrev cX6_draftFor : ByteArray := prog_8_method_4_code
def yX6_draftFor : MethodName := ⟨RX6, "draftFor", "(LOpenOrTake$Law;)LOpenOrTake$Law;"⟩
abbrev cX6_ahead : ByteArray := prog_8_method_5_code
def yX6_ahead : MethodName := ⟨RX6, "ahead", "()I"⟩
abbrev cX6_comes : ByteArray := prog_8_method_6_code
def yX6_comes : MethodName := ⟨RX6, "comes", "(C)Z"⟩
abbrev cX6_fail : ByteArray := prog_8_method_7_code
def yX6_fail : MethodName := ⟨RX6, "fail", "()V"⟩
abbrev cX6_write : ByteArray := prog_8_method_8_code
def yX6_write : MethodName := ⟨RX6, "write", "(C)V"⟩
abbrev cX6_line : ByteArray := prog_8_method_9_code
def yX6_line : MethodName := ⟨RX6, "line", "()V"⟩
abbrev cX6_either : ByteArray := prog_8_method_10_code
def yX6_either : MethodName := ⟨RX6, "either", "(I)V"⟩
abbrev cX6_both : ByteArray := prog_8_method_11_code
def yX6_both : MethodName := ⟨RX6, "both", "(I)V"⟩
abbrev cX6_compared : ByteArray := prog_8_method_12_code
def yX6_compared : MethodName := ⟨RX6, "compared", "(I)V"⟩
abbrev cX6_sum : ByteArray := prog_8_method_13_code
def yX6_sum : MethodName := ⟨RX6, "sum", "(I)V"⟩
abbrev cX6_product : ByteArray := prog_8_method_14_code
def yX6_product : MethodName := ⟨RX6, "product", "(I)V"⟩
abbrev cX6_operand : ByteArray := prog_8_method_15_code
def yX6_operand : MethodName := ⟨RX6, "operand", "(I)V"⟩
abbrev cX6_number : ByteArray := prog_8_method_16_code
def yX6_number : MethodName := ⟨RX6, "number", "()V"⟩
abbrev cX6_isDigit : ByteArray := prog_8_method_17_code
def yX6_isDigit : MethodName := ⟨RX6, "isDigit", "(I)Z"⟩
def RX7 : String := "OpenOrTake$Thought"
def TX7 : u_T := fun k => match k with
  | 0 => ("OpenOrTake$Thought", "party", "LOpenOrTake$Party;", true)
  | 1 => ("OpenOrTake$Thought", "levels", "[LOpenOrTake$Evening;", true)
  | 2 => ("OpenOrTake$Thought", "ends", "[[I", true)
  | 3 => ("OpenOrTake$Thought", "mostBehind", "[I", true)
  | 4 => ("OpenOrTake$Thought", "trueWorth", "[I", true)
  | 5 => ("OpenOrTake$Thought", "drawn", "[I", true)
  | 6 => ("OpenOrTake$Thought", "sums", "[I", true)
  | 7 => ("OpenOrTake$Thought", "told", "[J", false)
  | _ => ("OpenOrTake$Thought", "toldSize", "I", false)
def tyX7 : Nat → FieldType := fun k => match k with
  | 0 => .object "OpenOrTake$Party"
  | 1 => .array (.object "OpenOrTake$Evening")
  | 2 => .array (.array .int)
  | 3 => .array .int
  | 4 => .array .int
  | 5 => .array .int
  | 6 => .array .int
  | 7 => .array .long
  | _ => .int
abbrev wsX70 : List Cond := u_ws RX7 TX7 9
theorem nmX7 : ∀ a, a < 9 → ∀ b, b < 9 → a ≠ b → (TX7 a).2.1 ≠ (TX7 b).2.1 := by decide +kernel
theorem tyX7_ok : ∀ k, k < 9 → parseFieldDescriptor (TX7 k).2.2.1 = some (tyX7 k) := by decide +kernel
abbrev cX7_init : ByteArray := prog_9_method_1_code
def yX7_init : MethodName := ⟨RX7, "<init>", "(LOpenOrTake$Party;)V"⟩
abbrev cX7_eveningBy : ByteArray := prog_9_method_2_code
def yX7_eveningBy : MethodName := ⟨RX7, "eveningBy", "([I)LOpenOrTake$Evening;"⟩
abbrev cX7_eachForItself : ByteArray := prog_9_method_3_code
def yX7_eachForItself : MethodName := ⟨RX7, "eachForItself", "([II)I"⟩
abbrev cX7_lookAhead : ByteArray := prog_9_method_4_code
def yX7_lookAhead : MethodName := ⟨RX7, "lookAhead", "(I)V"⟩
abbrev cX7_worthAtEnd : ByteArray := prog_9_method_5_code
def yX7_worthAtEnd : MethodName := ⟨RX7, "worthAtEnd", "(II)I"⟩
abbrev cX7_comeTo : ByteArray := prog_9_method_6_code
def yX7_comeTo : MethodName := ⟨RX7, "comeTo", "(I)V"⟩
abbrev cX7_bestParting : ByteArray := prog_9_method_7_code
def yX7_bestParting : MethodName := ⟨RX7, "bestParting", "(I)I"⟩
abbrev cX7_fillMostBehind : ByteArray := prog_9_method_8_code
def yX7_fillMostBehind : MethodName := ⟨RX7, "fillMostBehind", "()V"⟩
abbrev cX7_worthWithAllBehind : ByteArray := prog_9_method_9_code
def yX7_worthWithAllBehind : MethodName := ⟨RX7, "worthWithAllBehind", "(III)I"⟩
abbrev cX7_firstBest : ByteArray := prog_9_method_10_code
def yX7_firstBest : MethodName := ⟨RX7, "firstBest", "(II)I"⟩
abbrev cX7_pairsWhoWouldChange : ByteArray := prog_9_method_11_code
def yX7_pairsWhoWouldChange : MethodName := ⟨RX7, "pairsWhoWouldChange", "([I)I"⟩
abbrev cX7_envies : ByteArray := prog_9_method_12_code
def yX7_envies : MethodName := ⟨RX7, "envies", "(LOpenOrTake$Evening;II)Z"⟩
abbrev cX7_leastFace : ByteArray := prog_9_method_13_code
def yX7_leastFace : MethodName := ⟨RX7, "leastFace", "([II)I"⟩
abbrev cX7_lessen : ByteArray := prog_9_method_14_code
def yX7_lessen : MethodName := ⟨RX7, "lessen", "(II)V"⟩
abbrev cX7_drawNumbers : ByteArray := prog_9_method_15_code
def yX7_drawNumbers : MethodName := ⟨RX7, "drawNumbers", "([III)V"⟩
abbrev cX7_unlike : ByteArray := prog_9_method_16_code
def yX7_unlike : MethodName := ⟨RX7, "unlike", "()I"⟩
abbrev cX7_hear : ByteArray := prog_9_method_17_code
def yX7_hear : MethodName := ⟨RX7, "hear", "([JI)V"⟩
abbrev cX7_firstUnlikeTold : ByteArray := prog_9_method_18_code
def yX7_firstUnlikeTold : MethodName := ⟨RX7, "firstUnlikeTold", "(LOpenOrTake$Evening;)I"⟩
abbrev cX7_lotsAsTold : ByteArray := prog_9_method_19_code
def yX7_lotsAsTold : MethodName := ⟨RX7, "lotsAsTold", "()I"⟩
abbrev cX7_lotsBehind : ByteArray := prog_9_method_20_code
def yX7_lotsBehind : MethodName := ⟨RX7, "lotsBehind", "(II)I"⟩
def RX8 : String := "OpenOrTake"
def TX8 : u_T := fun k => match k with
  | 0 => ("OpenOrTake", "party", "LOpenOrTake$Party;", true)
  | 1 => ("OpenOrTake", "changes", "LOpenOrTake$Changes;", true)
  | 2 => ("OpenOrTake", "tape", "LOpenOrTake$Tape;", true)
  | 3 => ("OpenOrTake", "deed", "LOpenOrTake$Evening;", true)
  | 4 => ("OpenOrTake", "kept", "LOpenOrTake$Evening;", true)
  | 5 => ("OpenOrTake", "thought", "LOpenOrTake$Thought;", true)
  | 6 => ("OpenOrTake", "bodies", "LOpenOrTake$Bodies;", true)
  | 7 => ("OpenOrTake", "shelves", "LOpenOrTake$Shelves;", true)
  | _ => ("OpenOrTake", "peopleOfImage", "I", false)
def tyX8 : Nat → FieldType := fun k => match k with
  | 0 => .object "OpenOrTake$Party"
  | 1 => .object "OpenOrTake$Changes"
  | 2 => .object "OpenOrTake$Tape"
  | 3 => .object "OpenOrTake$Evening"
  | 4 => .object "OpenOrTake$Evening"
  | 5 => .object "OpenOrTake$Thought"
  | 6 => .object "OpenOrTake$Bodies"
  | 7 => .object "OpenOrTake$Shelves"
  | _ => .int
abbrev wsX80 : List Cond := u_ws RX8 TX8 9
theorem nmX8 : ∀ a, a < 9 → ∀ b, b < 9 → a ≠ b → (TX8 a).2.1 ≠ (TX8 b).2.1 := by decide +kernel
theorem tyX8_ok : ∀ k, k < 9 → parseFieldDescriptor (TX8 k).2.2.1 = some (tyX8 k) := by decide +kernel
abbrev cX8_init : ByteArray := prog_1_method_1_code
def yX8_init : MethodName := ⟨RX8, "<init>", "()V"⟩
abbrev cX8_person : ByteArray := prog_1_method_2_code
def yX8_person : MethodName := ⟨RX8, "person", "(I)I"⟩
abbrev cX8_people : ByteArray := prog_1_method_3_code
def yX8_people : MethodName := ⟨RX8, "people", "(III)I"⟩
abbrev cX8_mend : ByteArray := prog_1_method_4_code
def yX8_mend : MethodName := ⟨RX8, "mend", "(III)I"⟩
abbrev cX8_of : ByteArray := prog_1_method_5_code
def yX8_of : MethodName := ⟨RX8, "of", "(II)I"⟩
abbrev cX8_swap : ByteArray := prog_1_method_6_code
def yX8_swap : MethodName := ⟨RX8, "swap", "(I)I"⟩
abbrev cX8_feed : ByteArray := prog_1_method_7_code
def yX8_feed : MethodName := ⟨RX8, "feed", "(I)I"⟩
abbrev cX8_law : ByteArray := prog_1_method_8_code
def yX8_law : MethodName := ⟨RX8, "law", "()I"⟩
abbrev cX8_turn : ByteArray := prog_1_method_9_code
def yX8_turn : MethodName := ⟨RX8, "turn", "()I"⟩
abbrev cX8_open : ByteArray := prog_1_method_10_code
def yX8_open : MethodName := ⟨RX8, "open", "()I"⟩
abbrev cX8_take : ByteArray := prog_1_method_11_code
def yX8_take : MethodName := ⟨RX8, "take", "(I)I"⟩
abbrev cX8_goOn : ByteArray := prog_1_method_12_code
def yX8_goOn : MethodName := ⟨RX8, "goOn", "()I"⟩
abbrev cX8_again : ByteArray := prog_1_method_13_code
def yX8_again : MethodName := ⟨RX8, "again", "()I"⟩
abbrev cX8_anew : ByteArray := prog_1_method_14_code
def yX8_anew : MethodName := ⟨RX8, "anew", "()I"⟩
abbrev cX8_led : ByteArray := prog_1_method_15_code
def yX8_led : MethodName := ⟨RX8, "led", "(I)I"⟩
abbrev cX8_evening : ByteArray := prog_1_method_16_code
def yX8_evening : MethodName := ⟨RX8, "evening", "(II)I"⟩
abbrev cX8_exact : ByteArray := prog_1_method_17_code
def yX8_exact : MethodName := ⟨RX8, "exact", "(I)I"⟩
abbrev cX8_best : ByteArray := prog_1_method_18_code
def yX8_best : MethodName := ⟨RX8, "best", "(I)I"⟩
abbrev cX8_pairs : ByteArray := prog_1_method_19_code
def yX8_pairs : MethodName := ⟨RX8, "pairs", "()I"⟩
abbrev cX8_face : ByteArray := prog_1_method_20_code
def yX8_face : MethodName := ⟨RX8, "face", "(I)I"⟩
abbrev cX8_numbers : ByteArray := prog_1_method_21_code
def yX8_numbers : MethodName := ⟨RX8, "numbers", "(III)I"⟩
abbrev cX8_judge : ByteArray := prog_1_method_22_code
def yX8_judge : MethodName := ⟨RX8, "judge", "(I)I"⟩
abbrev cX8_lots : ByteArray := prog_1_method_23_code
def yX8_lots : MethodName := ⟨RX8, "lots", "(I)I"⟩
abbrev cX8_image : ByteArray := prog_1_method_24_code
def yX8_image : MethodName := ⟨RX8, "image", "()I"⟩
abbrev cX8_back : ByteArray := prog_1_method_25_code
def yX8_back : MethodName := ⟨RX8, "back", "()I"⟩
abbrev cX8_undo : ByteArray := prog_1_method_26_code
def yX8_undo : MethodName := ⟨RX8, "undo", "()I"⟩
abbrev cX8_redo : ByteArray := prog_1_method_27_code
def yX8_redo : MethodName := ⟨RX8, "redo", "()I"⟩
abbrev cX8_body : ByteArray := prog_1_method_28_code
def yX8_body : MethodName := ⟨RX8, "body", "(I)I"⟩
abbrev cX8_act : ByteArray := prog_1_method_29_code
def yX8_act : MethodName := ⟨RX8, "act", "(III)I"⟩
abbrev cX8_trace : ByteArray := prog_1_method_30_code
def yX8_trace : MethodName := ⟨RX8, "trace", "(I)I"⟩
abbrev cX8_keep : ByteArray := prog_1_method_31_code
def yX8_keep : MethodName := ⟨RX8, "keep", "(II)I"⟩
abbrev cX8_row : ByteArray := prog_1_method_32_code
def yX8_row : MethodName := ⟨RX8, "row", "(III)I"⟩
abbrev cX8_put : ByteArray := prog_1_method_33_code
def yX8_put : MethodName := ⟨RX8, "put", "(IIJ)I"⟩
abbrev cX8_element : ByteArray := prog_1_method_34_code
def yX8_element : MethodName := ⟨RX8, "element", "(II)J"⟩
abbrev cX8_shift : ByteArray := prog_1_method_35_code
def yX8_shift : MethodName := ⟨RX8, "shift", "(IIIII)I"⟩
abbrev cX8_taken : ByteArray := prog_1_method_36_code
def yX8_taken : MethodName := ⟨RX8, "taken", "(II)I"⟩
abbrev cX8_count : ByteArray := prog_1_method_37_code
def yX8_count : MethodName := ⟨RX8, "count", "(I)I"⟩
abbrev cX8_welcome : ByteArray := prog_1_method_38_code
def yX8_welcome : MethodName := ⟨RX8, "welcome", "(I)I"⟩
abbrev cX8_welcomeFrom : ByteArray := prog_1_method_39_code
def yX8_welcomeFrom : MethodName := ⟨RX8, "welcomeFrom", "(II)Z"⟩
def RX9 : String := "OpenOrTakeModel"
def TX9 : u_T := fun k => match k with
  | 0 => ("OpenOrTakeModel", "code", "I", false)
  | 1 => ("OpenOrTakeModel", "people", "I", false)
  | 2 => ("OpenOrTakeModel", "worth", "[I", true)
  | 3 => ("OpenOrTakeModel", "like", "[I", true)
  | 4 => ("OpenOrTakeModel", "way", "[I", true)
  | 5 => ("OpenOrTakeModel", "most", "I", false)
  | 6 => ("OpenOrTakeModel", "again1", "I", false)
  | 7 => ("OpenOrTakeModel", "lot", "[I", true)
  | 8 => ("OpenOrTakeModel", "owner", "[I", true)
  | 9 => ("OpenOrTakeModel", "taken1", "[I", true)
  | 10 => ("OpenOrTakeModel", "wrapped", "[I", true)
  | 11 => ("OpenOrTakeModel", "whose", "[I", true)
  | 12 => ("OpenOrTakeModel", "nextLot", "[I", true)
  | 13 => ("OpenOrTakeModel", "barred", "[I", true)
  | 14 => ("OpenOrTakeModel", "turns1", "[I", true)
  | 15 => ("OpenOrTakeModel", "begun", "I", false)
  | 16 => ("OpenOrTakeModel", "wasAgain", "I", false)
  | 17 => ("OpenOrTakeModel", "ledWho", "I", false)
  | 18 => ("OpenOrTakeModel", "ledGot", "I", false)
  | 19 => ("OpenOrTakeModel", "ledTurns", "I", false)
  | 20 => ("OpenOrTakeModel", "doneMany", "I", false)
  | 21 => ("OpenOrTakeModel", "undoneMany", "I", false)
  | 22 => ("OpenOrTakeModel", "changeOf", "[I", true)
  | 23 => ("OpenOrTakeModel", "changeAt", "[I", true)
  | 24 => ("OpenOrTakeModel", "before", "[I", true)
  | 25 => ("OpenOrTakeModel", "behind", "[I", true)
  | 26 => ("OpenOrTakeModel", "tape", "[B", true)
  | 27 => ("OpenOrTakeModel", "taped", "I", false)
  | 28 => ("OpenOrTakeModel", "here", "I", false)
  | 29 => ("OpenOrTakeModel", "fault", "I", false)
  | 30 => ("OpenOrTakeModel", "open", "I", false)
  | 31 => ("OpenOrTakeModel", "laid", "I", false)
  | 32 => ("OpenOrTakeModel", "act", "[B", true)
  | 33 => ("OpenOrTakeModel", "with", "[I", true)
  | 34 => ("OpenOrTakeModel", "lineMany", "[I", true)
  | 35 => ("OpenOrTakeModel", "testEnd", "[S", true)
  | 36 => ("OpenOrTakeModel", "lineEnd", "[S", true)
  | 37 => ("OpenOrTakeModel", "facts", "[I", true)
  | 38 => ("OpenOrTakeModel", "pile", "[I", true)
  | 39 => ("OpenOrTakeModel", "hasLaw", "Z", false)
  | 40 => ("OpenOrTakeModel", "keptOwner", "[I", true)
  | 41 => ("OpenOrTakeModel", "keptTaken", "[I", true)
  | 42 => ("OpenOrTakeModel", "keptRest", "[I", true)
  | 43 => ("OpenOrTakeModel", "endOwner", "[I", true)
  | 44 => ("OpenOrTakeModel", "endTurns", "[I", true)
  | 45 => ("OpenOrTakeModel", "given", "[I", true)
  | 46 => ("OpenOrTakeModel", "bestGiven", "[I", true)
  | 47 => ("OpenOrTakeModel", "bestSum", "I", false)
  | 48 => ("OpenOrTakeModel", "keptWorth", "[I", true)
  | 49 => ("OpenOrTakeModel", "keptLot", "[I", true)
  | 50 => ("OpenOrTakeModel", "sums", "[I", true)
  | 51 => ("OpenOrTakeModel", "imagePeople", "I", false)
  | 52 => ("OpenOrTakeModel", "imageLot", "[I", true)
  | 53 => ("OpenOrTakeModel", "imageOwner", "[I", true)
  | 54 => ("OpenOrTakeModel", "imageTaken", "[I", true)
  | 55 => ("OpenOrTakeModel", "imageRest", "[I", true)
  | 56 => ("OpenOrTakeModel", "bodies", "I", false)
  | 57 => ("OpenOrTakeModel", "kind", "[I", true)
  | 58 => ("OpenOrTakeModel", "traces", "I", false)
  | 59 => ("OpenOrTakeModel", "traced", "[I", true)
  | 60 => ("OpenOrTakeModel", "holds", "[I", true)
  | 61 => ("OpenOrTakeModel", "size", "[I", true)
  | 62 => ("OpenOrTakeModel", "elements", "[J", true)
  | _ => ("OpenOrTakeModel", "shifted", "[J", true)
def tyX9 : Nat → FieldType := fun k => match k with
  | 0 => .int
  | 1 => .int
  | 2 => .array .int
  | 3 => .array .int
  | 4 => .array .int
  | 5 => .int
  | 6 => .int
  | 7 => .array .int
  | 8 => .array .int
  | 9 => .array .int
  | 10 => .array .int
  | 11 => .array .int
  | 12 => .array .int
  | 13 => .array .int
  | 14 => .array .int
  | 15 => .int
  | 16 => .int
  | 17 => .int
  | 18 => .int
  | 19 => .int
  | 20 => .int
  | 21 => .int
  | 22 => .array .int
  | 23 => .array .int
  | 24 => .array .int
  | 25 => .array .int
  | 26 => .array .byte
  | 27 => .int
  | 28 => .int
  | 29 => .int
  | 30 => .int
  | 31 => .int
  | 32 => .array .byte
  | 33 => .array .int
  | 34 => .array .int
  | 35 => .array .short
  | 36 => .array .short
  | 37 => .array .int
  | 38 => .array .int
  | 39 => .boolean
  | 40 => .array .int
  | 41 => .array .int
  | 42 => .array .int
  | 43 => .array .int
  | 44 => .array .int
  | 45 => .array .int
  | 46 => .array .int
  | 47 => .int
  | 48 => .array .int
  | 49 => .array .int
  | 50 => .array .int
  | 51 => .int
  | 52 => .array .int
  | 53 => .array .int
  | 54 => .array .int
  | 55 => .array .int
  | 56 => .int
  | 57 => .array .int
  | 58 => .int
  | 59 => .array .int
  | 60 => .array .int
  | 61 => .array .int
  | 62 => .array .long
  | _ => .array .long
abbrev wsX90 : List Cond := u_ws RX9 TX9 64
theorem nmX9 : ∀ a, a < 64 → ∀ b, b < 64 → a ≠ b → (TX9 a).2.1 ≠ (TX9 b).2.1 := by decide +kernel
theorem tyX9_ok : ∀ k, k < 64 → parseFieldDescriptor (TX9 k).2.2.1 = some (tyX9 k) := by decide +kernel
abbrev cX9_init : ByteArray := prog_11_method_1_code
def yX9_init : MethodName := ⟨RX9, "<init>", "()V"⟩
abbrev cX9_in : ByteArray := prog_11_method_3_code
def yX9_in : MethodName := ⟨RX9, "in", "(III)Z"⟩
abbrev cX9_isPerson : ByteArray := prog_11_method_4_code
def yX9_isPerson : MethodName := ⟨RX9, "isPerson", "(I)Z"⟩
abbrev cX9_beginAt : ByteArray := prog_11_method_5_code
def yX9_beginAt : MethodName := ⟨RX9, "beginAt", "(I)V"⟩
abbrev cX9_addPerson : ByteArray := prog_11_method_6_code
def yX9_addPerson : MethodName := ⟨RX9, "addPerson", "(I)I"⟩
abbrev cX9_person : ByteArray := prog_11_method_7_code
def yX9_person : MethodName := ⟨RX9, "person", "(I)I"⟩
abbrev cX9_people : ByteArray := prog_11_method_8_code
def yX9_people : MethodName := ⟨RX9, "people", "(III)I"⟩
abbrev cX9_valueAt : ByteArray := prog_11_method_9_code
def yX9_valueAt : MethodName := ⟨RX9, "valueAt", "(II)I"⟩
abbrev cX9_lays : ByteArray := prog_11_method_10_code
def yX9_lays : MethodName := ⟨RX9, "lays", "(III)V"⟩
abbrev cX9_changes : ByteArray := prog_11_method_11_code
def yX9_changes : MethodName := ⟨RX9, "changes", "(III)I"⟩
abbrev cX9_undo : ByteArray := prog_11_method_12_code
def yX9_undo : MethodName := ⟨RX9, "undo", "()I"⟩
abbrev cX9_redo : ByteArray := prog_11_method_13_code
def yX9_redo : MethodName := ⟨RX9, "redo", "()I"⟩
abbrev cX9_areBoth : ByteArray := prog_11_method_14_code
def yX9_areBoth : MethodName := ⟨RX9, "areBoth", "(I)Z"⟩
abbrev cX9_place : ByteArray := prog_11_method_15_code
def yX9_place : MethodName := ⟨RX9, "place", "(I)I"⟩
abbrev cX9_mend : ByteArray := prog_11_method_16_code
def yX9_mend : MethodName := ⟨RX9, "mend", "(III)I"⟩
abbrev cX9_hasIn : ByteArray := prog_11_method_17_code
def yX9_hasIn : MethodName := ⟨RX9, "hasIn", "(II)I"⟩
abbrev cX9_bit : ByteArray := prog_11_method_18_code
def yX9_bit : MethodName := ⟨RX9, "bit", "(II)I"⟩
abbrev cX9_of : ByteArray := prog_11_method_19_code
def yX9_of : MethodName := ⟨RX9, "of", "(II)I"⟩
abbrev cX9_swapLot : ByteArray := prog_11_method_20_code
def yX9_swapLot : MethodName := ⟨RX9, "swapLot", "(II)V"⟩
abbrev cX9_swap : ByteArray := prog_11_method_21_code
def yX9_swap : MethodName := ⟨RX9, "swap", "(I)I"⟩
abbrev cX9_feed : ByteArray := prog_11_method_22_code
def yX9_feed : MethodName := ⟨RX9, "feed", "(I)I"⟩
abbrev cX9_look : ByteArray := prog_11_method_23_code
def yX9_look : MethodName := ⟨RX9, "look", "()I"⟩
abbrev cX9_faulty : ByteArray := prog_11_method_24_code
def yX9_faulty : MethodName := ⟨RX9, "faulty", "()V"⟩
abbrev cX9_addStep : ByteArray := prog_11_method_25_code
def yX9_addStep : MethodName := ⟨RX9, "addStep", "(II)V"⟩
abbrev cX9_nameOf : ByteArray := prog_11_method_26_code
def yX9_nameOf : MethodName := ⟨RX9, "nameOf", "(I)I"⟩
abbrev cX9_opens : ByteArray := prog_11_method_27_code
def yX9_opens : MethodName := ⟨RX9, "opens", "()Z"⟩
abbrev cX9_figure : ByteArray := prog_11_method_28_code
def yX9_figure : MethodName := ⟨RX9, "figure", "()V"⟩
abbrev cX9_operand : ByteArray := prog_11_method_29_code
def yX9_operand : MethodName := ⟨RX9, "operand", "()V"⟩
abbrev cX9_product : ByteArray := prog_11_method_30_code
def yX9_product : MethodName := ⟨RX9, "product", "()V"⟩
abbrev cX9_sum : ByteArray := prog_11_method_31_code
def yX9_sum : MethodName := ⟨RX9, "sum", "()V"⟩
abbrev cX9_compared : ByteArray := prog_11_method_32_code
def yX9_compared : MethodName := ⟨RX9, "compared", "()V"⟩
abbrev cX9_both : ByteArray := prog_11_method_33_code
def yX9_both : MethodName := ⟨RX9, "both", "()V"⟩
abbrev cX9_either : ByteArray := prog_11_method_34_code
def yX9_either : MethodName := ⟨RX9, "either", "()V"⟩
abbrev cX9_line : ByteArray := prog_11_method_35_code
def yX9_line : MethodName := ⟨RX9, "line", "()V"⟩
abbrev cX9_readText : ByteArray := prog_11_method_36_code
def yX9_readText : MethodName := ⟨RX9, "readText", "(I)I"⟩
abbrev cX9_twoOf : ByteArray := prog_11_method_37_code
def yX9_twoOf : MethodName := ⟨RX9, "twoOf", "(III)I"⟩
abbrev cX9_worked : ByteArray := prog_11_method_38_code
def yX9_worked : MethodName := ⟨RX9, "worked", "(III)I"⟩
abbrev cX9_gives : ByteArray := prog_11_method_39_code
def yX9_gives : MethodName := ⟨RX9, "gives", "(I)I"⟩
abbrev cX9_law : ByteArray := prog_11_method_40_code
def yX9_law : MethodName := ⟨RX9, "law", "()I"⟩
abbrev cX9_bitsOf : ByteArray := prog_11_method_41_code
def yX9_bitsOf : MethodName := ⟨RX9, "bitsOf", "(I)I"⟩
abbrev cX9_guessOf : ByteArray := prog_11_method_42_code
def yX9_guessOf : MethodName := ⟨RX9, "guessOf", "(II)I"⟩
abbrev cX9_mayTake : ByteArray := prog_11_method_43_code
def yX9_mayTake : MethodName := ⟨RX9, "mayTake", "(II)Z"⟩
abbrev cX9_lowestWrapped : ByteArray := prog_11_method_44_code
def yX9_lowestWrapped : MethodName := ⟨RX9, "lowestWrapped", "(I)I"⟩
abbrev cX9_opensAt : ByteArray := prog_11_method_45_code
def yX9_opensAt : MethodName := ⟨RX9, "opensAt", "(I)I"⟩
abbrev cX9_takesAt : ByteArray := prog_11_method_46_code
def yX9_takesAt : MethodName := ⟨RX9, "takesAt", "(II)I"⟩
abbrev cX9_lawsNumber : ByteArray := prog_11_method_47_code
def yX9_lawsNumber : MethodName := ⟨RX9, "lawsNumber", "(III)I"⟩
abbrev cX9_choice : ByteArray := prog_11_method_48_code
def yX9_choice : MethodName := ⟨RX9, "choice", "(I)I"⟩
abbrev cX9_goTurn : ByteArray := prog_11_method_49_code
def yX9_goTurn : MethodName := ⟨RX9, "goTurn", "(I)I"⟩
abbrev cX9_againChoice : ByteArray := prog_11_method_50_code
def yX9_againChoice : MethodName := ⟨RX9, "againChoice", "(I)I"⟩
abbrev cX9_changeAt : ByteArray := prog_11_method_51_code
def yX9_changeAt : MethodName := ⟨RX9, "changeAt", "(II)V"⟩
abbrev cX9_lead : ByteArray := prog_11_method_52_code
def yX9_lead : MethodName := ⟨RX9, "lead", "(II)V"⟩
abbrev cX9_turn : ByteArray := prog_11_method_53_code
def yX9_turn : MethodName := ⟨RX9, "turn", "()I"⟩
abbrev cX9_open : ByteArray := prog_11_method_54_code
def yX9_open : MethodName := ⟨RX9, "open", "()I"⟩
abbrev cX9_take : ByteArray := prog_11_method_55_code
def yX9_take : MethodName := ⟨RX9, "take", "(I)I"⟩
abbrev cX9_goOn : ByteArray := prog_11_method_56_code
def yX9_goOn : MethodName := ⟨RX9, "goOn", "()I"⟩
abbrev cX9_again : ByteArray := prog_11_method_57_code
def yX9_again : MethodName := ⟨RX9, "again", "()I"⟩
abbrev cX9_anew : ByteArray := prog_11_method_58_code
def yX9_anew : MethodName := ⟨RX9, "anew", "()I"⟩
abbrev cX9_led : ByteArray := prog_11_method_59_code
def yX9_led : MethodName := ⟨RX9, "led", "(I)I"⟩
abbrev cX9_goEvening : ByteArray := prog_11_method_60_code
def yX9_goEvening : MethodName := ⟨RX9, "goEvening", "()V"⟩
abbrev cX9_evening : ByteArray := prog_11_method_61_code
def yX9_evening : MethodName := ⟨RX9, "evening", "(II)I"⟩
abbrev cX9_keepAt : ByteArray := prog_11_method_62_code
def yX9_keepAt : MethodName := ⟨RX9, "keepAt", "(I)V"⟩
abbrev cX9_layAt : ByteArray := prog_11_method_63_code
def yX9_layAt : MethodName := ⟨RX9, "layAt", "(I)V"⟩
abbrev cX9_endWorth : ByteArray := prog_11_method_64_code
def yX9_endWorth : MethodName := ⟨RX9, "endWorth", "(II)I"⟩
abbrev cX9_takeEnd : ByteArray := prog_11_method_65_code
def yX9_takeEnd : MethodName := ⟨RX9, "takeEnd", "(I)V"⟩
abbrev cX9_goExact : ByteArray := prog_11_method_66_code
def yX9_goExact : MethodName := ⟨RX9, "goExact", "(I)V"⟩
abbrev cX9_exact : ByteArray := prog_11_method_67_code
def yX9_exact : MethodName := ⟨RX9, "exact", "(I)I"⟩
abbrev cX9_goParts : ByteArray := prog_11_method_68_code
def yX9_goParts : MethodName := ⟨RX9, "goParts", "(III)V"⟩
abbrev cX9_best : ByteArray := prog_11_method_69_code
def yX9_best : MethodName := ⟨RX9, "best", "(I)I"⟩
abbrev cX9_pairs : ByteArray := prog_11_method_70_code
def yX9_pairs : MethodName := ⟨RX9, "pairs", "()I"⟩
abbrev cX9_face : ByteArray := prog_11_method_71_code
def yX9_face : MethodName := ⟨RX9, "face", "(I)I"⟩
abbrev cX9_keepLot : ByteArray := prog_11_method_72_code
def yX9_keepLot : MethodName := ⟨RX9, "keepLot", "()V"⟩
abbrev cX9_layLot : ByteArray := prog_11_method_73_code
def yX9_layLot : MethodName := ⟨RX9, "layLot", "()V"⟩
abbrev cX9_numbers : ByteArray := prog_11_method_74_code
def yX9_numbers : MethodName := ⟨RX9, "numbers", "(III)I"⟩
abbrev cX9_rowFault : ByteArray := prog_11_method_75_code
def yX9_rowFault : MethodName := ⟨RX9, "rowFault", "(I)I"⟩
abbrev cX9_wrongIn : ByteArray := prog_11_method_76_code
def yX9_wrongIn : MethodName := ⟨RX9, "wrongIn", "(I)I"⟩
abbrev cX9_judge : ByteArray := prog_11_method_77_code
def yX9_judge : MethodName := ⟨RX9, "judge", "(I)I"⟩
abbrev cX9_goLots : ByteArray := prog_11_method_78_code
def yX9_goLots : MethodName := ⟨RX9, "goLots", "(III)I"⟩
abbrev cX9_lots : ByteArray := prog_11_method_79_code
def yX9_lots : MethodName := ⟨RX9, "lots", "(I)I"⟩
abbrev cX9_image : ByteArray := prog_11_method_80_code
def yX9_image : MethodName := ⟨RX9, "image", "()I"⟩
abbrev cX9_back : ByteArray := prog_11_method_81_code
def yX9_back : MethodName := ⟨RX9, "back", "()I"⟩
abbrev cX9_safeMany : ByteArray := prog_11_method_82_code
def yX9_safeMany : MethodName := ⟨RX9, "safeMany", "()I"⟩
abbrev cX9_isBody : ByteArray := prog_11_method_83_code
def yX9_isBody : MethodName := ⟨RX9, "isBody", "(I)Z"⟩
abbrev cX9_ran : ByteArray := prog_11_method_84_code
def yX9_ran : MethodName := ⟨RX9, "ran", "(I)V"⟩
abbrev cX9_trace : ByteArray := prog_11_method_85_code
def yX9_trace : MethodName := ⟨RX9, "trace", "(I)I"⟩
abbrev cX9_body : ByteArray := prog_11_method_86_code
def yX9_body : MethodName := ⟨RX9, "body", "(I)I"⟩
abbrev cX9_isUnder : ByteArray := prog_11_method_87_code
def yX9_isUnder : MethodName := ⟨RX9, "isUnder", "(II)Z"⟩
abbrev cX9_plainOpens : ByteArray := prog_11_method_88_code
def yX9_plainOpens : MethodName := ⟨RX9, "plainOpens", "(II)I"⟩
abbrev cX9_knownOpens : ByteArray := prog_11_method_89_code
def yX9_knownOpens : MethodName := ⟨RX9, "knownOpens", "(II)I"⟩
abbrev cX9_opening : ByteArray := prog_11_method_90_code
def yX9_opening : MethodName := ⟨RX9, "opening", "(II)I"⟩
abbrev cX9_plainTakes : ByteArray := prog_11_method_91_code
def yX9_plainTakes : MethodName := ⟨RX9, "plainTakes", "(II)I"⟩
abbrev cX9_openTakes : ByteArray := prog_11_method_92_code
def yX9_openTakes : MethodName := ⟨RX9, "openTakes", "(II)I"⟩
abbrev cX9_taking : ByteArray := prog_11_method_93_code
def yX9_taking : MethodName := ⟨RX9, "taking", "(II)I"⟩
abbrev cX9_plainLooks : ByteArray := prog_11_method_94_code
def yX9_plainLooks : MethodName := ⟨RX9, "plainLooks", "(II)I"⟩
abbrev cX9_hotLooks : ByteArray := prog_11_method_95_code
def yX9_hotLooks : MethodName := ⟨RX9, "hotLooks", "(II)I"⟩
abbrev cX9_looking : ByteArray := prog_11_method_96_code
def yX9_looking : MethodName := ⟨RX9, "looking", "(II)I"⟩
abbrev cX9_plainKeeps : ByteArray := prog_11_method_97_code
def yX9_plainKeeps : MethodName := ⟨RX9, "plainKeeps", "(II)I"⟩
abbrev cX9_keeping : ByteArray := prog_11_method_98_code
def yX9_keeping : MethodName := ⟨RX9, "keeping", "(II)I"⟩
abbrev cX9_act : ByteArray := prog_11_method_99_code
def yX9_act : MethodName := ⟨RX9, "act", "(III)I"⟩
abbrev cX9_count : ByteArray := prog_11_method_100_code
def yX9_count : MethodName := ⟨RX9, "count", "(I)I"⟩
abbrev cX9_isShelf : ByteArray := prog_11_method_101_code
def yX9_isShelf : MethodName := ⟨RX9, "isShelf", "(I)Z"⟩
abbrev cX9_keep : ByteArray := prog_11_method_102_code
def yX9_keep : MethodName := ⟨RX9, "keep", "(II)I"⟩
abbrev cX9_row : ByteArray := prog_11_method_103_code
def yX9_row : MethodName := ⟨RX9, "row", "(III)I"⟩
abbrev cX9_whyNoPlace : ByteArray := prog_11_method_104_code
def yX9_whyNoPlace : MethodName := ⟨RX9, "whyNoPlace", "(II)I"⟩
abbrev cX9_put : ByteArray := prog_11_method_105_code
def yX9_put : MethodName := ⟨RX9, "put", "(IIJ)I"⟩
abbrev cX9_element : ByteArray := prog_11_method_106_code
def yX9_element : MethodName := ⟨RX9, "element", "(II)J"⟩
abbrev cX9_shift : ByteArray := prog_11_method_107_code
def yX9_shift : MethodName := ⟨RX9, "shift", "(IIIII)I"⟩
abbrev cX9_taken : ByteArray := prog_11_method_108_code
def yX9_taken : MethodName := ⟨RX9, "taken", "(II)I"⟩
def RJ6 : String := "java/lang/Integer"
def TJ6 : u_T := fun k => match k with
  | _ => ("", "", "", false)
def tyJ6 : Nat → FieldType := fun k => match k with
  | _ => .int
abbrev wsJ60 : List Cond := u_ws RJ6 TJ6 0
theorem nmJ6 : ∀ a, a < 0 → ∀ b, b < 0 → a ≠ b → (TJ6 a).2.1 ≠ (TJ6 b).2.1 := by decide +kernel
theorem tyJ6_ok : ∀ k, k < 0 → parseFieldDescriptor (TJ6 k).2.2.1 = some (tyJ6 k) := by decide +kernel
abbrev cJ6_bitCount_0f7a4 : ByteArray := prog_12_method_49_code
def yJ6_bitCount_0f7a4 : MethodName := ⟨RJ6, "bitCount", "(I)I"⟩
def RJ9 : String := "java/lang/Math"
def TJ9 : u_T := fun k => match k with
  | _ => ("", "", "", false)
def tyJ9 : Nat → FieldType := fun k => match k with
  | _ => .int
abbrev wsJ90 : List Cond := u_ws RJ9 TJ9 0
theorem nmJ9 : ∀ a, a < 0 → ∀ b, b < 0 → a ≠ b → (TJ9 a).2.1 ≠ (TJ9 b).2.1 := by decide +kernel
theorem tyJ9_ok : ∀ k, k < 0 → parseFieldDescriptor (TJ9 k).2.2.1 = some (tyJ9 k) := by decide +kernel
abbrev cJ9_max_7cf53 : ByteArray := prog_13_method_65_code
def yJ9_max_7cf53 : MethodName := ⟨RJ9, "max", "(II)I"⟩
abbrev cJ9_min_7cf53 : ByteArray := prog_13_method_69_code
def yJ9_min_7cf53 : MethodName := ⟨RJ9, "min", "(II)I"⟩
def RJ10 : String := "java/lang/System"
def TJ10 : u_T := fun k => match k with
  | _ => ("", "", "", false)
def tyJ10 : Nat → FieldType := fun k => match k with
  | _ => .int
abbrev wsJ100 : List Cond := u_ws RJ10 TJ10 0
theorem nmJ10 : ∀ a, a < 0 → ∀ b, b < 0 → a ≠ b → (TJ10 a).2.1 ≠ (TJ10 b).2.1 := by decide +kernel
theorem tyJ10_ok : ∀ k, k < 0 → parseFieldDescriptor (TJ10 k).2.2.1 = some (tyJ10 k) := by decide +kernel
def RJ7 : String := "java/util/Arrays"
def TJ7 : u_T := fun k => match k with
  | _ => ("", "", "", false)
def tyJ7 : Nat → FieldType := fun k => match k with
  | _ => .int
abbrev wsJ70 : List Cond := u_ws RJ7 TJ7 0
theorem nmJ7 : ∀ a, a < 0 → ∀ b, b < 0 → a ≠ b → (TJ7 a).2.1 ≠ (TJ7 b).2.1 := by decide +kernel
theorem tyJ7_ok : ∀ k, k < 0 → parseFieldDescriptor (TJ7 k).2.2.1 = some (tyJ7 k) := by decide +kernel
abbrev cJ7_fill_d0a16 : ByteArray := prog_15_method_101_code
def yJ7_fill_d0a16 : MethodName := ⟨RJ7, "fill", "([JJ)V"⟩
abbrev cJ7_fill_53178 : ByteArray := prog_15_method_103_code
def yJ7_fill_53178 : MethodName := ⟨RJ7, "fill", "([II)V"⟩
def RL : String := "OpenOrTakeLaw"
abbrev cL_law : ByteArray := code
def yL_law : MethodName := ⟨RL, "law", "([I)Z"⟩
abbrev vwCl : List vw_C := [(RX0, TX0, 5), (RX1, TX1, 6), (RX2, TX2, 11), (RX3, TX3, 6), (RX4, TX4, 7), (RX5, TX5, 3), (RX6, TX6, 5), (RX7, TX7, 9), (RX8, TX8, 9), (RX9, TX9, 64)]
