/-! THE WORDS OF THE TABLES BY THEIR PLACES: printed by wip/p39/gen/words.py -/
def WA : List Cond := lw_tbl.filter goodWord
theorem wA {w : Cond} (h : w ∈ lw_tbl) (hg : goodWord w = true) : w ∈ WA := List.mem_filter.mpr ⟨h, hg⟩
theorem tmA : ∀ w ∈ tables_1, w ∈ lw_tbl := fun w h => List.mem_append_right _ h
theorem lwp_0 : (yX2_give, 11) ∈ lw_privs := List.mem_of_getElem? (i := 0) rfl
theorem lwp_1 : (yX2_byTheLaw, 11) ∈ lw_privs := List.mem_of_getElem? (i := 1) rfl
theorem lwp_2 : (yX2_guess, 11) ∈ lw_privs := List.mem_of_getElem? (i := 2) rfl
theorem lwp_3 : (yX2_fromWhomItLikesLeast, 11) ∈ lw_privs := List.mem_of_getElem? (i := 3) rfl
theorem lwp_4 : (yX2_ofMostWorth, 11) ∈ lw_privs := List.mem_of_getElem? (i := 4) rfl
theorem lwp_5 : (yX2_exchange, 11) ∈ lw_privs := List.mem_of_getElem? (i := 5) rfl
theorem lwp_6 : (yX7_lookAhead, 9) ∈ lw_privs := List.mem_of_getElem? (i := 6) rfl
theorem lwp_7 : (yX7_comeTo, 9) ∈ lw_privs := List.mem_of_getElem? (i := 7) rfl
theorem lwp_8 : (yX7_worthAtEnd, 9) ∈ lw_privs := List.mem_of_getElem? (i := 8) rfl
theorem lwp_9 : (yX7_fillMostBehind, 9) ∈ lw_privs := List.mem_of_getElem? (i := 9) rfl
theorem lwp_10 : (yX7_worthWithAllBehind, 9) ∈ lw_privs := List.mem_of_getElem? (i := 10) rfl
theorem lwp_11 : (yX7_firstBest, 9) ∈ lw_privs := List.mem_of_getElem? (i := 11) rfl
theorem lwp_12 : (yX7_envies, 9) ∈ lw_privs := List.mem_of_getElem? (i := 12) rfl
theorem lwp_13 : (yX7_lessen, 9) ∈ lw_privs := List.mem_of_getElem? (i := 13) rfl
theorem lwp_14 : (yX7_lotsBehind, 9) ∈ lw_privs := List.mem_of_getElem? (i := 14) rfl
theorem lwp_15 : (yX8_welcome, 9) ∈ lw_privs := List.mem_of_getElem? (i := 15) rfl
theorem lwp_16 : (yX1_forgetOldest, 6) ∈ lw_privs := List.mem_of_getElem? (i := 16) rfl
theorem lwp_17 : (yX6_line, 5) ∈ lw_privs := List.mem_of_getElem? (i := 17) rfl
theorem lwp_18 : (yX6_either, 5) ∈ lw_privs := List.mem_of_getElem? (i := 18) rfl
theorem lwp_19 : (yX6_both, 5) ∈ lw_privs := List.mem_of_getElem? (i := 19) rfl
theorem lwp_20 : (yX6_compared, 5) ∈ lw_privs := List.mem_of_getElem? (i := 20) rfl
theorem lwp_21 : (yX6_sum, 5) ∈ lw_privs := List.mem_of_getElem? (i := 21) rfl
theorem lwp_22 : (yX6_product, 5) ∈ lw_privs := List.mem_of_getElem? (i := 22) rfl
theorem lwp_23 : (yX6_operand, 5) ∈ lw_privs := List.mem_of_getElem? (i := 23) rfl
theorem lwp_24 : (yX6_ahead, 5) ∈ lw_privs := List.mem_of_getElem? (i := 24) rfl
theorem lwp_25 : (yX6_number, 5) ∈ lw_privs := List.mem_of_getElem? (i := 25) rfl
theorem lwp_26 : (yX6_fail, 5) ∈ lw_privs := List.mem_of_getElem? (i := 26) rfl
theorem lwp_27 : (yX6_write, 5) ∈ lw_privs := List.mem_of_getElem? (i := 27) rfl
theorem lwp_28 : (yX6_comes, 5) ∈ lw_privs := List.mem_of_getElem? (i := 28) rfl
theorem tm_1 : ∀ w ∈ tables_1_1, w ∈ lw_tbl := fun w h => tmA w (List.mem_append_left _ h)
theorem tm_2 : ∀ w ∈ tables_1_2, w ∈ lw_tbl := fun w h => tmA w (List.mem_append_right _ (List.mem_append_left _ h))
theorem tm_3 : ∀ w ∈ tables_1_3, w ∈ lw_tbl := fun w h => tmA w (List.mem_append_right _ (List.mem_append_right _ (List.mem_append_left _ h)))
theorem tm_4 : ∀ w ∈ tables_1_4, w ∈ lw_tbl := fun w h => tmA w (List.mem_append_right _ (List.mem_append_right _ (List.mem_append_right _ (h))))
theorem wm_1_14 : Cond.classLink RL 8 RX8 ∈ WA := wA (tm_1 _ (List.mem_of_getElem? (i := 14) rfl)) rfl
theorem wm_1_15 : Cond.instantiable RX8 9 ∈ WA := wA (tm_1 _ (List.mem_of_getElem? (i := 15) rfl)) rfl
theorem wm_1_1 : Cond.initialized RX8 ∈ WA := wA (tm_1 _ (List.mem_of_getElem? (i := 1) rfl)) rfl
theorem wm_1_12 : Cond.initialized "java/lang/Math" ∈ WA := wA (tm_1 _ (List.mem_of_getElem? (i := 12) rfl)) rfl
theorem wm_1_16 : Cond.methodLink RL 133 yX8_init ∈ WA := wA (tm_1 _ (List.mem_of_getElem? (i := 16) rfl)) rfl
theorem wm_1_17 : Cond.instanceMethod yX8_init ∈ WA := wA (tm_1 _ (List.mem_of_getElem? (i := 17) rfl)) rfl
theorem wm_1_18 : Cond.code yX8_init cX8_init 1 none ∈ WA := wA (tm_1 _ (List.mem_of_getElem? (i := 18) rfl)) rfl
theorem wm_1_19 : Cond.methodLink RX8 1 objectInit ∈ WA := wA (tm_1 _ (List.mem_of_getElem? (i := 19) rfl)) rfl
theorem wm_1_20 : Cond.instanceMethod objectInit ∈ WA := wA (tm_1 _ (List.mem_of_getElem? (i := 20) rfl)) rfl
theorem wm_1_21 : Cond.code objectInit ⟨#[0xb1]⟩ 1 none ∈ WA := wA (tm_1 _ (List.mem_of_getElem? (i := 21) rfl)) rfl
theorem wm_1_22 : Cond.classLink RX8 7 RX4 ∈ WA := wA (tm_1 _ (List.mem_of_getElem? (i := 22) rfl)) rfl
theorem wm_1_23 : Cond.instantiable RX4 7 ∈ WA := wA (tm_1 _ (List.mem_of_getElem? (i := 23) rfl)) rfl
theorem wm_1_2 : Cond.initialized RX4 ∈ WA := wA (tm_1 _ (List.mem_of_getElem? (i := 2) rfl)) rfl
theorem wm_2_44 : Cond.fieldLink RX8 10 "OpenOrTake" "party" "LOpenOrTake$Party;" ∈ WA := wA (tm_2 _ (List.mem_of_getElem? (i := 44) rfl)) rfl
theorem wm_1_92 : Cond.classLink RX8 16 RX1 ∈ WA := wA (tm_1 _ (List.mem_of_getElem? (i := 92) rfl)) rfl
theorem wm_1_93 : Cond.instantiable RX1 6 ∈ WA := wA (tm_1 _ (List.mem_of_getElem? (i := 93) rfl)) rfl
theorem wm_1_5 : Cond.initialized RX1 ∈ WA := wA (tm_1 _ (List.mem_of_getElem? (i := 5) rfl)) rfl
theorem wm_2_45 : Cond.fieldLink RX8 19 "OpenOrTake" "changes" "LOpenOrTake$Changes;" ∈ WA := wA (tm_2 _ (List.mem_of_getElem? (i := 45) rfl)) rfl
theorem wm_1_118 : Cond.classLink RX8 23 RX6 ∈ WA := wA (tm_1 _ (List.mem_of_getElem? (i := 118) rfl)) rfl
theorem wm_1_119 : Cond.instantiable RX6 5 ∈ WA := wA (tm_1 _ (List.mem_of_getElem? (i := 119) rfl)) rfl
theorem wm_1_6 : Cond.initialized RX6 ∈ WA := wA (tm_1 _ (List.mem_of_getElem? (i := 6) rfl)) rfl
theorem wm_2_46 : Cond.fieldLink RX8 26 "OpenOrTake" "tape" "LOpenOrTake$Tape;" ∈ WA := wA (tm_2 _ (List.mem_of_getElem? (i := 46) rfl)) rfl
theorem wm_1_143 : Cond.classLink RX8 30 RX2 ∈ WA := wA (tm_1 _ (List.mem_of_getElem? (i := 143) rfl)) rfl
theorem wm_1_144 : Cond.instantiable RX2 11 ∈ WA := wA (tm_1 _ (List.mem_of_getElem? (i := 144) rfl)) rfl
theorem wm_1_7 : Cond.initialized RX2 ∈ WA := wA (tm_1 _ (List.mem_of_getElem? (i := 7) rfl)) rfl
theorem wm_2_47 : Cond.fieldLink RX8 33 "OpenOrTake" "deed" "LOpenOrTake$Evening;" ∈ WA := wA (tm_2 _ (List.mem_of_getElem? (i := 47) rfl)) rfl
theorem wm_2_48 : Cond.fieldLink RX8 37 "OpenOrTake" "kept" "LOpenOrTake$Evening;" ∈ WA := wA (tm_2 _ (List.mem_of_getElem? (i := 48) rfl)) rfl
theorem wm_1_197 : Cond.classLink RX8 40 RX7 ∈ WA := wA (tm_1 _ (List.mem_of_getElem? (i := 197) rfl)) rfl
theorem wm_1_198 : Cond.instantiable RX7 9 ∈ WA := wA (tm_1 _ (List.mem_of_getElem? (i := 198) rfl)) rfl
theorem wm_1_8 : Cond.initialized RX7 ∈ WA := wA (tm_1 _ (List.mem_of_getElem? (i := 8) rfl)) rfl
theorem wm_2_49 : Cond.fieldLink RX8 45 "OpenOrTake" "thought" "LOpenOrTake$Thought;" ∈ WA := wA (tm_2 _ (List.mem_of_getElem? (i := 49) rfl)) rfl
theorem wm_1_237 : Cond.classLink RX8 49 RX0 ∈ WA := wA (tm_1 _ (List.mem_of_getElem? (i := 237) rfl)) rfl
theorem wm_1_238 : Cond.instantiable RX0 5 ∈ WA := wA (tm_1 _ (List.mem_of_getElem? (i := 238) rfl)) rfl
theorem wm_1_9 : Cond.initialized RX0 ∈ WA := wA (tm_1 _ (List.mem_of_getElem? (i := 9) rfl)) rfl
theorem wm_2_50 : Cond.fieldLink RX8 52 "OpenOrTake" "bodies" "LOpenOrTake$Bodies;" ∈ WA := wA (tm_2 _ (List.mem_of_getElem? (i := 50) rfl)) rfl
theorem wm_2_21 : Cond.classLink RX8 56 RX5 ∈ WA := wA (tm_2 _ (List.mem_of_getElem? (i := 21) rfl)) rfl
theorem wm_2_22 : Cond.instantiable RX5 3 ∈ WA := wA (tm_2 _ (List.mem_of_getElem? (i := 22) rfl)) rfl
theorem wm_1_10 : Cond.initialized RX5 ∈ WA := wA (tm_1 _ (List.mem_of_getElem? (i := 10) rfl)) rfl
theorem wm_2_51 : Cond.fieldLink RX8 59 "OpenOrTake" "shelves" "LOpenOrTake$Shelves;" ∈ WA := wA (tm_2 _ (List.mem_of_getElem? (i := 51) rfl)) rfl
theorem wm_2_52 : Cond.fieldLink RX8 63 "OpenOrTake" "peopleOfImage" "I" ∈ WA := wA (tm_2 _ (List.mem_of_getElem? (i := 52) rfl)) rfl
theorem wm_1_24 : Cond.methodLink RX8 9 yX4_init ∈ WA := wA (tm_1 _ (List.mem_of_getElem? (i := 24) rfl)) rfl
theorem wm_1_25 : Cond.instanceMethod yX4_init ∈ WA := wA (tm_1 _ (List.mem_of_getElem? (i := 25) rfl)) rfl
theorem wm_1_26 : Cond.code yX4_init cX4_init 1 none ∈ WA := wA (tm_1 _ (List.mem_of_getElem? (i := 26) rfl)) rfl
theorem wm_1_27 : Cond.methodLink RX4 3 objectInit ∈ WA := wA (tm_1 _ (List.mem_of_getElem? (i := 27) rfl)) rfl
theorem wm_1_58 : Cond.fieldLink RX4 9 "OpenOrTake$Party" "people" "I" ∈ WA := wA (tm_1 _ (List.mem_of_getElem? (i := 58) rfl)) rfl
theorem wm_1_53 : Cond.arrayClass .int ∈ WA := wA (tm_1 _ (List.mem_of_getElem? (i := 53) rfl)) rfl
theorem wm_1_62 : Cond.fieldLink RX4 15 "OpenOrTake$Party" "worth" "[I" ∈ WA := wA (tm_1 _ (List.mem_of_getElem? (i := 62) rfl)) rfl
theorem wm_1_64 : Cond.fieldLink RX4 19 "OpenOrTake$Party" "like" "[I" ∈ WA := wA (tm_1 _ (List.mem_of_getElem? (i := 64) rfl)) rfl
theorem wm_1_65 : Cond.fieldLink RX4 22 "OpenOrTake$Party" "way" "[I" ∈ WA := wA (tm_1 _ (List.mem_of_getElem? (i := 65) rfl)) rfl
theorem wm_1_68 : Cond.fieldLink RX4 25 "OpenOrTake$Party" "most" "I" ∈ WA := wA (tm_1 _ (List.mem_of_getElem? (i := 68) rfl)) rfl
theorem wm_1_71 : Cond.fieldLink RX4 28 "OpenOrTake$Party" "again" "I" ∈ WA := wA (tm_1 _ (List.mem_of_getElem? (i := 71) rfl)) rfl
theorem wm_1_28 : Cond.classLink RX4 31 RX3 ∈ WA := wA (tm_1 _ (List.mem_of_getElem? (i := 28) rfl)) rfl
theorem wm_1_29 : Cond.instantiable RX3 6 ∈ WA := wA (tm_1 _ (List.mem_of_getElem? (i := 29) rfl)) rfl
theorem wm_1_3 : Cond.initialized RX3 ∈ WA := wA (tm_1 _ (List.mem_of_getElem? (i := 3) rfl)) rfl
theorem wm_1_74 : Cond.fieldLink RX4 34 "OpenOrTake$Party" "law" "LOpenOrTake$Law;" ∈ WA := wA (tm_1 _ (List.mem_of_getElem? (i := 74) rfl)) rfl
theorem wm_1_30 : Cond.methodLink RX4 33 yX3_init ∈ WA := wA (tm_1 _ (List.mem_of_getElem? (i := 30) rfl)) rfl
theorem wm_1_31 : Cond.instanceMethod yX3_init ∈ WA := wA (tm_1 _ (List.mem_of_getElem? (i := 31) rfl)) rfl
theorem wm_1_32 : Cond.code yX3_init cX3_init 1 none ∈ WA := wA (tm_1 _ (List.mem_of_getElem? (i := 32) rfl)) rfl
theorem wm_1_33 : Cond.methodLink RX3 3 objectInit ∈ WA := wA (tm_1 _ (List.mem_of_getElem? (i := 33) rfl)) rfl
theorem wm_1_54 : Cond.arrayClass .char ∈ WA := wA (tm_1 _ (List.mem_of_getElem? (i := 54) rfl)) rfl
theorem wm_1_34 : Cond.fieldLink RX3 11 "OpenOrTake$Law" "sign" "[C" ∈ WA := wA (tm_1 _ (List.mem_of_getElem? (i := 34) rfl)) rfl
theorem wm_1_35 : Cond.fieldLink RX3 15 "OpenOrTake$Law" "detail" "[I" ∈ WA := wA (tm_1 _ (List.mem_of_getElem? (i := 35) rfl)) rfl
theorem wm_1_36 : Cond.fieldLink RX3 19 "OpenOrTake$Law" "length" "I" ∈ WA := wA (tm_1 _ (List.mem_of_getElem? (i := 36) rfl)) rfl
theorem wm_1_37 : Cond.fieldLink RX3 23 "OpenOrTake$Law" "latestIf" "I" ∈ WA := wA (tm_1 _ (List.mem_of_getElem? (i := 37) rfl)) rfl
theorem wm_1_38 : Cond.fieldLink RX3 26 "OpenOrTake$Law" "stack" "[I" ∈ WA := wA (tm_1 _ (List.mem_of_getElem? (i := 38) rfl)) rfl
theorem wm_1_39 : Cond.fieldLink RX3 29 "OpenOrTake$Law" "named" "[I" ∈ WA := wA (tm_1 _ (List.mem_of_getElem? (i := 39) rfl)) rfl
theorem wm_1_55 : Cond.methodLink RX4 38 yJ7_fill_53178 ∈ WA := wA (tm_1 _ (List.mem_of_getElem? (i := 55) rfl)) rfl
theorem wm_1_56 : Cond.static yJ7_fill_53178 ∈ WA := wA (tm_1 _ (List.mem_of_getElem? (i := 56) rfl)) rfl
theorem wm_1_4 : Cond.initialized RJ7 ∈ WA := wA (tm_1 _ (List.mem_of_getElem? (i := 4) rfl)) rfl
theorem wm_1_57 : Cond.code yJ7_fill_53178 cJ7_fill_53178 4 none ∈ WA := wA (tm_1 _ (List.mem_of_getElem? (i := 57) rfl)) rfl
theorem wm_1_95 : Cond.instanceMethod yX1_init ∈ WA := wA (tm_1 _ (List.mem_of_getElem? (i := 95) rfl)) rfl
theorem wm_1_96 : Cond.code yX1_init cX1_init 1 none ∈ WA := wA (tm_1 _ (List.mem_of_getElem? (i := 96) rfl)) rfl
theorem wm_1_97 : Cond.methodLink RX1 1 objectInit ∈ WA := wA (tm_1 _ (List.mem_of_getElem? (i := 97) rfl)) rfl
theorem wm_1_98 : Cond.fieldLink RX1 9 "OpenOrTake$Changes" "number" "[I" ∈ WA := wA (tm_1 _ (List.mem_of_getElem? (i := 98) rfl)) rfl
theorem wm_1_99 : Cond.fieldLink RX1 13 "OpenOrTake$Changes" "what" "[I" ∈ WA := wA (tm_1 _ (List.mem_of_getElem? (i := 99) rfl)) rfl
theorem wm_1_100 : Cond.fieldLink RX1 16 "OpenOrTake$Changes" "before" "[I" ∈ WA := wA (tm_1 _ (List.mem_of_getElem? (i := 100) rfl)) rfl
theorem wm_1_101 : Cond.fieldLink RX1 19 "OpenOrTake$Changes" "after" "[I" ∈ WA := wA (tm_1 _ (List.mem_of_getElem? (i := 101) rfl)) rfl
theorem wm_1_102 : Cond.fieldLink RX1 22 "OpenOrTake$Changes" "done" "I" ∈ WA := wA (tm_1 _ (List.mem_of_getElem? (i := 102) rfl)) rfl
theorem wm_1_104 : Cond.fieldLink RX1 26 "OpenOrTake$Changes" "all" "I" ∈ WA := wA (tm_1 _ (List.mem_of_getElem? (i := 104) rfl)) rfl
theorem wm_1_121 : Cond.instanceMethod yX6_init ∈ WA := wA (tm_1 _ (List.mem_of_getElem? (i := 121) rfl)) rfl
theorem wm_1_122 : Cond.code yX6_init cX6_init 1 none ∈ WA := wA (tm_1 _ (List.mem_of_getElem? (i := 122) rfl)) rfl
theorem wm_1_123 : Cond.methodLink RX6 3 objectInit ∈ WA := wA (tm_1 _ (List.mem_of_getElem? (i := 123) rfl)) rfl
theorem wm_1_126 : Cond.fieldLink RX6 9 "OpenOrTake$Tape" "bytes" "[C" ∈ WA := wA (tm_1 _ (List.mem_of_getElem? (i := 126) rfl)) rfl
theorem wm_1_127 : Cond.fieldLink RX6 15 "OpenOrTake$Tape" "length" "I" ∈ WA := wA (tm_1 _ (List.mem_of_getElem? (i := 127) rfl)) rfl
theorem wm_1_129 : Cond.fieldLink RX6 19 "OpenOrTake$Tape" "at" "I" ∈ WA := wA (tm_1 _ (List.mem_of_getElem? (i := 129) rfl)) rfl
theorem wm_1_130 : Cond.fieldLink RX6 22 "OpenOrTake$Tape" "fault" "I" ∈ WA := wA (tm_1 _ (List.mem_of_getElem? (i := 130) rfl)) rfl
theorem wm_1_124 : Cond.classLink RX6 25 RX3 ∈ WA := wA (tm_1 _ (List.mem_of_getElem? (i := 124) rfl)) rfl
theorem wm_1_131 : Cond.fieldLink RX6 28 "OpenOrTake$Tape" "draft" "LOpenOrTake$Law;" ∈ WA := wA (tm_1 _ (List.mem_of_getElem? (i := 131) rfl)) rfl
theorem wm_1_125 : Cond.methodLink RX6 27 yX3_init ∈ WA := wA (tm_1 _ (List.mem_of_getElem? (i := 125) rfl)) rfl
theorem wm_1_145 : Cond.methodLink RX8 32 yX2_init ∈ WA := wA (tm_1 _ (List.mem_of_getElem? (i := 145) rfl)) rfl
theorem wm_1_146 : Cond.instanceMethod yX2_init ∈ WA := wA (tm_1 _ (List.mem_of_getElem? (i := 146) rfl)) rfl
theorem wm_1_147 : Cond.code yX2_init cX2_init 1 none ∈ WA := wA (tm_1 _ (List.mem_of_getElem? (i := 147) rfl)) rfl
theorem wm_1_148 : Cond.methodLink RX2 3 objectInit ∈ WA := wA (tm_1 _ (List.mem_of_getElem? (i := 148) rfl)) rfl
theorem wm_1_150 : Cond.fieldLink RX2 9 "OpenOrTake$Evening" "lot" "[I" ∈ WA := wA (tm_1 _ (List.mem_of_getElem? (i := 150) rfl)) rfl
theorem wm_1_153 : Cond.fieldLink RX2 15 "OpenOrTake$Evening" "has" "[I" ∈ WA := wA (tm_1 _ (List.mem_of_getElem? (i := 153) rfl)) rfl
theorem wm_1_156 : Cond.fieldLink RX2 18 "OpenOrTake$Evening" "holder" "[I" ∈ WA := wA (tm_1 _ (List.mem_of_getElem? (i := 156) rfl)) rfl
theorem wm_1_157 : Cond.fieldLink RX2 21 "OpenOrTake$Evening" "taken" "[I" ∈ WA := wA (tm_1 _ (List.mem_of_getElem? (i := 157) rfl)) rfl
theorem wm_1_160 : Cond.fieldLink RX2 24 "OpenOrTake$Evening" "opened" "I" ∈ WA := wA (tm_1 _ (List.mem_of_getElem? (i := 160) rfl)) rfl
theorem wm_1_163 : Cond.fieldLink RX2 28 "OpenOrTake$Evening" "robbed" "I" ∈ WA := wA (tm_1 _ (List.mem_of_getElem? (i := 163) rfl)) rfl
theorem wm_1_164 : Cond.fieldLink RX2 31 "OpenOrTake$Evening" "just" "I" ∈ WA := wA (tm_1 _ (List.mem_of_getElem? (i := 164) rfl)) rfl
theorem wm_1_165 : Cond.fieldLink RX2 34 "OpenOrTake$Evening" "againWas" "Z" ∈ WA := wA (tm_1 _ (List.mem_of_getElem? (i := 165) rfl)) rfl
theorem wm_1_167 : Cond.fieldLink RX2 38 "OpenOrTake$Evening" "latestWho" "I" ∈ WA := wA (tm_1 _ (List.mem_of_getElem? (i := 167) rfl)) rfl
theorem wm_1_169 : Cond.fieldLink RX2 41 "OpenOrTake$Evening" "latestGot" "I" ∈ WA := wA (tm_1 _ (List.mem_of_getElem? (i := 169) rfl)) rfl
theorem wm_1_171 : Cond.fieldLink RX2 44 "OpenOrTake$Evening" "turns" "I" ∈ WA := wA (tm_1 _ (List.mem_of_getElem? (i := 171) rfl)) rfl
theorem wm_1_149 : Cond.methodLink RX2 47 yJ7_fill_53178 ∈ WA := wA (tm_1 _ (List.mem_of_getElem? (i := 149) rfl)) rfl
theorem wm_1_199 : Cond.methodLink RX8 42 yX7_init ∈ WA := wA (tm_1 _ (List.mem_of_getElem? (i := 199) rfl)) rfl
theorem wm_1_200 : Cond.instanceMethod yX7_init ∈ WA := wA (tm_1 _ (List.mem_of_getElem? (i := 200) rfl)) rfl
theorem wm_1_201 : Cond.code yX7_init cX7_init 3 none ∈ WA := wA (tm_1 _ (List.mem_of_getElem? (i := 201) rfl)) rfl
theorem wm_1_202 : Cond.methodLink RX7 3 objectInit ∈ WA := wA (tm_1 _ (List.mem_of_getElem? (i := 202) rfl)) rfl
theorem wm_1_203 : Cond.classLink RX7 11 RX2 ∈ WA := wA (tm_1 _ (List.mem_of_getElem? (i := 203) rfl)) rfl
theorem wm_1_209 : Cond.fieldLink RX7 13 "OpenOrTake$Thought" "levels" "[LOpenOrTake$Evening;" ∈ WA := wA (tm_1 _ (List.mem_of_getElem? (i := 209) rfl)) rfl
theorem wm_1_205 : Cond.classLink RX7 17 "[[I" ∈ WA := wA (tm_1 _ (List.mem_of_getElem? (i := 205) rfl)) rfl
theorem wm_1_210 : Cond.fieldLink RX7 19 "OpenOrTake$Thought" "ends" "[[I" ∈ WA := wA (tm_1 _ (List.mem_of_getElem? (i := 210) rfl)) rfl
theorem wm_1_211 : Cond.fieldLink RX7 22 "OpenOrTake$Thought" "mostBehind" "[I" ∈ WA := wA (tm_1 _ (List.mem_of_getElem? (i := 211) rfl)) rfl
theorem wm_1_212 : Cond.fieldLink RX7 26 "OpenOrTake$Thought" "trueWorth" "[I" ∈ WA := wA (tm_1 _ (List.mem_of_getElem? (i := 212) rfl)) rfl
theorem wm_1_213 : Cond.fieldLink RX7 29 "OpenOrTake$Thought" "drawn" "[I" ∈ WA := wA (tm_1 _ (List.mem_of_getElem? (i := 213) rfl)) rfl
theorem wm_1_214 : Cond.fieldLink RX7 32 "OpenOrTake$Thought" "sums" "[I" ∈ WA := wA (tm_1 _ (List.mem_of_getElem? (i := 214) rfl)) rfl
theorem wm_1_216 : Cond.fieldLink RX7 35 "OpenOrTake$Thought" "told" "[J" ∈ WA := wA (tm_1 _ (List.mem_of_getElem? (i := 216) rfl)) rfl
theorem wm_1_217 : Cond.fieldLink RX7 39 "OpenOrTake$Thought" "toldSize" "I" ∈ WA := wA (tm_1 _ (List.mem_of_getElem? (i := 217) rfl)) rfl
theorem wm_1_208 : Cond.fieldLink RX7 43 "OpenOrTake$Thought" "party" "LOpenOrTake$Party;" ∈ WA := wA (tm_1 _ (List.mem_of_getElem? (i := 208) rfl)) rfl
theorem wm_1_207 : Cond.methodLink RX7 47 yX2_init ∈ WA := wA (tm_1 _ (List.mem_of_getElem? (i := 207) rfl)) rfl
theorem wm_2_0 : Cond.instanceMethod yX0_init ∈ WA := wA (tm_2 _ (List.mem_of_getElem? (i := 0) rfl)) rfl
theorem wm_2_1 : Cond.code yX0_init cX0_init 1 none ∈ WA := wA (tm_2 _ (List.mem_of_getElem? (i := 1) rfl)) rfl
theorem wm_2_2 : Cond.methodLink RX0 3 objectInit ∈ WA := wA (tm_2 _ (List.mem_of_getElem? (i := 2) rfl)) rfl
theorem wm_2_3 : Cond.fieldLink RX0 11 "OpenOrTake$Bodies" "kinds" "[I" ∈ WA := wA (tm_2 _ (List.mem_of_getElem? (i := 3) rfl)) rfl
theorem wm_2_4 : Cond.fieldLink RX0 15 "OpenOrTake$Bodies" "count" "I" ∈ WA := wA (tm_2 _ (List.mem_of_getElem? (i := 4) rfl)) rfl
theorem wm_2_6 : Cond.fieldLink RX0 19 "OpenOrTake$Bodies" "trace" "[I" ∈ WA := wA (tm_2 _ (List.mem_of_getElem? (i := 6) rfl)) rfl
theorem wm_2_7 : Cond.fieldLink RX0 22 "OpenOrTake$Bodies" "ran" "I" ∈ WA := wA (tm_2 _ (List.mem_of_getElem? (i := 7) rfl)) rfl
theorem wm_2_9 : Cond.fieldLink RX0 25 "OpenOrTake$Bodies" "self" "I" ∈ WA := wA (tm_2 _ (List.mem_of_getElem? (i := 9) rfl)) rfl
theorem wm_2_23 : Cond.methodLink RX8 58 yX5_init ∈ WA := wA (tm_2 _ (List.mem_of_getElem? (i := 23) rfl)) rfl
theorem wm_2_24 : Cond.instanceMethod yX5_init ∈ WA := wA (tm_2 _ (List.mem_of_getElem? (i := 24) rfl)) rfl
theorem wm_2_25 : Cond.code yX5_init cX5_init 1 none ∈ WA := wA (tm_2 _ (List.mem_of_getElem? (i := 25) rfl)) rfl
theorem wm_2_26 : Cond.methodLink RX5 3 objectInit ∈ WA := wA (tm_2 _ (List.mem_of_getElem? (i := 26) rfl)) rfl
theorem wm_2_30 : Cond.fieldLink RX5 11 "OpenOrTake$Shelves" "sort" "[I" ∈ WA := wA (tm_2 _ (List.mem_of_getElem? (i := 30) rfl)) rfl
theorem wm_2_32 : Cond.fieldLink RX5 15 "OpenOrTake$Shelves" "size" "[I" ∈ WA := wA (tm_2 _ (List.mem_of_getElem? (i := 32) rfl)) rfl
theorem wm_2_27 : Cond.classLink RX5 18 "[[J" ∈ WA := wA (tm_2 _ (List.mem_of_getElem? (i := 27) rfl)) rfl
theorem wm_2_43 : Cond.arrayClass .long ∈ WA := wA (tm_2 _ (List.mem_of_getElem? (i := 43) rfl)) rfl
theorem wm_2_34 : Cond.fieldLink RX5 20 "OpenOrTake$Shelves" "rows" "[[J" ∈ WA := wA (tm_2 _ (List.mem_of_getElem? (i := 34) rfl)) rfl
theorem wm_2_29 : Cond.methodLink RX5 23 yJ7_fill_53178 ∈ WA := wA (tm_2 _ (List.mem_of_getElem? (i := 29) rfl)) rfl
theorem wm_3_174 : Cond.methodLink RL 134 yL_built ∈ WA := wA (tm_3 _ (List.mem_of_getElem? (i := 174) rfl)) rfl
theorem wm_3_175 : Cond.static yL_built ∈ WA := wA (tm_3 _ (List.mem_of_getElem? (i := 175) rfl)) rfl
theorem wm_1_0 : Cond.initialized RL ∈ WA := wA (tm_1 _ (List.mem_of_getElem? (i := 0) rfl)) rfl
theorem wm_3_176 : Cond.code yL_built cL_built 6 (some .boolean) ∈ WA := wA (tm_3 _ (List.mem_of_getElem? (i := 176) rfl)) rfl
theorem wm_3_161 : Cond.methodLink RL 23 yL_people ∈ WA := wA (tm_3 _ (List.mem_of_getElem? (i := 161) rfl)) rfl
theorem wm_3_162 : Cond.static yL_people ∈ WA := wA (tm_3 _ (List.mem_of_getElem? (i := 162) rfl)) rfl
theorem wm_3_163 : Cond.code yL_people cL_people 1 (some .int) ∈ WA := wA (tm_3 _ (List.mem_of_getElem? (i := 163) rfl)) rfl
theorem wm_3_164 : Cond.methodLink RL 17 yL_cell ∈ WA := wA (tm_3 _ (List.mem_of_getElem? (i := 164) rfl)) rfl
theorem wm_3_165 : Cond.static yL_cell ∈ WA := wA (tm_3 _ (List.mem_of_getElem? (i := 165) rfl)) rfl
theorem wm_3_166 : Cond.code yL_cell cL_cell 2 (some .int) ∈ WA := wA (tm_3 _ (List.mem_of_getElem? (i := 166) rfl)) rfl
theorem wm_3_167 : Cond.constant RL 16 (16777215) ∈ WA := wA (tm_3 _ (List.mem_of_getElem? (i := 167) rfl)) rfl
theorem wm_3_177 : Cond.methodLink RL 27 yL_way ∈ WA := wA (tm_3 _ (List.mem_of_getElem? (i := 177) rfl)) rfl
theorem wm_3_178 : Cond.static yL_way ∈ WA := wA (tm_3 _ (List.mem_of_getElem? (i := 178) rfl)) rfl
theorem wm_3_179 : Cond.code yL_way cL_way 2 (some .int) ∈ WA := wA (tm_3 _ (List.mem_of_getElem? (i := 179) rfl)) rfl
theorem wm_3_180 : Cond.methodLink RL 30 yX8_person ∈ WA := wA (tm_3 _ (List.mem_of_getElem? (i := 180) rfl)) rfl
theorem wm_3_181 : Cond.instanceMethod yX8_person ∈ WA := wA (tm_3 _ (List.mem_of_getElem? (i := 181) rfl)) rfl
theorem wm_3_182 : Cond.selects RX8 yX8_person yX8_person ∈ WA := wA (tm_3 _ (List.mem_of_getElem? (i := 182) rfl)) rfl
theorem wm_3_183 : Cond.code yX8_person cX8_person 2 (some .int) ∈ WA := wA (tm_3 _ (List.mem_of_getElem? (i := 183) rfl)) rfl
theorem wm_1_60 : Cond.fieldLink RX8 71 "OpenOrTake$Party" "people" "I" ∈ WA := wA (tm_1 _ (List.mem_of_getElem? (i := 60) rfl)) rfl
theorem wm_3_184 : Cond.methodLink RX8 67 yX2_hasBegun ∈ WA := wA (tm_3 _ (List.mem_of_getElem? (i := 184) rfl)) rfl
theorem wm_2_179 : Cond.instanceMethod yX2_hasBegun ∈ WA := wA (tm_2 _ (List.mem_of_getElem? (i := 179) rfl)) rfl
theorem wm_2_180 : Cond.selects RX2 yX2_hasBegun yX2_hasBegun ∈ WA := wA (tm_2 _ (List.mem_of_getElem? (i := 180) rfl)) rfl
theorem wm_2_181 : Cond.code yX2_hasBegun cX2_hasBegun 1 (some .boolean) ∈ WA := wA (tm_2 _ (List.mem_of_getElem? (i := 181) rfl)) rfl
theorem wm_3_185 : Cond.methodLink RX8 74 yX8_welcome ∈ WA := wA (tm_3 _ (List.mem_of_getElem? (i := 185) rfl)) rfl
theorem wm_3_187 : Cond.instanceMethod yX8_welcome ∈ WA := wA (tm_3 _ (List.mem_of_getElem? (i := 187) rfl)) rfl
theorem wm_p_15 : Cond.selects RX8 yX8_welcome yX8_welcome ∈ WA := wA (List.mem_append_left _ (List.mem_map.mpr ⟨(yX8_welcome, 9), lwp_15, rfl⟩)) rfl
theorem wm_3_188 : Cond.code yX8_welcome cX8_welcome 3 (some .int) ∈ WA := wA (tm_3 _ (List.mem_of_getElem? (i := 188) rfl)) rfl
theorem wm_1_67 : Cond.fieldLink RX8 323 "OpenOrTake$Party" "way" "[I" ∈ WA := wA (tm_1 _ (List.mem_of_getElem? (i := 67) rfl)) rfl
theorem wm_1_151 : Cond.fieldLink RX8 110 "OpenOrTake$Evening" "lot" "[I" ∈ WA := wA (tm_1 _ (List.mem_of_getElem? (i := 151) rfl)) rfl
theorem wm_3_189 : Cond.methodLink RL 33 yL_worth ∈ WA := wA (tm_3 _ (List.mem_of_getElem? (i := 189) rfl)) rfl
theorem wm_3_190 : Cond.static yL_worth ∈ WA := wA (tm_3 _ (List.mem_of_getElem? (i := 190) rfl)) rfl
theorem wm_3_191 : Cond.code yL_worth cL_worth 3 (some .int) ∈ WA := wA (tm_3 _ (List.mem_of_getElem? (i := 191) rfl)) rfl
theorem wm_3_192 : Cond.methodLink RL 37 yX8_mend ∈ WA := wA (tm_3 _ (List.mem_of_getElem? (i := 192) rfl)) rfl
theorem wm_3_193 : Cond.instanceMethod yX8_mend ∈ WA := wA (tm_3 _ (List.mem_of_getElem? (i := 193) rfl)) rfl
theorem wm_3_194 : Cond.selects RX8 yX8_mend yX8_mend ∈ WA := wA (tm_3 _ (List.mem_of_getElem? (i := 194) rfl)) rfl
theorem wm_3_195 : Cond.code yX8_mend cX8_mend 5 (some .int) ∈ WA := wA (tm_3 _ (List.mem_of_getElem? (i := 195) rfl)) rfl
theorem wm_2_76 : Cond.methodLink RX8 89 yX4_knows ∈ WA := wA (tm_2 _ (List.mem_of_getElem? (i := 76) rfl)) rfl
theorem wm_2_77 : Cond.instanceMethod yX4_knows ∈ WA := wA (tm_2 _ (List.mem_of_getElem? (i := 77) rfl)) rfl
theorem wm_2_78 : Cond.selects RX4 yX4_knows yX4_knows ∈ WA := wA (tm_2 _ (List.mem_of_getElem? (i := 78) rfl)) rfl
theorem wm_2_79 : Cond.code yX4_knows cX4_knows 3 (some .boolean) ∈ WA := wA (tm_2 _ (List.mem_of_getElem? (i := 79) rfl)) rfl
theorem wm_2_80 : Cond.methodLink RX4 48 yX4_isPair ∈ WA := wA (tm_2 _ (List.mem_of_getElem? (i := 80) rfl)) rfl
theorem wm_2_81 : Cond.instanceMethod yX4_isPair ∈ WA := wA (tm_2 _ (List.mem_of_getElem? (i := 81) rfl)) rfl
theorem wm_2_82 : Cond.selects RX4 yX4_isPair yX4_isPair ∈ WA := wA (tm_2 _ (List.mem_of_getElem? (i := 82) rfl)) rfl
theorem wm_2_83 : Cond.code yX4_isPair cX4_isPair 2 (some .boolean) ∈ WA := wA (tm_2 _ (List.mem_of_getElem? (i := 83) rfl)) rfl
theorem wm_2_84 : Cond.methodLink RX4 44 yX4_isOne ∈ WA := wA (tm_2 _ (List.mem_of_getElem? (i := 84) rfl)) rfl
theorem wm_2_85 : Cond.instanceMethod yX4_isOne ∈ WA := wA (tm_2 _ (List.mem_of_getElem? (i := 85) rfl)) rfl
theorem wm_2_86 : Cond.selects RX4 yX4_isOne yX4_isOne ∈ WA := wA (tm_2 _ (List.mem_of_getElem? (i := 86) rfl)) rfl
theorem wm_2_87 : Cond.code yX4_isOne cX4_isOne 2 (some .boolean) ∈ WA := wA (tm_2 _ (List.mem_of_getElem? (i := 87) rfl)) rfl
theorem wm_3_196 : Cond.methodLink RX8 92 yX4_allows ∈ WA := wA (tm_3 _ (List.mem_of_getElem? (i := 196) rfl)) rfl
theorem wm_3_197 : Cond.static yX4_allows ∈ WA := wA (tm_3 _ (List.mem_of_getElem? (i := 197) rfl)) rfl
theorem wm_3_198 : Cond.code yX4_allows cX4_allows 2 (some .boolean) ∈ WA := wA (tm_3 _ (List.mem_of_getElem? (i := 198) rfl)) rfl
theorem wm_2_88 : Cond.methodLink RX8 95 yX4_value ∈ WA := wA (tm_2 _ (List.mem_of_getElem? (i := 88) rfl)) rfl
theorem wm_2_89 : Cond.instanceMethod yX4_value ∈ WA := wA (tm_2 _ (List.mem_of_getElem? (i := 89) rfl)) rfl
theorem wm_2_90 : Cond.selects RX4 yX4_value yX4_value ∈ WA := wA (tm_2 _ (List.mem_of_getElem? (i := 90) rfl)) rfl
theorem wm_2_91 : Cond.code yX4_value cX4_value 3 (some .int) ∈ WA := wA (tm_2 _ (List.mem_of_getElem? (i := 91) rfl)) rfl
theorem wm_2_92 : Cond.methodLink RX4 51 yX4_knows ∈ WA := wA (tm_2 _ (List.mem_of_getElem? (i := 92) rfl)) rfl
theorem wm_3_199 : Cond.methodLink RX8 99 yX1_note ∈ WA := wA (tm_3 _ (List.mem_of_getElem? (i := 199) rfl)) rfl
theorem wm_3_200 : Cond.instanceMethod yX1_note ∈ WA := wA (tm_3 _ (List.mem_of_getElem? (i := 200) rfl)) rfl
theorem wm_3_201 : Cond.selects RX1 yX1_note yX1_note ∈ WA := wA (tm_3 _ (List.mem_of_getElem? (i := 201) rfl)) rfl
theorem wm_3_202 : Cond.code yX1_note cX1_note 5 none ∈ WA := wA (tm_3 _ (List.mem_of_getElem? (i := 202) rfl)) rfl
theorem wm_3_203 : Cond.methodLink RX1 29 yX1_forgetOldest ∈ WA := wA (tm_3 _ (List.mem_of_getElem? (i := 203) rfl)) rfl
theorem wm_3_205 : Cond.instanceMethod yX1_forgetOldest ∈ WA := wA (tm_3 _ (List.mem_of_getElem? (i := 205) rfl)) rfl
theorem wm_p_16 : Cond.selects RX1 yX1_forgetOldest yX1_forgetOldest ∈ WA := wA (List.mem_append_left _ (List.mem_map.mpr ⟨(yX1_forgetOldest, 6), lwp_16, rfl⟩)) rfl
theorem wm_3_206 : Cond.code yX1_forgetOldest cX1_forgetOldest 1 none ∈ WA := wA (tm_3 _ (List.mem_of_getElem? (i := 206) rfl)) rfl
theorem wm_3_207 : Cond.methodLink RX1 32 arraycopyName ∈ WA := wA (tm_3 _ (List.mem_of_getElem? (i := 207) rfl)) rfl
theorem wm_2_216 : Cond.native arraycopyName ∈ WA := wA (tm_2 _ (List.mem_of_getElem? (i := 216) rfl)) rfl
theorem wm_2_215 : Cond.static arraycopyName ∈ WA := wA (tm_2 _ (List.mem_of_getElem? (i := 215) rfl)) rfl
theorem wm_1_11 : Cond.initialized "java/lang/System" ∈ WA := wA (tm_1 _ (List.mem_of_getElem? (i := 11) rfl)) rfl
theorem wm_3_208 : Cond.methodLink RX8 103 yX4_become ∈ WA := wA (tm_3 _ (List.mem_of_getElem? (i := 208) rfl)) rfl
theorem wm_3_209 : Cond.instanceMethod yX4_become ∈ WA := wA (tm_3 _ (List.mem_of_getElem? (i := 209) rfl)) rfl
theorem wm_3_210 : Cond.selects RX4 yX4_become yX4_become ∈ WA := wA (tm_3 _ (List.mem_of_getElem? (i := 210) rfl)) rfl
theorem wm_3_211 : Cond.code yX4_become cX4_become 4 none ∈ WA := wA (tm_3 _ (List.mem_of_getElem? (i := 211) rfl)) rfl
theorem wm_3_212 : Cond.methodLink RL 41 yL_like ∈ WA := wA (tm_3 _ (List.mem_of_getElem? (i := 212) rfl)) rfl
theorem wm_3_213 : Cond.static yL_like ∈ WA := wA (tm_3 _ (List.mem_of_getElem? (i := 213) rfl)) rfl
theorem wm_3_214 : Cond.code yL_like cL_like 3 (some .int) ∈ WA := wA (tm_3 _ (List.mem_of_getElem? (i := 214) rfl)) rfl
theorem wm_3_168 : Cond.methodLink RL 44 yL_most ∈ WA := wA (tm_3 _ (List.mem_of_getElem? (i := 168) rfl)) rfl
theorem wm_3_169 : Cond.static yL_most ∈ WA := wA (tm_3 _ (List.mem_of_getElem? (i := 169) rfl)) rfl
theorem wm_3_170 : Cond.code yL_most cL_most 1 (some .int) ∈ WA := wA (tm_3 _ (List.mem_of_getElem? (i := 170) rfl)) rfl
theorem wm_3_171 : Cond.methodLink RL 47 yL_again ∈ WA := wA (tm_3 _ (List.mem_of_getElem? (i := 171) rfl)) rfl
theorem wm_3_172 : Cond.static yL_again ∈ WA := wA (tm_3 _ (List.mem_of_getElem? (i := 172) rfl)) rfl
theorem wm_3_173 : Cond.code yL_again cL_again 1 (some .int) ∈ WA := wA (tm_3 _ (List.mem_of_getElem? (i := 173) rfl)) rfl
theorem wm_3_215 : Cond.methodLink RL 50 yL_lot ∈ WA := wA (tm_3 _ (List.mem_of_getElem? (i := 215) rfl)) rfl
theorem wm_3_216 : Cond.static yL_lot ∈ WA := wA (tm_3 _ (List.mem_of_getElem? (i := 216) rfl)) rfl
theorem wm_3_217 : Cond.code yL_lot cL_lot 6 (some (.array .int)) ∈ WA := wA (tm_3 _ (List.mem_of_getElem? (i := 217) rfl)) rfl
theorem wm_2_72 : Cond.methodLink RL 54 yX8_of ∈ WA := wA (tm_2 _ (List.mem_of_getElem? (i := 72) rfl)) rfl
theorem wm_2_73 : Cond.instanceMethod yX8_of ∈ WA := wA (tm_2 _ (List.mem_of_getElem? (i := 73) rfl)) rfl
theorem wm_2_74 : Cond.selects RX8 yX8_of yX8_of ∈ WA := wA (tm_2 _ (List.mem_of_getElem? (i := 74) rfl)) rfl
theorem wm_2_75 : Cond.code yX8_of cX8_of 3 (some .int) ∈ WA := wA (tm_2 _ (List.mem_of_getElem? (i := 75) rfl)) rfl
theorem wm_1_155 : Cond.fieldLink RX8 114 "OpenOrTake$Evening" "has" "[I" ∈ WA := wA (tm_1 _ (List.mem_of_getElem? (i := 155) rfl)) rfl
theorem wm_1_158 : Cond.fieldLink RX8 117 "OpenOrTake$Evening" "taken" "[I" ∈ WA := wA (tm_1 _ (List.mem_of_getElem? (i := 158) rfl)) rfl
theorem wm_1_162 : Cond.fieldLink RX8 120 "OpenOrTake$Evening" "opened" "I" ∈ WA := wA (tm_1 _ (List.mem_of_getElem? (i := 162) rfl)) rfl
theorem wm_2_93 : Cond.methodLink RX8 107 yX4_isOne ∈ WA := wA (tm_2 _ (List.mem_of_getElem? (i := 93) rfl)) rfl
theorem wm_3_218 : Cond.methodLink RL 58 yX8_swap ∈ WA := wA (tm_3 _ (List.mem_of_getElem? (i := 218) rfl)) rfl
theorem wm_3_219 : Cond.instanceMethod yX8_swap ∈ WA := wA (tm_3 _ (List.mem_of_getElem? (i := 219) rfl)) rfl
theorem wm_3_220 : Cond.selects RX8 yX8_swap yX8_swap ∈ WA := wA (tm_3 _ (List.mem_of_getElem? (i := 220) rfl)) rfl
theorem wm_3_221 : Cond.code yX8_swap cX8_swap 2 (some .int) ∈ WA := wA (tm_3 _ (List.mem_of_getElem? (i := 221) rfl)) rfl
theorem wm_3_222 : Cond.methodLink RX8 123 yX4_isPair ∈ WA := wA (tm_3 _ (List.mem_of_getElem? (i := 222) rfl)) rfl
theorem wm_3_223 : Cond.methodLink RX8 126 yX2_changePlaces ∈ WA := wA (tm_3 _ (List.mem_of_getElem? (i := 223) rfl)) rfl
theorem wm_3_224 : Cond.instanceMethod yX2_changePlaces ∈ WA := wA (tm_3 _ (List.mem_of_getElem? (i := 224) rfl)) rfl
theorem wm_3_225 : Cond.selects RX2 yX2_changePlaces yX2_changePlaces ∈ WA := wA (tm_3 _ (List.mem_of_getElem? (i := 225) rfl)) rfl
theorem wm_3_226 : Cond.code yX2_changePlaces cX2_changePlaces 4 none ∈ WA := wA (tm_3 _ (List.mem_of_getElem? (i := 226) rfl)) rfl
theorem wm_3_227 : Cond.methodLink RL 61 yL_hasLaw ∈ WA := wA (tm_3 _ (List.mem_of_getElem? (i := 227) rfl)) rfl
theorem wm_3_228 : Cond.static yL_hasLaw ∈ WA := wA (tm_3 _ (List.mem_of_getElem? (i := 228) rfl)) rfl
theorem wm_3_229 : Cond.code yL_hasLaw cL_hasLaw 1 (some .boolean) ∈ WA := wA (tm_3 _ (List.mem_of_getElem? (i := 229) rfl)) rfl
theorem wm_3_230 : Cond.methodLink RL 65 yL_tell ∈ WA := wA (tm_3 _ (List.mem_of_getElem? (i := 230) rfl)) rfl
theorem wm_3_231 : Cond.static yL_tell ∈ WA := wA (tm_3 _ (List.mem_of_getElem? (i := 231) rfl)) rfl
theorem wm_3_232 : Cond.code yL_tell cL_tell 4 (some .boolean) ∈ WA := wA (tm_3 _ (List.mem_of_getElem? (i := 232) rfl)) rfl
theorem wm_3_233 : Cond.methodLink RL 7 yX8_feed ∈ WA := wA (tm_3 _ (List.mem_of_getElem? (i := 233) rfl)) rfl
theorem wm_3_234 : Cond.instanceMethod yX8_feed ∈ WA := wA (tm_3 _ (List.mem_of_getElem? (i := 234) rfl)) rfl
theorem wm_3_235 : Cond.selects RX8 yX8_feed yX8_feed ∈ WA := wA (tm_3 _ (List.mem_of_getElem? (i := 235) rfl)) rfl
theorem wm_3_236 : Cond.code yX8_feed cX8_feed 2 (some .int) ∈ WA := wA (tm_3 _ (List.mem_of_getElem? (i := 236) rfl)) rfl
theorem wm_1_128 : Cond.fieldLink RX8 133 "OpenOrTake$Tape" "length" "I" ∈ WA := wA (tm_1 _ (List.mem_of_getElem? (i := 128) rfl)) rfl
theorem wm_3_237 : Cond.methodLink RX8 130 yX6_append ∈ WA := wA (tm_3 _ (List.mem_of_getElem? (i := 237) rfl)) rfl
theorem wm_3_238 : Cond.instanceMethod yX6_append ∈ WA := wA (tm_3 _ (List.mem_of_getElem? (i := 238) rfl)) rfl
theorem wm_3_239 : Cond.selects RX6 yX6_append yX6_append ∈ WA := wA (tm_3 _ (List.mem_of_getElem? (i := 239) rfl)) rfl
theorem wm_4_0 : Cond.code yX6_append cX6_append 2 (some .boolean) ∈ WA := wA (tm_4 _ (List.mem_of_getElem? (i := 0) rfl)) rfl
theorem wm_3_153 : Cond.methodLink RL 13 yX8_count ∈ WA := wA (tm_3 _ (List.mem_of_getElem? (i := 153) rfl)) rfl
theorem wm_3_154 : Cond.instanceMethod yX8_count ∈ WA := wA (tm_3 _ (List.mem_of_getElem? (i := 154) rfl)) rfl
theorem wm_3_155 : Cond.selects RX8 yX8_count yX8_count ∈ WA := wA (tm_3 _ (List.mem_of_getElem? (i := 155) rfl)) rfl
theorem wm_3_156 : Cond.code yX8_count cX8_count 2 (some .int) ∈ WA := wA (tm_3 _ (List.mem_of_getElem? (i := 156) rfl)) rfl
theorem wm_1_103 : Cond.fieldLink RX8 247 "OpenOrTake$Changes" "done" "I" ∈ WA := wA (tm_1 _ (List.mem_of_getElem? (i := 103) rfl)) rfl
theorem wm_2_5 : Cond.fieldLink RX8 317 "OpenOrTake$Bodies" "count" "I" ∈ WA := wA (tm_2 _ (List.mem_of_getElem? (i := 5) rfl)) rfl
theorem wm_2_8 : Cond.fieldLink RX8 320 "OpenOrTake$Bodies" "ran" "I" ∈ WA := wA (tm_2 _ (List.mem_of_getElem? (i := 8) rfl)) rfl
theorem wm_3_157 : Cond.methodLink RX8 314 yX2_countSafe ∈ WA := wA (tm_3 _ (List.mem_of_getElem? (i := 157) rfl)) rfl
theorem wm_3_158 : Cond.instanceMethod yX2_countSafe ∈ WA := wA (tm_3 _ (List.mem_of_getElem? (i := 158) rfl)) rfl
theorem wm_3_159 : Cond.selects RX2 yX2_countSafe yX2_countSafe ∈ WA := wA (tm_3 _ (List.mem_of_getElem? (i := 159) rfl)) rfl
theorem wm_3_160 : Cond.code yX2_countSafe cX2_countSafe 4 (some .int) ∈ WA := wA (tm_3 _ (List.mem_of_getElem? (i := 160) rfl)) rfl
theorem wm_1_61 : Cond.fieldLink RX2 57 "OpenOrTake$Party" "people" "I" ∈ WA := wA (tm_1 _ (List.mem_of_getElem? (i := 61) rfl)) rfl
theorem wm_2_149 : Cond.methodLink RX2 74 yX2_isSafe ∈ WA := wA (tm_2 _ (List.mem_of_getElem? (i := 149) rfl)) rfl
theorem wm_2_150 : Cond.instanceMethod yX2_isSafe ∈ WA := wA (tm_2 _ (List.mem_of_getElem? (i := 150) rfl)) rfl
theorem wm_2_151 : Cond.selects RX2 yX2_isSafe yX2_isSafe ∈ WA := wA (tm_2 _ (List.mem_of_getElem? (i := 151) rfl)) rfl
theorem wm_2_152 : Cond.code yX2_isSafe cX2_isSafe 3 (some .boolean) ∈ WA := wA (tm_2 _ (List.mem_of_getElem? (i := 152) rfl)) rfl
theorem wm_1_69 : Cond.fieldLink RX2 71 "OpenOrTake$Party" "most" "I" ∈ WA := wA (tm_1 _ (List.mem_of_getElem? (i := 69) rfl)) rfl
theorem wm_4_1 : Cond.methodLink RL 69 yX8_law ∈ WA := wA (tm_4 _ (List.mem_of_getElem? (i := 1) rfl)) rfl
theorem wm_4_2 : Cond.instanceMethod yX8_law ∈ WA := wA (tm_4 _ (List.mem_of_getElem? (i := 2) rfl)) rfl
theorem wm_4_3 : Cond.selects RX8 yX8_law yX8_law ∈ WA := wA (tm_4 _ (List.mem_of_getElem? (i := 3) rfl)) rfl
theorem wm_4_4 : Cond.code yX8_law cX8_law 2 (some .int) ∈ WA := wA (tm_4 _ (List.mem_of_getElem? (i := 4) rfl)) rfl
theorem wm_1_75 : Cond.fieldLink RX8 140 "OpenOrTake$Party" "law" "LOpenOrTake$Law;" ∈ WA := wA (tm_1 _ (List.mem_of_getElem? (i := 75) rfl)) rfl
theorem wm_4_5 : Cond.methodLink RX8 136 yX6_read ∈ WA := wA (tm_4 _ (List.mem_of_getElem? (i := 5) rfl)) rfl
theorem wm_4_6 : Cond.instanceMethod yX6_read ∈ WA := wA (tm_4 _ (List.mem_of_getElem? (i := 6) rfl)) rfl
theorem wm_4_7 : Cond.selects RX6 yX6_read yX6_read ∈ WA := wA (tm_4 _ (List.mem_of_getElem? (i := 7) rfl)) rfl
theorem wm_4_8 : Cond.code yX6_read cX6_read 2 (some .int) ∈ WA := wA (tm_4 _ (List.mem_of_getElem? (i := 8) rfl)) rfl
theorem wm_4_9 : Cond.methodLink RX6 32 yX3_clear ∈ WA := wA (tm_4 _ (List.mem_of_getElem? (i := 9) rfl)) rfl
theorem wm_4_10 : Cond.instanceMethod yX3_clear ∈ WA := wA (tm_4 _ (List.mem_of_getElem? (i := 10) rfl)) rfl
theorem wm_4_11 : Cond.selects RX3 yX3_clear yX3_clear ∈ WA := wA (tm_4 _ (List.mem_of_getElem? (i := 11) rfl)) rfl
theorem wm_4_12 : Cond.code yX3_clear cX3_clear 1 none ∈ WA := wA (tm_4 _ (List.mem_of_getElem? (i := 12) rfl)) rfl
theorem wm_4_13 : Cond.methodLink RX6 35 yX6_line ∈ WA := wA (tm_4 _ (List.mem_of_getElem? (i := 13) rfl)) rfl
theorem wm_4_15 : Cond.instanceMethod yX6_line ∈ WA := wA (tm_4 _ (List.mem_of_getElem? (i := 15) rfl)) rfl
theorem wm_p_17 : Cond.selects RX6 yX6_line yX6_line ∈ WA := wA (List.mem_append_left _ (List.mem_map.mpr ⟨(yX6_line, 5), lwp_17, rfl⟩)) rfl
theorem wm_4_16 : Cond.code yX6_line cX6_line 1 none ∈ WA := wA (tm_4 _ (List.mem_of_getElem? (i := 16) rfl)) rfl
theorem wm_4_17 : Cond.methodLink RX6 53 yX6_either ∈ WA := wA (tm_4 _ (List.mem_of_getElem? (i := 17) rfl)) rfl
theorem wm_4_19 : Cond.instanceMethod yX6_either ∈ WA := wA (tm_4 _ (List.mem_of_getElem? (i := 19) rfl)) rfl
theorem wm_p_18 : Cond.selects RX6 yX6_either yX6_either ∈ WA := wA (List.mem_append_left _ (List.mem_map.mpr ⟨(yX6_either, 5), lwp_18, rfl⟩)) rfl
theorem wm_4_20 : Cond.code yX6_either cX6_either 3 none ∈ WA := wA (tm_4 _ (List.mem_of_getElem? (i := 20) rfl)) rfl
theorem wm_4_21 : Cond.methodLink RX6 63 yX6_both ∈ WA := wA (tm_4 _ (List.mem_of_getElem? (i := 21) rfl)) rfl
theorem wm_4_23 : Cond.instanceMethod yX6_both ∈ WA := wA (tm_4 _ (List.mem_of_getElem? (i := 23) rfl)) rfl
theorem wm_p_19 : Cond.selects RX6 yX6_both yX6_both ∈ WA := wA (List.mem_append_left _ (List.mem_map.mpr ⟨(yX6_both, 5), lwp_19, rfl⟩)) rfl
theorem wm_4_67 : Cond.methodLink RX6 38 yX6_comes ∈ WA := wA (tm_4 _ (List.mem_of_getElem? (i := 67) rfl)) rfl
theorem wm_4_69 : Cond.instanceMethod yX6_comes ∈ WA := wA (tm_4 _ (List.mem_of_getElem? (i := 69) rfl)) rfl
theorem wm_p_28 : Cond.selects RX6 yX6_comes yX6_comes ∈ WA := wA (List.mem_append_left _ (List.mem_map.mpr ⟨(yX6_comes, 5), lwp_28, rfl⟩)) rfl
theorem wm_4_70 : Cond.code yX6_comes cX6_comes 3 (some .boolean) ∈ WA := wA (tm_4 _ (List.mem_of_getElem? (i := 70) rfl)) rfl
theorem wm_4_41 : Cond.methodLink RX6 45 yX6_ahead ∈ WA := wA (tm_4 _ (List.mem_of_getElem? (i := 41) rfl)) rfl
theorem wm_4_43 : Cond.instanceMethod yX6_ahead ∈ WA := wA (tm_4 _ (List.mem_of_getElem? (i := 43) rfl)) rfl
theorem wm_p_24 : Cond.selects RX6 yX6_ahead yX6_ahead ∈ WA := wA (List.mem_append_left _ (List.mem_map.mpr ⟨(yX6_ahead, 5), lwp_24, rfl⟩)) rfl
theorem wm_4_44 : Cond.code yX6_ahead cX6_ahead 1 (some .int) ∈ WA := wA (tm_4 _ (List.mem_of_getElem? (i := 44) rfl)) rfl
theorem wm_4_63 : Cond.methodLink RX6 66 yX6_write ∈ WA := wA (tm_4 _ (List.mem_of_getElem? (i := 63) rfl)) rfl
theorem wm_4_65 : Cond.instanceMethod yX6_write ∈ WA := wA (tm_4 _ (List.mem_of_getElem? (i := 65) rfl)) rfl
theorem wm_p_27 : Cond.selects RX6 yX6_write yX6_write ∈ WA := wA (List.mem_append_left _ (List.mem_map.mpr ⟨(yX6_write, 5), lwp_27, rfl⟩)) rfl
theorem wm_4_66 : Cond.code yX6_write cX6_write 2 none ∈ WA := wA (tm_4 _ (List.mem_of_getElem? (i := 66) rfl)) rfl
theorem wm_4_52 : Cond.methodLink RX6 49 yX3_write ∈ WA := wA (tm_4 _ (List.mem_of_getElem? (i := 52) rfl)) rfl
theorem wm_4_53 : Cond.instanceMethod yX3_write ∈ WA := wA (tm_4 _ (List.mem_of_getElem? (i := 53) rfl)) rfl
theorem wm_4_54 : Cond.selects RX3 yX3_write yX3_write ∈ WA := wA (tm_4 _ (List.mem_of_getElem? (i := 54) rfl)) rfl
theorem wm_4_55 : Cond.code yX3_write cX3_write 3 none ∈ WA := wA (tm_4 _ (List.mem_of_getElem? (i := 55) rfl)) rfl
theorem wm_4_24 : Cond.code yX6_both cX6_both 3 none ∈ WA := wA (tm_4 _ (List.mem_of_getElem? (i := 24) rfl)) rfl
theorem wm_4_25 : Cond.methodLink RX6 69 yX6_compared ∈ WA := wA (tm_4 _ (List.mem_of_getElem? (i := 25) rfl)) rfl
theorem wm_4_27 : Cond.instanceMethod yX6_compared ∈ WA := wA (tm_4 _ (List.mem_of_getElem? (i := 27) rfl)) rfl
theorem wm_p_20 : Cond.selects RX6 yX6_compared yX6_compared ∈ WA := wA (List.mem_append_left _ (List.mem_map.mpr ⟨(yX6_compared, 5), lwp_20, rfl⟩)) rfl
theorem wm_4_28 : Cond.code yX6_compared cX6_compared 3 none ∈ WA := wA (tm_4 _ (List.mem_of_getElem? (i := 28) rfl)) rfl
theorem wm_4_29 : Cond.methodLink RX6 72 yX6_sum ∈ WA := wA (tm_4 _ (List.mem_of_getElem? (i := 29) rfl)) rfl
theorem wm_4_31 : Cond.instanceMethod yX6_sum ∈ WA := wA (tm_4 _ (List.mem_of_getElem? (i := 31) rfl)) rfl
theorem wm_p_21 : Cond.selects RX6 yX6_sum yX6_sum ∈ WA := wA (List.mem_append_left _ (List.mem_map.mpr ⟨(yX6_sum, 5), lwp_21, rfl⟩)) rfl
theorem wm_4_40 : Cond.code yX6_operand cX6_operand 3 none ∈ WA := wA (tm_4 _ (List.mem_of_getElem? (i := 40) rfl)) rfl
theorem wm_4_45 : Cond.methodLink RX6 81 yX6_isDigit ∈ WA := wA (tm_4 _ (List.mem_of_getElem? (i := 45) rfl)) rfl
theorem wm_4_46 : Cond.static yX6_isDigit ∈ WA := wA (tm_4 _ (List.mem_of_getElem? (i := 46) rfl)) rfl
theorem wm_4_47 : Cond.code yX6_isDigit cX6_isDigit 1 (some .boolean) ∈ WA := wA (tm_4 _ (List.mem_of_getElem? (i := 47) rfl)) rfl
theorem wm_4_48 : Cond.methodLink RX6 85 yX6_number ∈ WA := wA (tm_4 _ (List.mem_of_getElem? (i := 48) rfl)) rfl
theorem wm_4_50 : Cond.instanceMethod yX6_number ∈ WA := wA (tm_4 _ (List.mem_of_getElem? (i := 50) rfl)) rfl
theorem wm_p_25 : Cond.selects RX6 yX6_number yX6_number ∈ WA := wA (List.mem_append_left _ (List.mem_map.mpr ⟨(yX6_number, 5), lwp_25, rfl⟩)) rfl
theorem wm_4_51 : Cond.code yX6_number cX6_number 3 none ∈ WA := wA (tm_4 _ (List.mem_of_getElem? (i := 51) rfl)) rfl
theorem wm_4_56 : Cond.methodLink RX6 88 yX3_nameOf ∈ WA := wA (tm_4 _ (List.mem_of_getElem? (i := 56) rfl)) rfl
theorem wm_4_57 : Cond.static yX3_nameOf ∈ WA := wA (tm_4 _ (List.mem_of_getElem? (i := 57) rfl)) rfl
theorem wm_4_58 : Cond.code yX3_nameOf cX3_nameOf 1 (some .int) ∈ WA := wA (tm_4 _ (List.mem_of_getElem? (i := 58) rfl)) rfl
theorem wm_4_59 : Cond.methodLink RX6 42 yX6_fail ∈ WA := wA (tm_4 _ (List.mem_of_getElem? (i := 59) rfl)) rfl
theorem wm_4_61 : Cond.instanceMethod yX6_fail ∈ WA := wA (tm_4 _ (List.mem_of_getElem? (i := 61) rfl)) rfl
theorem wm_p_26 : Cond.selects RX6 yX6_fail yX6_fail ∈ WA := wA (List.mem_append_left _ (List.mem_map.mpr ⟨(yX6_fail, 5), lwp_26, rfl⟩)) rfl
theorem wm_4_62 : Cond.code yX6_fail cX6_fail 1 none ∈ WA := wA (tm_4 _ (List.mem_of_getElem? (i := 62) rfl)) rfl
theorem wm_4_37 : Cond.methodLink RX6 78 yX6_operand ∈ WA := wA (tm_4 _ (List.mem_of_getElem? (i := 37) rfl)) rfl
theorem wm_4_39 : Cond.instanceMethod yX6_operand ∈ WA := wA (tm_4 _ (List.mem_of_getElem? (i := 39) rfl)) rfl
theorem wm_p_23 : Cond.selects RX6 yX6_operand yX6_operand ∈ WA := wA (List.mem_append_left _ (List.mem_map.mpr ⟨(yX6_operand, 5), lwp_23, rfl⟩)) rfl
theorem wm_4_36 : Cond.code yX6_product cX6_product 4 none ∈ WA := wA (tm_4 _ (List.mem_of_getElem? (i := 36) rfl)) rfl
theorem wm_4_32 : Cond.code yX6_sum cX6_sum 4 none ∈ WA := wA (tm_4 _ (List.mem_of_getElem? (i := 32) rfl)) rfl
theorem wm_4_33 : Cond.methodLink RX6 75 yX6_product ∈ WA := wA (tm_4 _ (List.mem_of_getElem? (i := 33) rfl)) rfl
theorem wm_4_35 : Cond.instanceMethod yX6_product ∈ WA := wA (tm_4 _ (List.mem_of_getElem? (i := 35) rfl)) rfl
theorem wm_p_22 : Cond.selects RX6 yX6_product yX6_product ∈ WA := wA (List.mem_append_left _ (List.mem_map.mpr ⟨(yX6_product, 5), lwp_22, rfl⟩)) rfl
theorem wm_4_71 : Cond.methodLink RX6 57 yX3_writeIf ∈ WA := wA (tm_4 _ (List.mem_of_getElem? (i := 71) rfl)) rfl
theorem wm_4_72 : Cond.instanceMethod yX3_writeIf ∈ WA := wA (tm_4 _ (List.mem_of_getElem? (i := 72) rfl)) rfl
theorem wm_4_73 : Cond.selects RX3 yX3_writeIf yX3_writeIf ∈ WA := wA (tm_4 _ (List.mem_of_getElem? (i := 73) rfl)) rfl
theorem wm_4_74 : Cond.code yX3_writeIf cX3_writeIf 1 none ∈ WA := wA (tm_4 _ (List.mem_of_getElem? (i := 74) rfl)) rfl
theorem wm_4_75 : Cond.methodLink RX3 32 yX3_write ∈ WA := wA (tm_4 _ (List.mem_of_getElem? (i := 75) rfl)) rfl
theorem wm_4_76 : Cond.methodLink RX6 60 yX3_writeEndOfLine ∈ WA := wA (tm_4 _ (List.mem_of_getElem? (i := 76) rfl)) rfl
theorem wm_4_77 : Cond.instanceMethod yX3_writeEndOfLine ∈ WA := wA (tm_4 _ (List.mem_of_getElem? (i := 77) rfl)) rfl
theorem wm_4_78 : Cond.selects RX3 yX3_writeEndOfLine yX3_writeEndOfLine ∈ WA := wA (tm_4 _ (List.mem_of_getElem? (i := 78) rfl)) rfl
theorem wm_4_79 : Cond.code yX3_writeEndOfLine cX3_writeEndOfLine 1 none ∈ WA := wA (tm_4 _ (List.mem_of_getElem? (i := 79) rfl)) rfl
theorem wm_4_80 : Cond.methodLink RX8 144 yX6_draftFor ∈ WA := wA (tm_4 _ (List.mem_of_getElem? (i := 80) rfl)) rfl
theorem wm_4_81 : Cond.instanceMethod yX6_draftFor ∈ WA := wA (tm_4 _ (List.mem_of_getElem? (i := 81) rfl)) rfl
theorem wm_4_82 : Cond.selects RX6 yX6_draftFor yX6_draftFor ∈ WA := wA (tm_4 _ (List.mem_of_getElem? (i := 82) rfl)) rfl
theorem wm_4_83 : Cond.code yX6_draftFor cX6_draftFor 3 (some (.object "OpenOrTake$Law")) ∈ WA := wA (tm_4 _ (List.mem_of_getElem? (i := 83) rfl)) rfl
theorem wm_3_126 : Cond.methodLink RL 138 yX8_row ∈ WA := wA (tm_3 _ (List.mem_of_getElem? (i := 126) rfl)) rfl
theorem wm_3_127 : Cond.instanceMethod yX8_row ∈ WA := wA (tm_3 _ (List.mem_of_getElem? (i := 127) rfl)) rfl
theorem wm_3_128 : Cond.selects RX8 yX8_row yX8_row ∈ WA := wA (tm_3 _ (List.mem_of_getElem? (i := 128) rfl)) rfl
theorem wm_3_129 : Cond.code yX8_row cX8_row 4 (some .int) ∈ WA := wA (tm_3 _ (List.mem_of_getElem? (i := 129) rfl)) rfl
theorem wm_3_130 : Cond.methodLink RX8 78 yX5_isShelf ∈ WA := wA (tm_3 _ (List.mem_of_getElem? (i := 130) rfl)) rfl
theorem wm_3_97 : Cond.instanceMethod yX5_isShelf ∈ WA := wA (tm_3 _ (List.mem_of_getElem? (i := 97) rfl)) rfl
theorem wm_3_98 : Cond.selects RX5 yX5_isShelf yX5_isShelf ∈ WA := wA (tm_3 _ (List.mem_of_getElem? (i := 98) rfl)) rfl
theorem wm_3_99 : Cond.code yX5_isShelf cX5_isShelf 2 (some .boolean) ∈ WA := wA (tm_3 _ (List.mem_of_getElem? (i := 99) rfl)) rfl
theorem wm_3_131 : Cond.methodLink RX8 275 yX5_holdRow ∈ WA := wA (tm_3 _ (List.mem_of_getElem? (i := 131) rfl)) rfl
theorem wm_3_132 : Cond.instanceMethod yX5_holdRow ∈ WA := wA (tm_3 _ (List.mem_of_getElem? (i := 132) rfl)) rfl
theorem wm_3_133 : Cond.selects RX5 yX5_holdRow yX5_holdRow ∈ WA := wA (tm_3 _ (List.mem_of_getElem? (i := 133) rfl)) rfl
theorem wm_3_134 : Cond.code yX5_holdRow cX5_holdRow 4 none ∈ WA := wA (tm_3 _ (List.mem_of_getElem? (i := 134) rfl)) rfl
theorem wm_3_135 : Cond.methodLink RX5 29 yJ7_fill_d0a16 ∈ WA := wA (tm_3 _ (List.mem_of_getElem? (i := 135) rfl)) rfl
theorem wm_3_136 : Cond.static yJ7_fill_d0a16 ∈ WA := wA (tm_3 _ (List.mem_of_getElem? (i := 136) rfl)) rfl
theorem wm_3_137 : Cond.code yJ7_fill_d0a16 cJ7_fill_d0a16 5 none ∈ WA := wA (tm_3 _ (List.mem_of_getElem? (i := 137) rfl)) rfl
theorem wm_2_202 : Cond.methodLink RL 141 yX8_evening ∈ WA := wA (tm_2 _ (List.mem_of_getElem? (i := 202) rfl)) rfl
theorem wm_2_203 : Cond.instanceMethod yX8_evening ∈ WA := wA (tm_2 _ (List.mem_of_getElem? (i := 203) rfl)) rfl
theorem wm_2_204 : Cond.selects RX8 yX8_evening yX8_evening ∈ WA := wA (tm_2 _ (List.mem_of_getElem? (i := 204) rfl)) rfl
theorem wm_2_205 : Cond.code yX8_evening cX8_evening 5 (some .int) ∈ WA := wA (tm_2 _ (List.mem_of_getElem? (i := 205) rfl)) rfl
theorem wm_1_173 : Cond.fieldLink RX8 183 "OpenOrTake$Evening" "turns" "I" ∈ WA := wA (tm_1 _ (List.mem_of_getElem? (i := 173) rfl)) rfl
theorem wm_2_206 : Cond.methodLink RX8 192 yX7_eveningBy ∈ WA := wA (tm_2 _ (List.mem_of_getElem? (i := 206) rfl)) rfl
theorem wm_2_207 : Cond.instanceMethod yX7_eveningBy ∈ WA := wA (tm_2 _ (List.mem_of_getElem? (i := 207) rfl)) rfl
theorem wm_2_208 : Cond.selects RX7 yX7_eveningBy yX7_eveningBy ∈ WA := wA (tm_2 _ (List.mem_of_getElem? (i := 208) rfl)) rfl
theorem wm_2_209 : Cond.code yX7_eveningBy cX7_eveningBy 3 (some (.object "OpenOrTake$Evening")) ∈ WA := wA (tm_2 _ (List.mem_of_getElem? (i := 209) rfl)) rfl
theorem wm_1_59 : Cond.fieldLink RX7 52 "OpenOrTake$Party" "people" "I" ∈ WA := wA (tm_1 _ (List.mem_of_getElem? (i := 59) rfl)) rfl
theorem wm_2_210 : Cond.methodLink RX7 48 yX2_beginBy ∈ WA := wA (tm_2 _ (List.mem_of_getElem? (i := 210) rfl)) rfl
theorem wm_2_211 : Cond.instanceMethod yX2_beginBy ∈ WA := wA (tm_2 _ (List.mem_of_getElem? (i := 211) rfl)) rfl
theorem wm_2_212 : Cond.selects RX2 yX2_beginBy yX2_beginBy ∈ WA := wA (tm_2 _ (List.mem_of_getElem? (i := 212) rfl)) rfl
theorem wm_2_213 : Cond.code yX2_beginBy cX2_beginBy 2 none ∈ WA := wA (tm_2 _ (List.mem_of_getElem? (i := 213) rfl)) rfl
theorem wm_2_214 : Cond.methodLink RX2 62 arraycopyName ∈ WA := wA (tm_2 _ (List.mem_of_getElem? (i := 214) rfl)) rfl
theorem wm_2_217 : Cond.methodLink RX2 68 yX2_wrapAll ∈ WA := wA (tm_2 _ (List.mem_of_getElem? (i := 217) rfl)) rfl
theorem wm_2_195 : Cond.instanceMethod yX2_wrapAll ∈ WA := wA (tm_2 _ (List.mem_of_getElem? (i := 195) rfl)) rfl
theorem wm_2_196 : Cond.selects RX2 yX2_wrapAll yX2_wrapAll ∈ WA := wA (tm_2 _ (List.mem_of_getElem? (i := 196) rfl)) rfl
theorem wm_2_197 : Cond.code yX2_wrapAll cX2_wrapAll 1 none ∈ WA := wA (tm_2 _ (List.mem_of_getElem? (i := 197) rfl)) rfl
theorem wm_2_218 : Cond.methodLink RX7 57 yX2_playTill ∈ WA := wA (tm_2 _ (List.mem_of_getElem? (i := 218) rfl)) rfl
theorem wm_2_119 : Cond.instanceMethod yX2_playTill ∈ WA := wA (tm_2 _ (List.mem_of_getElem? (i := 119) rfl)) rfl
theorem wm_2_120 : Cond.selects RX2 yX2_playTill yX2_playTill ∈ WA := wA (tm_2 _ (List.mem_of_getElem? (i := 120) rfl)) rfl
theorem wm_2_121 : Cond.code yX2_playTill cX2_playTill 7 (some .int) ∈ WA := wA (tm_2 _ (List.mem_of_getElem? (i := 121) rfl)) rfl
theorem wm_1_66 : Cond.fieldLink RX2 86 "OpenOrTake$Party" "way" "[I" ∈ WA := wA (tm_1 _ (List.mem_of_getElem? (i := 66) rfl)) rfl
theorem wm_2_122 : Cond.methodLink RX2 82 yX2_whoseTurn ∈ WA := wA (tm_2 _ (List.mem_of_getElem? (i := 122) rfl)) rfl
theorem wm_2_99 : Cond.instanceMethod yX2_whoseTurn ∈ WA := wA (tm_2 _ (List.mem_of_getElem? (i := 99) rfl)) rfl
theorem wm_2_100 : Cond.selects RX2 yX2_whoseTurn yX2_whoseTurn ∈ WA := wA (tm_2 _ (List.mem_of_getElem? (i := 100) rfl)) rfl
theorem wm_2_101 : Cond.code yX2_whoseTurn cX2_whoseTurn 2 (some .int) ∈ WA := wA (tm_2 _ (List.mem_of_getElem? (i := 101) rfl)) rfl
theorem wm_2_123 : Cond.methodLink RX2 89 yX2_byTheLaw ∈ WA := wA (tm_2 _ (List.mem_of_getElem? (i := 123) rfl)) rfl
theorem wm_2_125 : Cond.instanceMethod yX2_byTheLaw ∈ WA := wA (tm_2 _ (List.mem_of_getElem? (i := 125) rfl)) rfl
theorem wm_p_1 : Cond.selects RX2 yX2_byTheLaw yX2_byTheLaw ∈ WA := wA (List.mem_append_left _ (List.mem_map.mpr ⟨(yX2_byTheLaw, 11), lwp_1, rfl⟩)) rfl
theorem wm_2_126 : Cond.code yX2_byTheLaw cX2_byTheLaw 9 (some .int) ∈ WA := wA (tm_2 _ (List.mem_of_getElem? (i := 126) rfl)) rfl
theorem wm_1_76 : Cond.fieldLink RX2 119 "OpenOrTake$Party" "law" "LOpenOrTake$Law;" ∈ WA := wA (tm_1 _ (List.mem_of_getElem? (i := 76) rfl)) rfl
theorem wm_2_127 : Cond.methodLink RX2 110 yX2_guess ∈ WA := wA (tm_2 _ (List.mem_of_getElem? (i := 127) rfl)) rfl
theorem wm_2_129 : Cond.instanceMethod yX2_guess ∈ WA := wA (tm_2 _ (List.mem_of_getElem? (i := 129) rfl)) rfl
theorem wm_p_2 : Cond.selects RX2 yX2_guess yX2_guess ∈ WA := wA (List.mem_append_left _ (List.mem_map.mpr ⟨(yX2_guess, 11), lwp_2, rfl⟩)) rfl
theorem wm_2_130 : Cond.code yX2_guess cX2_guess 6 (some .int) ∈ WA := wA (tm_2 _ (List.mem_of_getElem? (i := 130) rfl)) rfl
theorem wm_2_131 : Cond.methodLink RX2 107 yX4_worthFor ∈ WA := wA (tm_2 _ (List.mem_of_getElem? (i := 131) rfl)) rfl
theorem wm_2_132 : Cond.instanceMethod yX4_worthFor ∈ WA := wA (tm_2 _ (List.mem_of_getElem? (i := 132) rfl)) rfl
theorem wm_2_133 : Cond.selects RX4 yX4_worthFor yX4_worthFor ∈ WA := wA (tm_2 _ (List.mem_of_getElem? (i := 133) rfl)) rfl
theorem wm_2_134 : Cond.code yX4_worthFor cX4_worthFor 4 (some .int) ∈ WA := wA (tm_2 _ (List.mem_of_getElem? (i := 134) rfl)) rfl
theorem wm_2_135 : Cond.methodLink RX2 123 yX3_number ∈ WA := wA (tm_2 _ (List.mem_of_getElem? (i := 135) rfl)) rfl
theorem wm_2_136 : Cond.instanceMethod yX3_number ∈ WA := wA (tm_2 _ (List.mem_of_getElem? (i := 136) rfl)) rfl
theorem wm_2_137 : Cond.selects RX3 yX3_number yX3_number ∈ WA := wA (tm_2 _ (List.mem_of_getElem? (i := 137) rfl)) rfl
theorem wm_2_138 : Cond.code yX3_number cX3_number 10 (some .int) ∈ WA := wA (tm_2 _ (List.mem_of_getElem? (i := 138) rfl)) rfl
theorem wm_2_142 : Cond.methodLink RX3 42 yX3_joined ∈ WA := wA (tm_2 _ (List.mem_of_getElem? (i := 142) rfl)) rfl
theorem wm_2_143 : Cond.static yX3_joined ∈ WA := wA (tm_2 _ (List.mem_of_getElem? (i := 143) rfl)) rfl
theorem wm_2_144 : Cond.code yX3_joined cX3_joined 3 (some .int) ∈ WA := wA (tm_2 _ (List.mem_of_getElem? (i := 144) rfl)) rfl
theorem wm_2_145 : Cond.methodLink RX2 113 yX2_mayRob ∈ WA := wA (tm_2 _ (List.mem_of_getElem? (i := 145) rfl)) rfl
theorem wm_2_146 : Cond.instanceMethod yX2_mayRob ∈ WA := wA (tm_2 _ (List.mem_of_getElem? (i := 146) rfl)) rfl
theorem wm_2_147 : Cond.selects RX2 yX2_mayRob yX2_mayRob ∈ WA := wA (tm_2 _ (List.mem_of_getElem? (i := 147) rfl)) rfl
theorem wm_2_148 : Cond.code yX2_mayRob cX2_mayRob 3 (some .boolean) ∈ WA := wA (tm_2 _ (List.mem_of_getElem? (i := 148) rfl)) rfl
theorem wm_2_153 : Cond.methodLink RX2 116 yX4_likeFor ∈ WA := wA (tm_2 _ (List.mem_of_getElem? (i := 153) rfl)) rfl
theorem wm_2_154 : Cond.instanceMethod yX4_likeFor ∈ WA := wA (tm_2 _ (List.mem_of_getElem? (i := 154) rfl)) rfl
theorem wm_2_155 : Cond.selects RX4 yX4_likeFor yX4_likeFor ∈ WA := wA (tm_2 _ (List.mem_of_getElem? (i := 155) rfl)) rfl
theorem wm_2_156 : Cond.code yX4_likeFor cX4_likeFor 4 (some .int) ∈ WA := wA (tm_2 _ (List.mem_of_getElem? (i := 156) rfl)) rfl
theorem wm_2_157 : Cond.methodLink RX2 93 yX2_fromWhomItLikesLeast ∈ WA := wA (tm_2 _ (List.mem_of_getElem? (i := 157) rfl)) rfl
theorem wm_2_159 : Cond.instanceMethod yX2_fromWhomItLikesLeast ∈ WA := wA (tm_2 _ (List.mem_of_getElem? (i := 159) rfl)) rfl
theorem wm_p_3 : Cond.selects RX2 yX2_fromWhomItLikesLeast yX2_fromWhomItLikesLeast ∈ WA := wA (List.mem_append_left _ (List.mem_map.mpr ⟨(yX2_fromWhomItLikesLeast, 11), lwp_3, rfl⟩)) rfl
theorem wm_2_160 : Cond.code yX2_fromWhomItLikesLeast cX2_fromWhomItLikesLeast 8 (some .int) ∈ WA := wA (tm_2 _ (List.mem_of_getElem? (i := 160) rfl)) rfl
theorem wm_2_161 : Cond.methodLink RX2 96 yX2_ofMostWorth ∈ WA := wA (tm_2 _ (List.mem_of_getElem? (i := 161) rfl)) rfl
theorem wm_2_163 : Cond.instanceMethod yX2_ofMostWorth ∈ WA := wA (tm_2 _ (List.mem_of_getElem? (i := 163) rfl)) rfl
theorem wm_p_4 : Cond.selects RX2 yX2_ofMostWorth yX2_ofMostWorth ∈ WA := wA (List.mem_append_left _ (List.mem_map.mpr ⟨(yX2_ofMostWorth, 11), lwp_4, rfl⟩)) rfl
theorem wm_2_164 : Cond.code yX2_ofMostWorth cX2_ofMostWorth 6 (some .int) ∈ WA := wA (tm_2 _ (List.mem_of_getElem? (i := 164) rfl)) rfl
theorem wm_2_165 : Cond.methodLink RX2 99 yX2_unwrap ∈ WA := wA (tm_2 _ (List.mem_of_getElem? (i := 165) rfl)) rfl
theorem wm_2_107 : Cond.instanceMethod yX2_unwrap ∈ WA := wA (tm_2 _ (List.mem_of_getElem? (i := 107) rfl)) rfl
theorem wm_2_108 : Cond.selects RX2 yX2_unwrap yX2_unwrap ∈ WA := wA (tm_2 _ (List.mem_of_getElem? (i := 108) rfl)) rfl
theorem wm_2_109 : Cond.code yX2_unwrap cX2_unwrap 3 (some .int) ∈ WA := wA (tm_2 _ (List.mem_of_getElem? (i := 109) rfl)) rfl
theorem wm_2_110 : Cond.methodLink RX2 78 yX2_give ∈ WA := wA (tm_2 _ (List.mem_of_getElem? (i := 110) rfl)) rfl
theorem wm_2_112 : Cond.instanceMethod yX2_give ∈ WA := wA (tm_2 _ (List.mem_of_getElem? (i := 112) rfl)) rfl
theorem wm_p_0 : Cond.selects RX2 yX2_give yX2_give ∈ WA := wA (List.mem_append_left _ (List.mem_map.mpr ⟨(yX2_give, 11), lwp_0, rfl⟩)) rfl
theorem wm_2_113 : Cond.code yX2_give cX2_give 3 none ∈ WA := wA (tm_2 _ (List.mem_of_getElem? (i := 113) rfl)) rfl
theorem wm_2_166 : Cond.methodLink RX2 103 yX2_rob ∈ WA := wA (tm_2 _ (List.mem_of_getElem? (i := 166) rfl)) rfl
theorem wm_2_167 : Cond.instanceMethod yX2_rob ∈ WA := wA (tm_2 _ (List.mem_of_getElem? (i := 167) rfl)) rfl
theorem wm_2_168 : Cond.selects RX2 yX2_rob yX2_rob ∈ WA := wA (tm_2 _ (List.mem_of_getElem? (i := 168) rfl)) rfl
theorem wm_2_169 : Cond.code yX2_rob cX2_rob 4 (some .int) ∈ WA := wA (tm_2 _ (List.mem_of_getElem? (i := 169) rfl)) rfl
theorem wm_2_219 : Cond.methodLink RX7 61 yX2_closeByLaw ∈ WA := wA (tm_2 _ (List.mem_of_getElem? (i := 219) rfl)) rfl
theorem wm_2_220 : Cond.instanceMethod yX2_closeByLaw ∈ WA := wA (tm_2 _ (List.mem_of_getElem? (i := 220) rfl)) rfl
theorem wm_2_221 : Cond.selects RX2 yX2_closeByLaw yX2_closeByLaw ∈ WA := wA (tm_2 _ (List.mem_of_getElem? (i := 221) rfl)) rfl
theorem wm_2_222 : Cond.code yX2_closeByLaw cX2_closeByLaw 2 none ∈ WA := wA (tm_2 _ (List.mem_of_getElem? (i := 222) rfl)) rfl
theorem wm_1_73 : Cond.fieldLink RX2 129 "OpenOrTake$Party" "again" "I" ∈ WA := wA (tm_1 _ (List.mem_of_getElem? (i := 73) rfl)) rfl
theorem wm_2_223 : Cond.methodLink RX2 132 yX2_hasEnded ∈ WA := wA (tm_2 _ (List.mem_of_getElem? (i := 223) rfl)) rfl
theorem wm_2_175 : Cond.instanceMethod yX2_hasEnded ∈ WA := wA (tm_2 _ (List.mem_of_getElem? (i := 175) rfl)) rfl
theorem wm_2_176 : Cond.selects RX2 yX2_hasEnded yX2_hasEnded ∈ WA := wA (tm_2 _ (List.mem_of_getElem? (i := 176) rfl)) rfl
theorem wm_2_177 : Cond.code yX2_hasEnded cX2_hasEnded 2 (some .boolean) ∈ WA := wA (tm_2 _ (List.mem_of_getElem? (i := 177) rfl)) rfl
theorem wm_2_178 : Cond.methodLink RX2 53 yX2_hasBegun ∈ WA := wA (tm_2 _ (List.mem_of_getElem? (i := 178) rfl)) rfl
theorem wm_2_224 : Cond.methodLink RX2 136 yX2_chooseOnceMore ∈ WA := wA (tm_2 _ (List.mem_of_getElem? (i := 224) rfl)) rfl
theorem wm_2_183 : Cond.instanceMethod yX2_chooseOnceMore ∈ WA := wA (tm_2 _ (List.mem_of_getElem? (i := 183) rfl)) rfl
theorem wm_2_184 : Cond.selects RX2 yX2_chooseOnceMore yX2_chooseOnceMore ∈ WA := wA (tm_2 _ (List.mem_of_getElem? (i := 184) rfl)) rfl
theorem wm_2_185 : Cond.code yX2_chooseOnceMore cX2_chooseOnceMore 7 none ∈ WA := wA (tm_2 _ (List.mem_of_getElem? (i := 185) rfl)) rfl
theorem wm_2_186 : Cond.methodLink RX2 140 yX2_exchange ∈ WA := wA (tm_2 _ (List.mem_of_getElem? (i := 186) rfl)) rfl
theorem wm_2_188 : Cond.instanceMethod yX2_exchange ∈ WA := wA (tm_2 _ (List.mem_of_getElem? (i := 188) rfl)) rfl
theorem wm_p_5 : Cond.selects RX2 yX2_exchange yX2_exchange ∈ WA := wA (List.mem_append_left _ (List.mem_map.mpr ⟨(yX2_exchange, 11), lwp_5, rfl⟩)) rfl
theorem wm_2_189 : Cond.code yX2_exchange cX2_exchange 5 none ∈ WA := wA (tm_2 _ (List.mem_of_getElem? (i := 189) rfl)) rfl
theorem wm_2_225 : Cond.methodLink RX8 196 yX2_worths ∈ WA := wA (tm_2 _ (List.mem_of_getElem? (i := 225) rfl)) rfl
theorem wm_2_226 : Cond.instanceMethod yX2_worths ∈ WA := wA (tm_2 _ (List.mem_of_getElem? (i := 226) rfl)) rfl
theorem wm_2_227 : Cond.selects RX2 yX2_worths yX2_worths ∈ WA := wA (tm_2 _ (List.mem_of_getElem? (i := 227) rfl)) rfl
theorem wm_2_228 : Cond.code yX2_worths cX2_worths 4 (some .int) ∈ WA := wA (tm_2 _ (List.mem_of_getElem? (i := 228) rfl)) rfl
theorem wm_3_138 : Cond.methodLink RL 144 yX8_put ∈ WA := wA (tm_3 _ (List.mem_of_getElem? (i := 138) rfl)) rfl
theorem wm_3_139 : Cond.instanceMethod yX8_put ∈ WA := wA (tm_3 _ (List.mem_of_getElem? (i := 139) rfl)) rfl
theorem wm_3_140 : Cond.selects RX8 yX8_put yX8_put ∈ WA := wA (tm_3 _ (List.mem_of_getElem? (i := 140) rfl)) rfl
theorem wm_3_141 : Cond.code yX8_put cX8_put 6 (some .int) ∈ WA := wA (tm_3 _ (List.mem_of_getElem? (i := 141) rfl)) rfl
theorem wm_2_35 : Cond.fieldLink RX8 226 "OpenOrTake$Shelves" "rows" "[[J" ∈ WA := wA (tm_2 _ (List.mem_of_getElem? (i := 35) rfl)) rfl
theorem wm_2_31 : Cond.fieldLink RX8 281 "OpenOrTake$Shelves" "sort" "[I" ∈ WA := wA (tm_2 _ (List.mem_of_getElem? (i := 31) rfl)) rfl
theorem wm_3_142 : Cond.methodLink RX8 278 yX5_refusalOfElement ∈ WA := wA (tm_3 _ (List.mem_of_getElem? (i := 142) rfl)) rfl
theorem wm_3_143 : Cond.instanceMethod yX5_refusalOfElement ∈ WA := wA (tm_3 _ (List.mem_of_getElem? (i := 143) rfl)) rfl
theorem wm_3_144 : Cond.selects RX5 yX5_refusalOfElement yX5_refusalOfElement ∈ WA := wA (tm_3 _ (List.mem_of_getElem? (i := 144) rfl)) rfl
theorem wm_3_145 : Cond.code yX5_refusalOfElement cX5_refusalOfElement 3 (some .int) ∈ WA := wA (tm_3 _ (List.mem_of_getElem? (i := 145) rfl)) rfl
theorem wm_3_96 : Cond.methodLink RX5 32 yX5_isShelf ∈ WA := wA (tm_3 _ (List.mem_of_getElem? (i := 96) rfl)) rfl
theorem wm_3_100 : Cond.methodLink RX5 36 yX5_isEmpty ∈ WA := wA (tm_3 _ (List.mem_of_getElem? (i := 100) rfl)) rfl
theorem wm_3_101 : Cond.instanceMethod yX5_isEmpty ∈ WA := wA (tm_3 _ (List.mem_of_getElem? (i := 101) rfl)) rfl
theorem wm_3_102 : Cond.selects RX5 yX5_isEmpty yX5_isEmpty ∈ WA := wA (tm_3 _ (List.mem_of_getElem? (i := 102) rfl)) rfl
theorem wm_3_103 : Cond.code yX5_isEmpty cX5_isEmpty 2 (some .boolean) ∈ WA := wA (tm_3 _ (List.mem_of_getElem? (i := 103) rfl)) rfl
theorem wm_3_146 : Cond.methodLink RX5 39 yX5_isRow ∈ WA := wA (tm_3 _ (List.mem_of_getElem? (i := 146) rfl)) rfl
theorem wm_3_147 : Cond.instanceMethod yX5_isRow ∈ WA := wA (tm_3 _ (List.mem_of_getElem? (i := 147) rfl)) rfl
theorem wm_3_148 : Cond.selects RX5 yX5_isRow yX5_isRow ∈ WA := wA (tm_3 _ (List.mem_of_getElem? (i := 148) rfl)) rfl
theorem wm_3_149 : Cond.code yX5_isRow cX5_isRow 2 (some .boolean) ∈ WA := wA (tm_3 _ (List.mem_of_getElem? (i := 149) rfl)) rfl
theorem wm_3_150 : Cond.methodLink RX8 284 yX5_lowestBits ∈ WA := wA (tm_3 _ (List.mem_of_getElem? (i := 150) rfl)) rfl
theorem wm_3_151 : Cond.static yX5_lowestBits ∈ WA := wA (tm_3 _ (List.mem_of_getElem? (i := 151) rfl)) rfl
theorem wm_3_152 : Cond.code yX5_lowestBits cX5_lowestBits 3 (some .long) ∈ WA := wA (tm_3 _ (List.mem_of_getElem? (i := 152) rfl)) rfl
theorem wm_3_19 : Cond.methodLink RL 148 yX8_best ∈ WA := wA (tm_3 _ (List.mem_of_getElem? (i := 19) rfl)) rfl
theorem wm_3_20 : Cond.instanceMethod yX8_best ∈ WA := wA (tm_3 _ (List.mem_of_getElem? (i := 20) rfl)) rfl
theorem wm_3_21 : Cond.selects RX8 yX8_best yX8_best ∈ WA := wA (tm_3 _ (List.mem_of_getElem? (i := 21) rfl)) rfl
theorem wm_3_22 : Cond.code yX8_best cX8_best 2 (some .int) ∈ WA := wA (tm_3 _ (List.mem_of_getElem? (i := 22) rfl)) rfl
theorem wm_3_23 : Cond.methodLink RX8 206 yX7_bestParting ∈ WA := wA (tm_3 _ (List.mem_of_getElem? (i := 23) rfl)) rfl
theorem wm_3_24 : Cond.instanceMethod yX7_bestParting ∈ WA := wA (tm_3 _ (List.mem_of_getElem? (i := 24) rfl)) rfl
theorem wm_3_25 : Cond.selects RX7 yX7_bestParting yX7_bestParting ∈ WA := wA (tm_3 _ (List.mem_of_getElem? (i := 25) rfl)) rfl
theorem wm_3_26 : Cond.code yX7_bestParting cX7_bestParting 5 (some .int) ∈ WA := wA (tm_3 _ (List.mem_of_getElem? (i := 26) rfl)) rfl
theorem wm_3_27 : Cond.methodLink RX7 113 yX7_fillMostBehind ∈ WA := wA (tm_3 _ (List.mem_of_getElem? (i := 27) rfl)) rfl
theorem wm_3_29 : Cond.instanceMethod yX7_fillMostBehind ∈ WA := wA (tm_3 _ (List.mem_of_getElem? (i := 29) rfl)) rfl
theorem wm_p_9 : Cond.selects RX7 yX7_fillMostBehind yX7_fillMostBehind ∈ WA := wA (List.mem_append_left _ (List.mem_map.mpr ⟨(yX7_fillMostBehind, 9), lwp_9, rfl⟩)) rfl
theorem wm_3_30 : Cond.code yX7_fillMostBehind cX7_fillMostBehind 6 none ∈ WA := wA (tm_3 _ (List.mem_of_getElem? (i := 30) rfl)) rfl
theorem wm_3_31 : Cond.methodLink RX7 119 yJ6_bitCount_0f7a4 ∈ WA := wA (tm_3 _ (List.mem_of_getElem? (i := 31) rfl)) rfl
theorem wm_3_32 : Cond.static yJ6_bitCount_0f7a4 ∈ WA := wA (tm_3 _ (List.mem_of_getElem? (i := 32) rfl)) rfl
theorem wm_1_13 : Cond.initialized RJ6 ∈ WA := wA (tm_1 _ (List.mem_of_getElem? (i := 13) rfl)) rfl
theorem wm_3_33 : Cond.code yJ6_bitCount_0f7a4 cJ6_bitCount_0f7a4 1 (some .int) ∈ WA := wA (tm_3 _ (List.mem_of_getElem? (i := 33) rfl)) rfl
theorem wm_3_34 : Cond.constant RJ6 265 (1431655765) ∈ WA := wA (tm_3 _ (List.mem_of_getElem? (i := 34) rfl)) rfl
theorem wm_3_35 : Cond.constant RJ6 266 (858993459) ∈ WA := wA (tm_3 _ (List.mem_of_getElem? (i := 35) rfl)) rfl
theorem wm_3_36 : Cond.constant RJ6 267 (252645135) ∈ WA := wA (tm_3 _ (List.mem_of_getElem? (i := 36) rfl)) rfl
theorem wm_3_37 : Cond.methodLink RX7 124 yX7_worthWithAllBehind ∈ WA := wA (tm_3 _ (List.mem_of_getElem? (i := 37) rfl)) rfl
theorem wm_3_39 : Cond.instanceMethod yX7_worthWithAllBehind ∈ WA := wA (tm_3 _ (List.mem_of_getElem? (i := 39) rfl)) rfl
theorem wm_p_10 : Cond.selects RX7 yX7_worthWithAllBehind yX7_worthWithAllBehind ∈ WA := wA (List.mem_append_left _ (List.mem_map.mpr ⟨(yX7_worthWithAllBehind, 9), lwp_10, rfl⟩)) rfl
theorem wm_3_40 : Cond.code yX7_worthWithAllBehind cX7_worthWithAllBehind 4 (some .int) ∈ WA := wA (tm_3 _ (List.mem_of_getElem? (i := 40) rfl)) rfl
theorem wm_3_18 : Cond.methodLink RX7 110 yX4_worthFor ∈ WA := wA (tm_3 _ (List.mem_of_getElem? (i := 18) rfl)) rfl
theorem wm_3_42 : Cond.methodLink RX7 116 yX7_firstBest ∈ WA := wA (tm_3 _ (List.mem_of_getElem? (i := 42) rfl)) rfl
theorem wm_3_44 : Cond.instanceMethod yX7_firstBest ∈ WA := wA (tm_3 _ (List.mem_of_getElem? (i := 44) rfl)) rfl
theorem wm_p_11 : Cond.selects RX7 yX7_firstBest yX7_firstBest ∈ WA := wA (List.mem_append_left _ (List.mem_map.mpr ⟨(yX7_firstBest, 9), lwp_11, rfl⟩)) rfl
theorem wm_3_45 : Cond.code yX7_firstBest cX7_firstBest 4 (some .int) ∈ WA := wA (tm_3 _ (List.mem_of_getElem? (i := 45) rfl)) rfl
theorem wm_3_88 : Cond.methodLink RL 151 yX8_judge ∈ WA := wA (tm_3 _ (List.mem_of_getElem? (i := 88) rfl)) rfl
theorem wm_3_89 : Cond.instanceMethod yX8_judge ∈ WA := wA (tm_3 _ (List.mem_of_getElem? (i := 89) rfl)) rfl
theorem wm_3_90 : Cond.selects RX8 yX8_judge yX8_judge ∈ WA := wA (tm_3 _ (List.mem_of_getElem? (i := 90) rfl)) rfl
theorem wm_3_91 : Cond.code yX8_judge cX8_judge 3 (some .int) ∈ WA := wA (tm_3 _ (List.mem_of_getElem? (i := 91) rfl)) rfl
theorem wm_2_33 : Cond.fieldLink RX8 230 "OpenOrTake$Shelves" "size" "[I" ∈ WA := wA (tm_2 _ (List.mem_of_getElem? (i := 33) rfl)) rfl
theorem wm_3_92 : Cond.methodLink RX8 82 yX5_refusalOfBytes ∈ WA := wA (tm_3 _ (List.mem_of_getElem? (i := 92) rfl)) rfl
theorem wm_3_93 : Cond.instanceMethod yX5_refusalOfBytes ∈ WA := wA (tm_3 _ (List.mem_of_getElem? (i := 93) rfl)) rfl
theorem wm_3_94 : Cond.selects RX5 yX5_refusalOfBytes yX5_refusalOfBytes ∈ WA := wA (tm_3 _ (List.mem_of_getElem? (i := 94) rfl)) rfl
theorem wm_3_95 : Cond.code yX5_refusalOfBytes cX5_refusalOfBytes 2 (some .int) ∈ WA := wA (tm_3 _ (List.mem_of_getElem? (i := 95) rfl)) rfl
theorem wm_3_104 : Cond.methodLink RX8 233 yX7_hear ∈ WA := wA (tm_3 _ (List.mem_of_getElem? (i := 104) rfl)) rfl
theorem wm_3_105 : Cond.instanceMethod yX7_hear ∈ WA := wA (tm_3 _ (List.mem_of_getElem? (i := 105) rfl)) rfl
theorem wm_3_106 : Cond.selects RX7 yX7_hear yX7_hear ∈ WA := wA (tm_3 _ (List.mem_of_getElem? (i := 106) rfl)) rfl
theorem wm_3_107 : Cond.code yX7_hear cX7_hear 3 none ∈ WA := wA (tm_3 _ (List.mem_of_getElem? (i := 107) rfl)) rfl
theorem wm_3_108 : Cond.methodLink RX8 237 yX7_firstUnlikeTold ∈ WA := wA (tm_3 _ (List.mem_of_getElem? (i := 108) rfl)) rfl
theorem wm_3_109 : Cond.instanceMethod yX7_firstUnlikeTold ∈ WA := wA (tm_3 _ (List.mem_of_getElem? (i := 109) rfl)) rfl
theorem wm_3_110 : Cond.selects RX7 yX7_firstUnlikeTold yX7_firstUnlikeTold ∈ WA := wA (tm_3 _ (List.mem_of_getElem? (i := 110) rfl)) rfl
theorem wm_3_111 : Cond.code yX7_firstUnlikeTold cX7_firstUnlikeTold 3 (some .int) ∈ WA := wA (tm_3 _ (List.mem_of_getElem? (i := 111) rfl)) rfl
theorem wm_1_154 : Cond.fieldLink RX7 73 "OpenOrTake$Evening" "has" "[I" ∈ WA := wA (tm_1 _ (List.mem_of_getElem? (i := 154) rfl)) rfl
theorem wm_3_112 : Cond.methodLink RL 154 yX8_lots ∈ WA := wA (tm_3 _ (List.mem_of_getElem? (i := 112) rfl)) rfl
theorem wm_3_113 : Cond.instanceMethod yX8_lots ∈ WA := wA (tm_3 _ (List.mem_of_getElem? (i := 113) rfl)) rfl
theorem wm_3_114 : Cond.selects RX8 yX8_lots yX8_lots ∈ WA := wA (tm_3 _ (List.mem_of_getElem? (i := 114) rfl)) rfl
theorem wm_3_115 : Cond.code yX8_lots cX8_lots 3 (some .int) ∈ WA := wA (tm_3 _ (List.mem_of_getElem? (i := 115) rfl)) rfl
theorem wm_3_116 : Cond.methodLink RX8 241 yX7_lotsAsTold ∈ WA := wA (tm_3 _ (List.mem_of_getElem? (i := 116) rfl)) rfl
theorem wm_3_117 : Cond.instanceMethod yX7_lotsAsTold ∈ WA := wA (tm_3 _ (List.mem_of_getElem? (i := 117) rfl)) rfl
theorem wm_3_118 : Cond.selects RX7 yX7_lotsAsTold yX7_lotsAsTold ∈ WA := wA (tm_3 _ (List.mem_of_getElem? (i := 118) rfl)) rfl
theorem wm_3_119 : Cond.code yX7_lotsAsTold cX7_lotsAsTold 1 (some .int) ∈ WA := wA (tm_3 _ (List.mem_of_getElem? (i := 119) rfl)) rfl
theorem wm_3_120 : Cond.methodLink RX7 161 yX2_wrapAll ∈ WA := wA (tm_3 _ (List.mem_of_getElem? (i := 120) rfl)) rfl
theorem wm_3_121 : Cond.methodLink RX7 164 yX7_lotsBehind ∈ WA := wA (tm_3 _ (List.mem_of_getElem? (i := 121) rfl)) rfl
theorem wm_3_123 : Cond.instanceMethod yX7_lotsBehind ∈ WA := wA (tm_3 _ (List.mem_of_getElem? (i := 123) rfl)) rfl
theorem wm_p_14 : Cond.selects RX7 yX7_lotsBehind yX7_lotsBehind ∈ WA := wA (List.mem_append_left _ (List.mem_map.mpr ⟨(yX7_lotsBehind, 9), lwp_14, rfl⟩)) rfl
theorem wm_3_124 : Cond.code yX7_lotsBehind cX7_lotsBehind 7 (some .int) ∈ WA := wA (tm_3 _ (List.mem_of_getElem? (i := 124) rfl)) rfl
theorem wm_1_152 : Cond.fieldLink RX7 171 "OpenOrTake$Evening" "lot" "[I" ∈ WA := wA (tm_1 _ (List.mem_of_getElem? (i := 152) rfl)) rfl
theorem wm_3_125 : Cond.methodLink RX7 167 yX7_firstUnlikeTold ∈ WA := wA (tm_3 _ (List.mem_of_getElem? (i := 125) rfl)) rfl
theorem wm_3_3 : Cond.methodLink RX7 85 yX2_become ∈ WA := wA (tm_3 _ (List.mem_of_getElem? (i := 3) rfl)) rfl
theorem wm_3_4 : Cond.instanceMethod yX2_become ∈ WA := wA (tm_3 _ (List.mem_of_getElem? (i := 4) rfl)) rfl
theorem wm_3_5 : Cond.selects RX2 yX2_become yX2_become ∈ WA := wA (tm_3 _ (List.mem_of_getElem? (i := 5) rfl)) rfl
theorem wm_3_6 : Cond.code yX2_become cX2_become 2 none ∈ WA := wA (tm_3 _ (List.mem_of_getElem? (i := 6) rfl)) rfl
theorem wm_3_46 : Cond.methodLink RL 157 yX8_pairs ∈ WA := wA (tm_3 _ (List.mem_of_getElem? (i := 46) rfl)) rfl
theorem wm_3_47 : Cond.instanceMethod yX8_pairs ∈ WA := wA (tm_3 _ (List.mem_of_getElem? (i := 47) rfl)) rfl
theorem wm_3_48 : Cond.selects RX8 yX8_pairs yX8_pairs ∈ WA := wA (tm_3 _ (List.mem_of_getElem? (i := 48) rfl)) rfl
theorem wm_3_49 : Cond.code yX8_pairs cX8_pairs 1 (some .int) ∈ WA := wA (tm_3 _ (List.mem_of_getElem? (i := 49) rfl)) rfl
theorem wm_3_50 : Cond.methodLink RX8 209 yX7_pairsWhoWouldChange ∈ WA := wA (tm_3 _ (List.mem_of_getElem? (i := 50) rfl)) rfl
theorem wm_3_51 : Cond.instanceMethod yX7_pairsWhoWouldChange ∈ WA := wA (tm_3 _ (List.mem_of_getElem? (i := 51) rfl)) rfl
theorem wm_3_52 : Cond.selects RX7 yX7_pairsWhoWouldChange yX7_pairsWhoWouldChange ∈ WA := wA (tm_3 _ (List.mem_of_getElem? (i := 52) rfl)) rfl
theorem wm_3_53 : Cond.code yX7_pairsWhoWouldChange cX7_pairsWhoWouldChange 6 (some .int) ∈ WA := wA (tm_3 _ (List.mem_of_getElem? (i := 53) rfl)) rfl
theorem wm_3_54 : Cond.methodLink RX7 133 yX7_eveningBy ∈ WA := wA (tm_3 _ (List.mem_of_getElem? (i := 54) rfl)) rfl
theorem wm_3_55 : Cond.methodLink RX7 137 yX7_envies ∈ WA := wA (tm_3 _ (List.mem_of_getElem? (i := 55) rfl)) rfl
theorem wm_3_57 : Cond.instanceMethod yX7_envies ∈ WA := wA (tm_3 _ (List.mem_of_getElem? (i := 57) rfl)) rfl
theorem wm_p_12 : Cond.selects RX7 yX7_envies yX7_envies ∈ WA := wA (List.mem_append_left _ (List.mem_map.mpr ⟨(yX7_envies, 9), lwp_12, rfl⟩)) rfl
theorem wm_3_58 : Cond.code yX7_envies cX7_envies 4 (some .boolean) ∈ WA := wA (tm_3 _ (List.mem_of_getElem? (i := 58) rfl)) rfl
theorem wm_3_59 : Cond.methodLink RL 160 yX8_face ∈ WA := wA (tm_3 _ (List.mem_of_getElem? (i := 59) rfl)) rfl
theorem wm_3_60 : Cond.instanceMethod yX8_face ∈ WA := wA (tm_3 _ (List.mem_of_getElem? (i := 60) rfl)) rfl
theorem wm_3_61 : Cond.selects RX8 yX8_face yX8_face ∈ WA := wA (tm_3 _ (List.mem_of_getElem? (i := 61) rfl)) rfl
theorem wm_3_62 : Cond.code yX8_face cX8_face 2 (some .int) ∈ WA := wA (tm_3 _ (List.mem_of_getElem? (i := 62) rfl)) rfl
theorem wm_3_63 : Cond.methodLink RX8 213 yX7_leastFace ∈ WA := wA (tm_3 _ (List.mem_of_getElem? (i := 63) rfl)) rfl
theorem wm_3_64 : Cond.instanceMethod yX7_leastFace ∈ WA := wA (tm_3 _ (List.mem_of_getElem? (i := 64) rfl)) rfl
theorem wm_3_65 : Cond.selects RX7 yX7_leastFace yX7_leastFace ∈ WA := wA (tm_3 _ (List.mem_of_getElem? (i := 65) rfl)) rfl
theorem wm_3_66 : Cond.code yX7_leastFace cX7_leastFace 5 (some .int) ∈ WA := wA (tm_3 _ (List.mem_of_getElem? (i := 66) rfl)) rfl
theorem wm_1_63 : Cond.fieldLink RX7 141 "OpenOrTake$Party" "worth" "[I" ∈ WA := wA (tm_1 _ (List.mem_of_getElem? (i := 63) rfl)) rfl
theorem wm_1_159 : Cond.fieldLink RX7 148 "OpenOrTake$Evening" "taken" "[I" ∈ WA := wA (tm_1 _ (List.mem_of_getElem? (i := 159) rfl)) rfl
theorem wm_3_67 : Cond.methodLink RX7 144 yX7_lessen ∈ WA := wA (tm_3 _ (List.mem_of_getElem? (i := 67) rfl)) rfl
theorem wm_3_69 : Cond.instanceMethod yX7_lessen ∈ WA := wA (tm_3 _ (List.mem_of_getElem? (i := 69) rfl)) rfl
theorem wm_p_13 : Cond.selects RX7 yX7_lessen yX7_lessen ∈ WA := wA (List.mem_append_left _ (List.mem_map.mpr ⟨(yX7_lessen, 9), lwp_13, rfl⟩)) rfl
theorem wm_3_70 : Cond.code yX7_lessen cX7_lessen 4 none ∈ WA := wA (tm_3 _ (List.mem_of_getElem? (i := 70) rfl)) rfl
theorem wm_2_229 : Cond.methodLink RL 163 yX8_exact ∈ WA := wA (tm_2 _ (List.mem_of_getElem? (i := 229) rfl)) rfl
theorem wm_2_230 : Cond.instanceMethod yX8_exact ∈ WA := wA (tm_2 _ (List.mem_of_getElem? (i := 230) rfl)) rfl
theorem wm_2_231 : Cond.selects RX8 yX8_exact yX8_exact ∈ WA := wA (tm_2 _ (List.mem_of_getElem? (i := 231) rfl)) rfl
theorem wm_2_232 : Cond.code yX8_exact cX8_exact 2 (some .int) ∈ WA := wA (tm_2 _ (List.mem_of_getElem? (i := 232) rfl)) rfl
theorem wm_1_70 : Cond.fieldLink RX8 199 "OpenOrTake$Party" "most" "I" ∈ WA := wA (tm_1 _ (List.mem_of_getElem? (i := 70) rfl)) rfl
theorem wm_2_233 : Cond.methodLink RX8 202 yX7_eachForItself ∈ WA := wA (tm_2 _ (List.mem_of_getElem? (i := 233) rfl)) rfl
theorem wm_2_234 : Cond.instanceMethod yX7_eachForItself ∈ WA := wA (tm_2 _ (List.mem_of_getElem? (i := 234) rfl)) rfl
theorem wm_2_235 : Cond.selects RX7 yX7_eachForItself yX7_eachForItself ∈ WA := wA (tm_2 _ (List.mem_of_getElem? (i := 235) rfl)) rfl
theorem wm_2_236 : Cond.code yX7_eachForItself cX7_eachForItself 3 (some .int) ∈ WA := wA (tm_2 _ (List.mem_of_getElem? (i := 236) rfl)) rfl
theorem wm_2_237 : Cond.methodLink RX7 65 yX7_lookAhead ∈ WA := wA (tm_2 _ (List.mem_of_getElem? (i := 237) rfl)) rfl
theorem wm_2_239 : Cond.instanceMethod yX7_lookAhead ∈ WA := wA (tm_2 _ (List.mem_of_getElem? (i := 239) rfl)) rfl
theorem wm_p_6 : Cond.selects RX7 yX7_lookAhead yX7_lookAhead ∈ WA := wA (List.mem_append_left _ (List.mem_map.mpr ⟨(yX7_lookAhead, 9), lwp_6, rfl⟩)) rfl
theorem wm_3_0 : Cond.code yX7_lookAhead cX7_lookAhead 6 none ∈ WA := wA (tm_3 _ (List.mem_of_getElem? (i := 0) rfl)) rfl
theorem wm_3_2 : Cond.methodLink RX7 76 arraycopyName ∈ WA := wA (tm_3 _ (List.mem_of_getElem? (i := 2) rfl)) rfl
theorem wm_1_172 : Cond.fieldLink RX7 82 "OpenOrTake$Evening" "turns" "I" ∈ WA := wA (tm_1 _ (List.mem_of_getElem? (i := 172) rfl)) rfl
theorem wm_1_161 : Cond.fieldLink RX7 96 "OpenOrTake$Evening" "opened" "I" ∈ WA := wA (tm_1 _ (List.mem_of_getElem? (i := 161) rfl)) rfl
theorem wm_3_1 : Cond.methodLink RX7 69 yX2_whoseTurn ∈ WA := wA (tm_3 _ (List.mem_of_getElem? (i := 1) rfl)) rfl
theorem wm_3_7 : Cond.methodLink RX7 89 yX2_unwrap ∈ WA := wA (tm_3 _ (List.mem_of_getElem? (i := 7) rfl)) rfl
theorem wm_3_8 : Cond.methodLink RX7 93 yX7_comeTo ∈ WA := wA (tm_3 _ (List.mem_of_getElem? (i := 8) rfl)) rfl
theorem wm_3_10 : Cond.instanceMethod yX7_comeTo ∈ WA := wA (tm_3 _ (List.mem_of_getElem? (i := 10) rfl)) rfl
theorem wm_p_7 : Cond.selects RX7 yX7_comeTo yX7_comeTo ∈ WA := wA (List.mem_append_left _ (List.mem_map.mpr ⟨(yX7_comeTo, 9), lwp_7, rfl⟩)) rfl
theorem wm_3_11 : Cond.code yX7_comeTo cX7_comeTo 2 none ∈ WA := wA (tm_3 _ (List.mem_of_getElem? (i := 11) rfl)) rfl
theorem wm_3_12 : Cond.methodLink RX7 99 yX2_mayRob ∈ WA := wA (tm_3 _ (List.mem_of_getElem? (i := 12) rfl)) rfl
theorem wm_3_13 : Cond.methodLink RX7 103 yX2_rob ∈ WA := wA (tm_3 _ (List.mem_of_getElem? (i := 13) rfl)) rfl
theorem wm_3_14 : Cond.methodLink RX7 107 yX7_worthAtEnd ∈ WA := wA (tm_3 _ (List.mem_of_getElem? (i := 14) rfl)) rfl
theorem wm_3_16 : Cond.instanceMethod yX7_worthAtEnd ∈ WA := wA (tm_3 _ (List.mem_of_getElem? (i := 16) rfl)) rfl
theorem wm_p_8 : Cond.selects RX7 yX7_worthAtEnd yX7_worthAtEnd ∈ WA := wA (List.mem_append_left _ (List.mem_map.mpr ⟨(yX7_worthAtEnd, 9), lwp_8, rfl⟩)) rfl
theorem wm_3_17 : Cond.code yX7_worthAtEnd cX7_worthAtEnd 3 (some .int) ∈ WA := wA (tm_3 _ (List.mem_of_getElem? (i := 17) rfl)) rfl
theorem wm_3_71 : Cond.methodLink RL 166 yX8_numbers ∈ WA := wA (tm_3 _ (List.mem_of_getElem? (i := 71) rfl)) rfl
theorem wm_3_72 : Cond.instanceMethod yX8_numbers ∈ WA := wA (tm_3 _ (List.mem_of_getElem? (i := 72) rfl)) rfl
theorem wm_3_73 : Cond.selects RX8 yX8_numbers yX8_numbers ∈ WA := wA (tm_3 _ (List.mem_of_getElem? (i := 73) rfl)) rfl
theorem wm_3_74 : Cond.code yX8_numbers cX8_numbers 4 (some .int) ∈ WA := wA (tm_3 _ (List.mem_of_getElem? (i := 74) rfl)) rfl
theorem wm_1_215 : Cond.fieldLink RX8 223 "OpenOrTake$Thought" "sums" "[I" ∈ WA := wA (tm_1 _ (List.mem_of_getElem? (i := 215) rfl)) rfl
theorem wm_3_75 : Cond.methodLink RX8 216 yX7_drawNumbers ∈ WA := wA (tm_3 _ (List.mem_of_getElem? (i := 75) rfl)) rfl
theorem wm_3_76 : Cond.instanceMethod yX7_drawNumbers ∈ WA := wA (tm_3 _ (List.mem_of_getElem? (i := 76) rfl)) rfl
theorem wm_3_77 : Cond.selects RX7 yX7_drawNumbers yX7_drawNumbers ∈ WA := wA (tm_3 _ (List.mem_of_getElem? (i := 77) rfl)) rfl
theorem wm_3_78 : Cond.code yX7_drawNumbers cX7_drawNumbers 9 none ∈ WA := wA (tm_3 _ (List.mem_of_getElem? (i := 78) rfl)) rfl
theorem wm_3_80 : Cond.constant RX7 157 (1103515245) ∈ WA := wA (tm_3 _ (List.mem_of_getElem? (i := 80) rfl)) rfl
theorem wm_3_79 : Cond.methodLink RX7 151 yJ7_fill_53178 ∈ WA := wA (tm_3 _ (List.mem_of_getElem? (i := 79) rfl)) rfl
theorem wm_3_81 : Cond.methodLink RX8 220 yX7_unlike ∈ WA := wA (tm_3 _ (List.mem_of_getElem? (i := 81) rfl)) rfl
theorem wm_3_82 : Cond.instanceMethod yX7_unlike ∈ WA := wA (tm_3 _ (List.mem_of_getElem? (i := 82) rfl)) rfl
theorem wm_3_83 : Cond.selects RX7 yX7_unlike yX7_unlike ∈ WA := wA (tm_3 _ (List.mem_of_getElem? (i := 83) rfl)) rfl
theorem wm_3_84 : Cond.code yX7_unlike cX7_unlike 4 (some .int) ∈ WA := wA (tm_3 _ (List.mem_of_getElem? (i := 84) rfl)) rfl
theorem wm_2_114 : Cond.methodLink RL 177 yX8_goOn ∈ WA := wA (tm_2 _ (List.mem_of_getElem? (i := 114) rfl)) rfl
theorem wm_2_115 : Cond.instanceMethod yX8_goOn ∈ WA := wA (tm_2 _ (List.mem_of_getElem? (i := 115) rfl)) rfl
theorem wm_2_116 : Cond.selects RX8 yX8_goOn yX8_goOn ∈ WA := wA (tm_2 _ (List.mem_of_getElem? (i := 116) rfl)) rfl
theorem wm_2_117 : Cond.code yX8_goOn cX8_goOn 1 (some .int) ∈ WA := wA (tm_2 _ (List.mem_of_getElem? (i := 117) rfl)) rfl
theorem wm_2_118 : Cond.methodLink RX8 162 yX2_playTill ∈ WA := wA (tm_2 _ (List.mem_of_getElem? (i := 118) rfl)) rfl
theorem wm_2_170 : Cond.methodLink RL 180 yX8_again ∈ WA := wA (tm_2 _ (List.mem_of_getElem? (i := 170) rfl)) rfl
theorem wm_2_171 : Cond.instanceMethod yX8_again ∈ WA := wA (tm_2 _ (List.mem_of_getElem? (i := 171) rfl)) rfl
theorem wm_2_172 : Cond.selects RX8 yX8_again yX8_again ∈ WA := wA (tm_2 _ (List.mem_of_getElem? (i := 172) rfl)) rfl
theorem wm_2_173 : Cond.code yX8_again cX8_again 1 (some .int) ∈ WA := wA (tm_2 _ (List.mem_of_getElem? (i := 173) rfl)) rfl
theorem wm_1_72 : Cond.fieldLink RX8 166 "OpenOrTake$Party" "again" "I" ∈ WA := wA (tm_1 _ (List.mem_of_getElem? (i := 72) rfl)) rfl
theorem wm_1_166 : Cond.fieldLink RX8 169 "OpenOrTake$Evening" "againWas" "Z" ∈ WA := wA (tm_1 _ (List.mem_of_getElem? (i := 166) rfl)) rfl
theorem wm_2_174 : Cond.methodLink RX8 173 yX2_hasEnded ∈ WA := wA (tm_2 _ (List.mem_of_getElem? (i := 174) rfl)) rfl
theorem wm_2_182 : Cond.methodLink RX8 177 yX2_chooseOnceMore ∈ WA := wA (tm_2 _ (List.mem_of_getElem? (i := 182) rfl)) rfl
theorem wm_2_198 : Cond.methodLink RL 182 yX8_led ∈ WA := wA (tm_2 _ (List.mem_of_getElem? (i := 198) rfl)) rfl
theorem wm_2_199 : Cond.instanceMethod yX8_led ∈ WA := wA (tm_2 _ (List.mem_of_getElem? (i := 199) rfl)) rfl
theorem wm_2_200 : Cond.selects RX8 yX8_led yX8_led ∈ WA := wA (tm_2 _ (List.mem_of_getElem? (i := 200) rfl)) rfl
theorem wm_2_201 : Cond.code yX8_led cX8_led 2 (some .int) ∈ WA := wA (tm_2 _ (List.mem_of_getElem? (i := 201) rfl)) rfl
theorem wm_1_168 : Cond.fieldLink RX8 186 "OpenOrTake$Evening" "latestWho" "I" ∈ WA := wA (tm_1 _ (List.mem_of_getElem? (i := 168) rfl)) rfl
theorem wm_1_170 : Cond.fieldLink RX8 189 "OpenOrTake$Evening" "latestGot" "I" ∈ WA := wA (tm_1 _ (List.mem_of_getElem? (i := 170) rfl)) rfl
theorem wm_2_190 : Cond.methodLink RL 185 yX8_anew ∈ WA := wA (tm_2 _ (List.mem_of_getElem? (i := 190) rfl)) rfl
theorem wm_2_191 : Cond.instanceMethod yX8_anew ∈ WA := wA (tm_2 _ (List.mem_of_getElem? (i := 191) rfl)) rfl
theorem wm_2_192 : Cond.selects RX8 yX8_anew yX8_anew ∈ WA := wA (tm_2 _ (List.mem_of_getElem? (i := 192) rfl)) rfl
theorem wm_2_193 : Cond.code yX8_anew cX8_anew 1 (some .int) ∈ WA := wA (tm_2 _ (List.mem_of_getElem? (i := 193) rfl)) rfl
theorem wm_2_194 : Cond.methodLink RX8 180 yX2_wrapAll ∈ WA := wA (tm_2 _ (List.mem_of_getElem? (i := 194) rfl)) rfl
theorem wm_2_94 : Cond.methodLink RL 188 yX8_turn ∈ WA := wA (tm_2 _ (List.mem_of_getElem? (i := 94) rfl)) rfl
theorem wm_2_95 : Cond.instanceMethod yX8_turn ∈ WA := wA (tm_2 _ (List.mem_of_getElem? (i := 95) rfl)) rfl
theorem wm_2_96 : Cond.selects RX8 yX8_turn yX8_turn ∈ WA := wA (tm_2 _ (List.mem_of_getElem? (i := 96) rfl)) rfl
theorem wm_2_97 : Cond.code yX8_turn cX8_turn 1 (some .int) ∈ WA := wA (tm_2 _ (List.mem_of_getElem? (i := 97) rfl)) rfl
theorem wm_2_98 : Cond.methodLink RX8 148 yX2_whoseTurn ∈ WA := wA (tm_2 _ (List.mem_of_getElem? (i := 98) rfl)) rfl
theorem wm_2_102 : Cond.methodLink RL 190 yX8_open ∈ WA := wA (tm_2 _ (List.mem_of_getElem? (i := 102) rfl)) rfl
theorem wm_2_103 : Cond.instanceMethod yX8_open ∈ WA := wA (tm_2 _ (List.mem_of_getElem? (i := 103) rfl)) rfl
theorem wm_2_104 : Cond.selects RX8 yX8_open yX8_open ∈ WA := wA (tm_2 _ (List.mem_of_getElem? (i := 104) rfl)) rfl
theorem wm_2_105 : Cond.code yX8_open cX8_open 2 (some .int) ∈ WA := wA (tm_2 _ (List.mem_of_getElem? (i := 105) rfl)) rfl
theorem wm_2_106 : Cond.methodLink RX8 152 yX2_unwrap ∈ WA := wA (tm_2 _ (List.mem_of_getElem? (i := 106) rfl)) rfl
theorem wm_2_53 : Cond.laysFinal "OpenOrTake" "OpenOrTake" "party" "LOpenOrTake$Party;" ∈ WA := wA (tm_2 _ (List.mem_of_getElem? (i := 53) rfl)) rfl
theorem wm_2_55 : Cond.laysFinal "OpenOrTake" "OpenOrTake" "changes" "LOpenOrTake$Changes;" ∈ WA := wA (tm_2 _ (List.mem_of_getElem? (i := 55) rfl)) rfl
theorem wm_2_57 : Cond.laysFinal "OpenOrTake" "OpenOrTake" "tape" "LOpenOrTake$Tape;" ∈ WA := wA (tm_2 _ (List.mem_of_getElem? (i := 57) rfl)) rfl
theorem wm_2_59 : Cond.laysFinal "OpenOrTake" "OpenOrTake" "deed" "LOpenOrTake$Evening;" ∈ WA := wA (tm_2 _ (List.mem_of_getElem? (i := 59) rfl)) rfl
theorem wm_2_61 : Cond.laysFinal "OpenOrTake" "OpenOrTake" "kept" "LOpenOrTake$Evening;" ∈ WA := wA (tm_2 _ (List.mem_of_getElem? (i := 61) rfl)) rfl
theorem wm_2_63 : Cond.laysFinal "OpenOrTake" "OpenOrTake" "thought" "LOpenOrTake$Thought;" ∈ WA := wA (tm_2 _ (List.mem_of_getElem? (i := 63) rfl)) rfl
theorem wm_2_65 : Cond.laysFinal "OpenOrTake" "OpenOrTake" "bodies" "LOpenOrTake$Bodies;" ∈ WA := wA (tm_2 _ (List.mem_of_getElem? (i := 65) rfl)) rfl
theorem wm_2_67 : Cond.laysFinal "OpenOrTake" "OpenOrTake" "shelves" "LOpenOrTake$Shelves;" ∈ WA := wA (tm_2 _ (List.mem_of_getElem? (i := 67) rfl)) rfl
theorem wm_2_69 : Cond.lays "OpenOrTake" "OpenOrTake" "peopleOfImage" "I" ∈ WA := wA (tm_2 _ (List.mem_of_getElem? (i := 69) rfl)) rfl
theorem wm_1_77 : Cond.lays "OpenOrTake$Party" "OpenOrTake$Party" "people" "I" ∈ WA := wA (tm_1 _ (List.mem_of_getElem? (i := 77) rfl)) rfl
theorem wm_1_79 : Cond.laysFinal "OpenOrTake$Party" "OpenOrTake$Party" "worth" "[I" ∈ WA := wA (tm_1 _ (List.mem_of_getElem? (i := 79) rfl)) rfl
theorem wm_1_81 : Cond.laysFinal "OpenOrTake$Party" "OpenOrTake$Party" "like" "[I" ∈ WA := wA (tm_1 _ (List.mem_of_getElem? (i := 81) rfl)) rfl
theorem wm_1_83 : Cond.laysFinal "OpenOrTake$Party" "OpenOrTake$Party" "way" "[I" ∈ WA := wA (tm_1 _ (List.mem_of_getElem? (i := 83) rfl)) rfl
theorem wm_1_85 : Cond.lays "OpenOrTake$Party" "OpenOrTake$Party" "most" "I" ∈ WA := wA (tm_1 _ (List.mem_of_getElem? (i := 85) rfl)) rfl
theorem wm_1_87 : Cond.lays "OpenOrTake$Party" "OpenOrTake$Party" "again" "I" ∈ WA := wA (tm_1 _ (List.mem_of_getElem? (i := 87) rfl)) rfl
theorem wm_1_89 : Cond.lays "OpenOrTake$Party" "OpenOrTake$Party" "law" "LOpenOrTake$Law;" ∈ WA := wA (tm_1 _ (List.mem_of_getElem? (i := 89) rfl)) rfl
theorem wm_1_105 : Cond.laysFinal "OpenOrTake$Changes" "OpenOrTake$Changes" "number" "[I" ∈ WA := wA (tm_1 _ (List.mem_of_getElem? (i := 105) rfl)) rfl
theorem wm_1_107 : Cond.laysFinal "OpenOrTake$Changes" "OpenOrTake$Changes" "what" "[I" ∈ WA := wA (tm_1 _ (List.mem_of_getElem? (i := 107) rfl)) rfl
theorem wm_1_109 : Cond.laysFinal "OpenOrTake$Changes" "OpenOrTake$Changes" "before" "[I" ∈ WA := wA (tm_1 _ (List.mem_of_getElem? (i := 109) rfl)) rfl
theorem wm_1_111 : Cond.laysFinal "OpenOrTake$Changes" "OpenOrTake$Changes" "after" "[I" ∈ WA := wA (tm_1 _ (List.mem_of_getElem? (i := 111) rfl)) rfl
theorem wm_1_113 : Cond.lays "OpenOrTake$Changes" "OpenOrTake$Changes" "done" "I" ∈ WA := wA (tm_1 _ (List.mem_of_getElem? (i := 113) rfl)) rfl
theorem wm_1_115 : Cond.lays "OpenOrTake$Changes" "OpenOrTake$Changes" "all" "I" ∈ WA := wA (tm_1 _ (List.mem_of_getElem? (i := 115) rfl)) rfl
theorem wm_1_132 : Cond.laysFinal "OpenOrTake$Tape" "OpenOrTake$Tape" "bytes" "[C" ∈ WA := wA (tm_1 _ (List.mem_of_getElem? (i := 132) rfl)) rfl
theorem wm_1_134 : Cond.lays "OpenOrTake$Tape" "OpenOrTake$Tape" "length" "I" ∈ WA := wA (tm_1 _ (List.mem_of_getElem? (i := 134) rfl)) rfl
theorem wm_1_136 : Cond.lays "OpenOrTake$Tape" "OpenOrTake$Tape" "at" "I" ∈ WA := wA (tm_1 _ (List.mem_of_getElem? (i := 136) rfl)) rfl
theorem wm_1_138 : Cond.lays "OpenOrTake$Tape" "OpenOrTake$Tape" "fault" "I" ∈ WA := wA (tm_1 _ (List.mem_of_getElem? (i := 138) rfl)) rfl
theorem wm_1_140 : Cond.lays "OpenOrTake$Tape" "OpenOrTake$Tape" "draft" "LOpenOrTake$Law;" ∈ WA := wA (tm_1 _ (List.mem_of_getElem? (i := 140) rfl)) rfl
theorem wm_1_174 : Cond.laysFinal "OpenOrTake$Evening" "OpenOrTake$Evening" "lot" "[I" ∈ WA := wA (tm_1 _ (List.mem_of_getElem? (i := 174) rfl)) rfl
theorem wm_1_176 : Cond.laysFinal "OpenOrTake$Evening" "OpenOrTake$Evening" "has" "[I" ∈ WA := wA (tm_1 _ (List.mem_of_getElem? (i := 176) rfl)) rfl
theorem wm_1_178 : Cond.laysFinal "OpenOrTake$Evening" "OpenOrTake$Evening" "holder" "[I" ∈ WA := wA (tm_1 _ (List.mem_of_getElem? (i := 178) rfl)) rfl
theorem wm_1_180 : Cond.laysFinal "OpenOrTake$Evening" "OpenOrTake$Evening" "taken" "[I" ∈ WA := wA (tm_1 _ (List.mem_of_getElem? (i := 180) rfl)) rfl
theorem wm_1_182 : Cond.lays "OpenOrTake$Evening" "OpenOrTake$Evening" "opened" "I" ∈ WA := wA (tm_1 _ (List.mem_of_getElem? (i := 182) rfl)) rfl
theorem wm_1_184 : Cond.lays "OpenOrTake$Evening" "OpenOrTake$Evening" "robbed" "I" ∈ WA := wA (tm_1 _ (List.mem_of_getElem? (i := 184) rfl)) rfl
theorem wm_1_186 : Cond.lays "OpenOrTake$Evening" "OpenOrTake$Evening" "just" "I" ∈ WA := wA (tm_1 _ (List.mem_of_getElem? (i := 186) rfl)) rfl
theorem wm_1_188 : Cond.lays "OpenOrTake$Evening" "OpenOrTake$Evening" "againWas" "Z" ∈ WA := wA (tm_1 _ (List.mem_of_getElem? (i := 188) rfl)) rfl
theorem wm_1_190 : Cond.lays "OpenOrTake$Evening" "OpenOrTake$Evening" "latestWho" "I" ∈ WA := wA (tm_1 _ (List.mem_of_getElem? (i := 190) rfl)) rfl
theorem wm_1_192 : Cond.lays "OpenOrTake$Evening" "OpenOrTake$Evening" "latestGot" "I" ∈ WA := wA (tm_1 _ (List.mem_of_getElem? (i := 192) rfl)) rfl
theorem wm_1_194 : Cond.lays "OpenOrTake$Evening" "OpenOrTake$Evening" "turns" "I" ∈ WA := wA (tm_1 _ (List.mem_of_getElem? (i := 194) rfl)) rfl
theorem wm_1_218 : Cond.laysFinal "OpenOrTake$Thought" "OpenOrTake$Thought" "party" "LOpenOrTake$Party;" ∈ WA := wA (tm_1 _ (List.mem_of_getElem? (i := 218) rfl)) rfl
theorem wm_1_220 : Cond.laysFinal "OpenOrTake$Thought" "OpenOrTake$Thought" "levels" "[LOpenOrTake$Evening;" ∈ WA := wA (tm_1 _ (List.mem_of_getElem? (i := 220) rfl)) rfl
theorem wm_1_222 : Cond.laysFinal "OpenOrTake$Thought" "OpenOrTake$Thought" "ends" "[[I" ∈ WA := wA (tm_1 _ (List.mem_of_getElem? (i := 222) rfl)) rfl
theorem wm_1_224 : Cond.laysFinal "OpenOrTake$Thought" "OpenOrTake$Thought" "mostBehind" "[I" ∈ WA := wA (tm_1 _ (List.mem_of_getElem? (i := 224) rfl)) rfl
theorem wm_1_226 : Cond.laysFinal "OpenOrTake$Thought" "OpenOrTake$Thought" "trueWorth" "[I" ∈ WA := wA (tm_1 _ (List.mem_of_getElem? (i := 226) rfl)) rfl
theorem wm_1_228 : Cond.laysFinal "OpenOrTake$Thought" "OpenOrTake$Thought" "drawn" "[I" ∈ WA := wA (tm_1 _ (List.mem_of_getElem? (i := 228) rfl)) rfl
theorem wm_1_230 : Cond.laysFinal "OpenOrTake$Thought" "OpenOrTake$Thought" "sums" "[I" ∈ WA := wA (tm_1 _ (List.mem_of_getElem? (i := 230) rfl)) rfl
theorem wm_1_232 : Cond.lays "OpenOrTake$Thought" "OpenOrTake$Thought" "told" "[J" ∈ WA := wA (tm_1 _ (List.mem_of_getElem? (i := 232) rfl)) rfl
theorem wm_1_234 : Cond.lays "OpenOrTake$Thought" "OpenOrTake$Thought" "toldSize" "I" ∈ WA := wA (tm_1 _ (List.mem_of_getElem? (i := 234) rfl)) rfl
theorem wm_2_10 : Cond.laysFinal "OpenOrTake$Bodies" "OpenOrTake$Bodies" "kinds" "[I" ∈ WA := wA (tm_2 _ (List.mem_of_getElem? (i := 10) rfl)) rfl
theorem wm_2_12 : Cond.lays "OpenOrTake$Bodies" "OpenOrTake$Bodies" "count" "I" ∈ WA := wA (tm_2 _ (List.mem_of_getElem? (i := 12) rfl)) rfl
theorem wm_2_14 : Cond.laysFinal "OpenOrTake$Bodies" "OpenOrTake$Bodies" "trace" "[I" ∈ WA := wA (tm_2 _ (List.mem_of_getElem? (i := 14) rfl)) rfl
theorem wm_2_16 : Cond.lays "OpenOrTake$Bodies" "OpenOrTake$Bodies" "ran" "I" ∈ WA := wA (tm_2 _ (List.mem_of_getElem? (i := 16) rfl)) rfl
theorem wm_2_18 : Cond.lays "OpenOrTake$Bodies" "OpenOrTake$Bodies" "self" "I" ∈ WA := wA (tm_2 _ (List.mem_of_getElem? (i := 18) rfl)) rfl
theorem wm_2_36 : Cond.laysFinal "OpenOrTake$Shelves" "OpenOrTake$Shelves" "sort" "[I" ∈ WA := wA (tm_2 _ (List.mem_of_getElem? (i := 36) rfl)) rfl
theorem wm_2_38 : Cond.laysFinal "OpenOrTake$Shelves" "OpenOrTake$Shelves" "size" "[I" ∈ WA := wA (tm_2 _ (List.mem_of_getElem? (i := 38) rfl)) rfl
theorem wm_2_40 : Cond.laysFinal "OpenOrTake$Shelves" "OpenOrTake$Shelves" "rows" "[[J" ∈ WA := wA (tm_2 _ (List.mem_of_getElem? (i := 40) rfl)) rfl
theorem wm_1_40 : Cond.laysFinal "OpenOrTake$Law" "OpenOrTake$Law" "sign" "[C" ∈ WA := wA (tm_1 _ (List.mem_of_getElem? (i := 40) rfl)) rfl
theorem wm_1_42 : Cond.laysFinal "OpenOrTake$Law" "OpenOrTake$Law" "detail" "[I" ∈ WA := wA (tm_1 _ (List.mem_of_getElem? (i := 42) rfl)) rfl
theorem wm_1_44 : Cond.lays "OpenOrTake$Law" "OpenOrTake$Law" "length" "I" ∈ WA := wA (tm_1 _ (List.mem_of_getElem? (i := 44) rfl)) rfl
theorem wm_1_46 : Cond.lays "OpenOrTake$Law" "OpenOrTake$Law" "latestIf" "I" ∈ WA := wA (tm_1 _ (List.mem_of_getElem? (i := 46) rfl)) rfl
theorem wm_1_48 : Cond.laysFinal "OpenOrTake$Law" "OpenOrTake$Law" "stack" "[I" ∈ WA := wA (tm_1 _ (List.mem_of_getElem? (i := 48) rfl)) rfl
theorem wm_1_50 : Cond.laysFinal "OpenOrTake$Law" "OpenOrTake$Law" "named" "[I" ∈ WA := wA (tm_1 _ (List.mem_of_getElem? (i := 50) rfl)) rfl
theorem inX0 : ∀ w ∈ u_ws RX0 TX0 5, w ∈ WA := by
  intro w hw
  obtain ⟨k, hk, rfl⟩ := List.mem_map.mp hw
  have hk := List.mem_range.mp hk
  match k, hk with
  | 0, _ => exact wm_2_10
  | 1, _ => exact wm_2_12
  | 2, _ => exact wm_2_14
  | 3, _ => exact wm_2_16
  | 4, _ => exact wm_2_18
  | k + 5, h => exact absurd h (by omega)
theorem inX1 : ∀ w ∈ u_ws RX1 TX1 6, w ∈ WA := by
  intro w hw
  obtain ⟨k, hk, rfl⟩ := List.mem_map.mp hw
  have hk := List.mem_range.mp hk
  match k, hk with
  | 0, _ => exact wm_1_105
  | 1, _ => exact wm_1_107
  | 2, _ => exact wm_1_109
  | 3, _ => exact wm_1_111
  | 4, _ => exact wm_1_113
  | 5, _ => exact wm_1_115
  | k + 6, h => exact absurd h (by omega)
theorem inX2 : ∀ w ∈ u_ws RX2 TX2 11, w ∈ WA := by
  intro w hw
  obtain ⟨k, hk, rfl⟩ := List.mem_map.mp hw
  have hk := List.mem_range.mp hk
  match k, hk with
  | 0, _ => exact wm_1_174
  | 1, _ => exact wm_1_176
  | 2, _ => exact wm_1_178
  | 3, _ => exact wm_1_180
  | 4, _ => exact wm_1_182
  | 5, _ => exact wm_1_184
  | 6, _ => exact wm_1_186
  | 7, _ => exact wm_1_188
  | 8, _ => exact wm_1_190
  | 9, _ => exact wm_1_192
  | 10, _ => exact wm_1_194
  | k + 11, h => exact absurd h (by omega)
theorem inX3 : ∀ w ∈ u_ws RX3 TX3 6, w ∈ WA := by
  intro w hw
  obtain ⟨k, hk, rfl⟩ := List.mem_map.mp hw
  have hk := List.mem_range.mp hk
  match k, hk with
  | 0, _ => exact wm_1_40
  | 1, _ => exact wm_1_42
  | 2, _ => exact wm_1_44
  | 3, _ => exact wm_1_46
  | 4, _ => exact wm_1_48
  | 5, _ => exact wm_1_50
  | k + 6, h => exact absurd h (by omega)
theorem inX4 : ∀ w ∈ u_ws RX4 TX4 7, w ∈ WA := by
  intro w hw
  obtain ⟨k, hk, rfl⟩ := List.mem_map.mp hw
  have hk := List.mem_range.mp hk
  match k, hk with
  | 0, _ => exact wm_1_77
  | 1, _ => exact wm_1_79
  | 2, _ => exact wm_1_81
  | 3, _ => exact wm_1_83
  | 4, _ => exact wm_1_85
  | 5, _ => exact wm_1_87
  | 6, _ => exact wm_1_89
  | k + 7, h => exact absurd h (by omega)
theorem inX5 : ∀ w ∈ u_ws RX5 TX5 3, w ∈ WA := by
  intro w hw
  obtain ⟨k, hk, rfl⟩ := List.mem_map.mp hw
  have hk := List.mem_range.mp hk
  match k, hk with
  | 0, _ => exact wm_2_36
  | 1, _ => exact wm_2_38
  | 2, _ => exact wm_2_40
  | k + 3, h => exact absurd h (by omega)
theorem inX6 : ∀ w ∈ u_ws RX6 TX6 5, w ∈ WA := by
  intro w hw
  obtain ⟨k, hk, rfl⟩ := List.mem_map.mp hw
  have hk := List.mem_range.mp hk
  match k, hk with
  | 0, _ => exact wm_1_132
  | 1, _ => exact wm_1_134
  | 2, _ => exact wm_1_136
  | 3, _ => exact wm_1_138
  | 4, _ => exact wm_1_140
  | k + 5, h => exact absurd h (by omega)
theorem inX7 : ∀ w ∈ u_ws RX7 TX7 9, w ∈ WA := by
  intro w hw
  obtain ⟨k, hk, rfl⟩ := List.mem_map.mp hw
  have hk := List.mem_range.mp hk
  match k, hk with
  | 0, _ => exact wm_1_218
  | 1, _ => exact wm_1_220
  | 2, _ => exact wm_1_222
  | 3, _ => exact wm_1_224
  | 4, _ => exact wm_1_226
  | 5, _ => exact wm_1_228
  | 6, _ => exact wm_1_230
  | 7, _ => exact wm_1_232
  | 8, _ => exact wm_1_234
  | k + 9, h => exact absurd h (by omega)
theorem inX8 : ∀ w ∈ u_ws RX8 TX8 9, w ∈ WA := by
  intro w hw
  obtain ⟨k, hk, rfl⟩ := List.mem_map.mp hw
  have hk := List.mem_range.mp hk
  match k, hk with
  | 0, _ => exact wm_2_53
  | 1, _ => exact wm_2_55
  | 2, _ => exact wm_2_57
  | 3, _ => exact wm_2_59
  | 4, _ => exact wm_2_61
  | 5, _ => exact wm_2_63
  | 6, _ => exact wm_2_65
  | 7, _ => exact wm_2_67
  | 8, _ => exact wm_2_69
  | k + 9, h => exact absurd h (by omega)
theorem inX9 : ∀ w ∈ u_ws RX9 TX9 0, w ∈ WA := by
  intro w hw
  obtain ⟨k, hk, rfl⟩ := List.mem_map.mp hw
  have hk := List.mem_range.mp hk
  match k, hk with
  | k + 0, h => exact absurd h (by omega)
theorem inX10 : ∀ w ∈ u_ws RX10 TX10 0, w ∈ WA := by
  intro w hw
  obtain ⟨k, hk, rfl⟩ := List.mem_map.mp hw
  have hk := List.mem_range.mp hk
  match k, hk with
  | k + 0, h => exact absurd h (by omega)
