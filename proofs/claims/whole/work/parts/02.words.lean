/-! THE WORDS OF THE TABLES BY THEIR PLACES: printed by wip/whole/gen/words.py -/
def WA : List Cond := lw_tbl.filter goodWord
theorem wA {w : Cond} (h : w ∈ lw_tbl) (hg : goodWord w = true) : w ∈ WA := List.mem_filter.mpr ⟨h, hg⟩
theorem tmA : ∀ w ∈ tables_1, w ∈ lw_tbl := fun w h => List.mem_append_right _ h
theorem lwp_0 : (yX8_welcome, 9) ∈ lw_privs := List.mem_of_getElem? (i := 0) rfl
theorem lwp_1 : (yX8_welcomeFrom, 9) ∈ lw_privs := List.mem_of_getElem? (i := 1) rfl
theorem lwp_2 : (yX1_forgetOldest, 6) ∈ lw_privs := List.mem_of_getElem? (i := 2) rfl
theorem lwp_3 : (yX6_line, 5) ∈ lw_privs := List.mem_of_getElem? (i := 3) rfl
theorem lwp_4 : (yX6_either, 5) ∈ lw_privs := List.mem_of_getElem? (i := 4) rfl
theorem lwp_5 : (yX6_both, 5) ∈ lw_privs := List.mem_of_getElem? (i := 5) rfl
theorem lwp_6 : (yX6_compared, 5) ∈ lw_privs := List.mem_of_getElem? (i := 6) rfl
theorem lwp_7 : (yX6_sum, 5) ∈ lw_privs := List.mem_of_getElem? (i := 7) rfl
theorem lwp_8 : (yX6_product, 5) ∈ lw_privs := List.mem_of_getElem? (i := 8) rfl
theorem lwp_9 : (yX6_operand, 5) ∈ lw_privs := List.mem_of_getElem? (i := 9) rfl
theorem lwp_10 : (yX6_ahead, 5) ∈ lw_privs := List.mem_of_getElem? (i := 10) rfl
theorem lwp_11 : (yX6_number, 5) ∈ lw_privs := List.mem_of_getElem? (i := 11) rfl
theorem lwp_12 : (yX6_fail, 5) ∈ lw_privs := List.mem_of_getElem? (i := 12) rfl
theorem lwp_13 : (yX6_write, 5) ∈ lw_privs := List.mem_of_getElem? (i := 13) rfl
theorem lwp_14 : (yX6_comes, 5) ∈ lw_privs := List.mem_of_getElem? (i := 14) rfl
theorem lwp_15 : (yX2_give, 11) ∈ lw_privs := List.mem_of_getElem? (i := 15) rfl
theorem lwp_16 : (yX2_byTheLaw, 11) ∈ lw_privs := List.mem_of_getElem? (i := 16) rfl
theorem lwp_17 : (yX2_guess, 11) ∈ lw_privs := List.mem_of_getElem? (i := 17) rfl
theorem lwp_18 : (yX2_fromWhomItLikesLeast, 11) ∈ lw_privs := List.mem_of_getElem? (i := 18) rfl
theorem lwp_19 : (yX2_ofMostWorth, 11) ∈ lw_privs := List.mem_of_getElem? (i := 19) rfl
theorem lwp_20 : (yX2_exchange, 11) ∈ lw_privs := List.mem_of_getElem? (i := 20) rfl
theorem lwp_21 : (yX7_lookAhead, 9) ∈ lw_privs := List.mem_of_getElem? (i := 21) rfl
theorem lwp_22 : (yX7_comeTo, 9) ∈ lw_privs := List.mem_of_getElem? (i := 22) rfl
theorem lwp_23 : (yX7_worthAtEnd, 9) ∈ lw_privs := List.mem_of_getElem? (i := 23) rfl
theorem lwp_24 : (yX7_fillMostBehind, 9) ∈ lw_privs := List.mem_of_getElem? (i := 24) rfl
theorem lwp_25 : (yX7_worthWithAllBehind, 9) ∈ lw_privs := List.mem_of_getElem? (i := 25) rfl
theorem lwp_26 : (yX7_firstBest, 9) ∈ lw_privs := List.mem_of_getElem? (i := 26) rfl
theorem lwp_27 : (yX7_envies, 9) ∈ lw_privs := List.mem_of_getElem? (i := 27) rfl
theorem lwp_28 : (yX7_lessen, 9) ∈ lw_privs := List.mem_of_getElem? (i := 28) rfl
theorem lwp_29 : (yX7_lotsBehind, 9) ∈ lw_privs := List.mem_of_getElem? (i := 29) rfl
theorem lwp_30 : (yX0_own, 5) ∈ lw_privs := List.mem_of_getElem? (i := 30) rfl
theorem lwp_31 : (yX0_from, 5) ∈ lw_privs := List.mem_of_getElem? (i := 31) rfl
theorem lwp_32 : (yX0_run, 5) ∈ lw_privs := List.mem_of_getElem? (i := 32) rfl
theorem lwp_33 : (yX0_note, 5) ∈ lw_privs := List.mem_of_getElem? (i := 33) rfl
theorem lwp_34 : (yX0_above, 5) ∈ lw_privs := List.mem_of_getElem? (i := 34) rfl
theorem lwp_35 : (yX9_addPerson, 64) ∈ lw_privs := List.mem_of_getElem? (i := 35) rfl
theorem lwp_36 : (yX9_beginAt, 64) ∈ lw_privs := List.mem_of_getElem? (i := 36) rfl
theorem lwp_37 : (yX9_lays, 64) ∈ lw_privs := List.mem_of_getElem? (i := 37) rfl
theorem lwp_38 : (yX9_areBoth, 64) ∈ lw_privs := List.mem_of_getElem? (i := 38) rfl
theorem lwp_39 : (yX9_isPerson, 64) ∈ lw_privs := List.mem_of_getElem? (i := 39) rfl
theorem lwp_40 : (yX9_changes, 64) ∈ lw_privs := List.mem_of_getElem? (i := 40) rfl
theorem lwp_41 : (yX9_valueAt, 64) ∈ lw_privs := List.mem_of_getElem? (i := 41) rfl
theorem lwp_42 : (yX9_hasIn, 64) ∈ lw_privs := List.mem_of_getElem? (i := 42) rfl
theorem lwp_43 : (yX9_swapLot, 64) ∈ lw_privs := List.mem_of_getElem? (i := 43) rfl
theorem lwp_44 : (yX9_readText, 64) ∈ lw_privs := List.mem_of_getElem? (i := 44) rfl
theorem lwp_45 : (yX9_line, 64) ∈ lw_privs := List.mem_of_getElem? (i := 45) rfl
theorem lwp_46 : (yX9_either, 64) ∈ lw_privs := List.mem_of_getElem? (i := 46) rfl
theorem lwp_47 : (yX9_both, 64) ∈ lw_privs := List.mem_of_getElem? (i := 47) rfl
theorem lwp_48 : (yX9_compared, 64) ∈ lw_privs := List.mem_of_getElem? (i := 48) rfl
theorem lwp_49 : (yX9_sum, 64) ∈ lw_privs := List.mem_of_getElem? (i := 49) rfl
theorem lwp_50 : (yX9_product, 64) ∈ lw_privs := List.mem_of_getElem? (i := 50) rfl
theorem lwp_51 : (yX9_operand, 64) ∈ lw_privs := List.mem_of_getElem? (i := 51) rfl
theorem lwp_52 : (yX9_look, 64) ∈ lw_privs := List.mem_of_getElem? (i := 52) rfl
theorem lwp_53 : (yX9_addStep, 64) ∈ lw_privs := List.mem_of_getElem? (i := 53) rfl
theorem lwp_54 : (yX9_opens, 64) ∈ lw_privs := List.mem_of_getElem? (i := 54) rfl
theorem lwp_55 : (yX9_faulty, 64) ∈ lw_privs := List.mem_of_getElem? (i := 55) rfl
theorem lwp_56 : (yX9_figure, 64) ∈ lw_privs := List.mem_of_getElem? (i := 56) rfl
theorem lwp_57 : (yX9_opensAt, 64) ∈ lw_privs := List.mem_of_getElem? (i := 57) rfl
theorem lwp_58 : (yX9_lowestWrapped, 64) ∈ lw_privs := List.mem_of_getElem? (i := 58) rfl
theorem lwp_59 : (yX9_lead, 64) ∈ lw_privs := List.mem_of_getElem? (i := 59) rfl
theorem lwp_60 : (yX9_mayTake, 64) ∈ lw_privs := List.mem_of_getElem? (i := 60) rfl
theorem lwp_61 : (yX9_takesAt, 64) ∈ lw_privs := List.mem_of_getElem? (i := 61) rfl
theorem lwp_62 : (yX9_goTurn, 64) ∈ lw_privs := List.mem_of_getElem? (i := 62) rfl
theorem lwp_63 : (yX9_choice, 64) ∈ lw_privs := List.mem_of_getElem? (i := 63) rfl
theorem lwp_64 : (yX9_lawsNumber, 64) ∈ lw_privs := List.mem_of_getElem? (i := 64) rfl
theorem lwp_65 : (yX9_guessOf, 64) ∈ lw_privs := List.mem_of_getElem? (i := 65) rfl
theorem lwp_66 : (yX9_gives, 64) ∈ lw_privs := List.mem_of_getElem? (i := 66) rfl
theorem lwp_67 : (yX9_worked, 64) ∈ lw_privs := List.mem_of_getElem? (i := 67) rfl
theorem lwp_68 : (yX9_againChoice, 64) ∈ lw_privs := List.mem_of_getElem? (i := 68) rfl
theorem lwp_69 : (yX9_changeAt, 64) ∈ lw_privs := List.mem_of_getElem? (i := 69) rfl
theorem lwp_70 : (yX9_goEvening, 64) ∈ lw_privs := List.mem_of_getElem? (i := 70) rfl
theorem lwp_71 : (yX9_goExact, 64) ∈ lw_privs := List.mem_of_getElem? (i := 71) rfl
theorem lwp_72 : (yX9_keepAt, 64) ∈ lw_privs := List.mem_of_getElem? (i := 72) rfl
theorem lwp_73 : (yX9_takeEnd, 64) ∈ lw_privs := List.mem_of_getElem? (i := 73) rfl
theorem lwp_74 : (yX9_layAt, 64) ∈ lw_privs := List.mem_of_getElem? (i := 74) rfl
theorem lwp_75 : (yX9_endWorth, 64) ∈ lw_privs := List.mem_of_getElem? (i := 75) rfl
theorem lwp_76 : (yX9_goParts, 64) ∈ lw_privs := List.mem_of_getElem? (i := 76) rfl
theorem lwp_77 : (yX9_keepLot, 64) ∈ lw_privs := List.mem_of_getElem? (i := 77) rfl
theorem lwp_78 : (yX9_layLot, 64) ∈ lw_privs := List.mem_of_getElem? (i := 78) rfl
theorem lwp_79 : (yX9_rowFault, 64) ∈ lw_privs := List.mem_of_getElem? (i := 79) rfl
theorem lwp_80 : (yX9_wrongIn, 64) ∈ lw_privs := List.mem_of_getElem? (i := 80) rfl
theorem lwp_81 : (yX9_goLots, 64) ∈ lw_privs := List.mem_of_getElem? (i := 81) rfl
theorem lwp_82 : (yX9_isBody, 64) ∈ lw_privs := List.mem_of_getElem? (i := 82) rfl
theorem lwp_83 : (yX9_opening, 64) ∈ lw_privs := List.mem_of_getElem? (i := 83) rfl
theorem lwp_84 : (yX9_ran, 64) ∈ lw_privs := List.mem_of_getElem? (i := 84) rfl
theorem lwp_85 : (yX9_plainOpens, 64) ∈ lw_privs := List.mem_of_getElem? (i := 85) rfl
theorem lwp_86 : (yX9_knownOpens, 64) ∈ lw_privs := List.mem_of_getElem? (i := 86) rfl
theorem lwp_87 : (yX9_taking, 64) ∈ lw_privs := List.mem_of_getElem? (i := 87) rfl
theorem lwp_88 : (yX9_openTakes, 64) ∈ lw_privs := List.mem_of_getElem? (i := 88) rfl
theorem lwp_89 : (yX9_plainTakes, 64) ∈ lw_privs := List.mem_of_getElem? (i := 89) rfl
theorem lwp_90 : (yX9_looking, 64) ∈ lw_privs := List.mem_of_getElem? (i := 90) rfl
theorem lwp_91 : (yX9_hotLooks, 64) ∈ lw_privs := List.mem_of_getElem? (i := 91) rfl
theorem lwp_92 : (yX9_plainLooks, 64) ∈ lw_privs := List.mem_of_getElem? (i := 92) rfl
theorem lwp_93 : (yX9_keeping, 64) ∈ lw_privs := List.mem_of_getElem? (i := 93) rfl
theorem lwp_94 : (yX9_plainKeeps, 64) ∈ lw_privs := List.mem_of_getElem? (i := 94) rfl
theorem lwp_95 : (yX9_safeMany, 64) ∈ lw_privs := List.mem_of_getElem? (i := 95) rfl
theorem lwp_96 : (yX9_whyNoPlace, 64) ∈ lw_privs := List.mem_of_getElem? (i := 96) rfl
theorem tm_1 : ∀ w ∈ tables_1_1, w ∈ lw_tbl := fun w h => tmA w (List.mem_append_left _ h)
theorem tm_2 : ∀ w ∈ tables_1_2, w ∈ lw_tbl := fun w h => tmA w (List.mem_append_right _ (List.mem_append_left _ h))
theorem tm_3 : ∀ w ∈ tables_1_3, w ∈ lw_tbl := fun w h => tmA w (List.mem_append_right _ (List.mem_append_right _ (List.mem_append_left _ h)))
theorem tm_4 : ∀ w ∈ tables_1_4, w ∈ lw_tbl := fun w h => tmA w (List.mem_append_right _ (List.mem_append_right _ (List.mem_append_right _ (List.mem_append_left _ h))))
theorem tm_5 : ∀ w ∈ tables_1_5, w ∈ lw_tbl := fun w h => tmA w (List.mem_append_right _ (List.mem_append_right _ (List.mem_append_right _ (List.mem_append_right _ (List.mem_append_left _ h)))))
theorem tm_6 : ∀ w ∈ tables_1_6, w ∈ lw_tbl := fun w h => tmA w (List.mem_append_right _ (List.mem_append_right _ (List.mem_append_right _ (List.mem_append_right _ (List.mem_append_right _ (List.mem_append_left _ h))))))
theorem tm_7 : ∀ w ∈ tables_1_7, w ∈ lw_tbl := fun w h => tmA w (List.mem_append_right _ (List.mem_append_right _ (List.mem_append_right _ (List.mem_append_right _ (List.mem_append_right _ (List.mem_append_right _ (h)))))))
theorem wm_1_15 : Cond.classLink RL 7 RX8 ∈ WA := wA (tm_1 _ (List.mem_of_getElem? (i := 15) rfl)) rfl
theorem wm_1_16 : Cond.instantiable RX8 9 ∈ WA := wA (tm_1 _ (List.mem_of_getElem? (i := 16) rfl)) rfl
theorem wm_1_1 : Cond.initialized RX8 ∈ WA := wA (tm_1 _ (List.mem_of_getElem? (i := 1) rfl)) rfl
theorem wm_4_181 : Cond.classLink RL 10 RX9 ∈ WA := wA (tm_4 _ (List.mem_of_getElem? (i := 181) rfl)) rfl
theorem wm_4_182 : Cond.instantiable RX9 64 ∈ WA := wA (tm_4 _ (List.mem_of_getElem? (i := 182) rfl)) rfl
theorem wm_1_11 : Cond.initialized RX9 ∈ WA := wA (tm_1 _ (List.mem_of_getElem? (i := 11) rfl)) rfl
theorem wm_7_79 : Cond.constantLong RL 141 (4294967295) ∈ WA := wA (tm_7 _ (List.mem_of_getElem? (i := 79) rfl)) rfl
theorem wm_1_17 : Cond.methodLink RL 9 yX8_init ∈ WA := wA (tm_1 _ (List.mem_of_getElem? (i := 17) rfl)) rfl
theorem wm_1_18 : Cond.instanceMethod yX8_init ∈ WA := wA (tm_1 _ (List.mem_of_getElem? (i := 18) rfl)) rfl
theorem wm_1_19 : Cond.code yX8_init cX8_init 1 none ∈ WA := wA (tm_1 _ (List.mem_of_getElem? (i := 19) rfl)) rfl
theorem wm_1_20 : Cond.methodLink RX8 1 objectInit ∈ WA := wA (tm_1 _ (List.mem_of_getElem? (i := 20) rfl)) rfl
theorem wm_1_21 : Cond.instanceMethod objectInit ∈ WA := wA (tm_1 _ (List.mem_of_getElem? (i := 21) rfl)) rfl
theorem wm_1_22 : Cond.code objectInit ⟨#[0xb1]⟩ 1 none ∈ WA := wA (tm_1 _ (List.mem_of_getElem? (i := 22) rfl)) rfl
theorem wm_1_23 : Cond.classLink RX8 7 RX4 ∈ WA := wA (tm_1 _ (List.mem_of_getElem? (i := 23) rfl)) rfl
theorem wm_1_24 : Cond.instantiable RX4 7 ∈ WA := wA (tm_1 _ (List.mem_of_getElem? (i := 24) rfl)) rfl
theorem wm_1_2 : Cond.initialized RX4 ∈ WA := wA (tm_1 _ (List.mem_of_getElem? (i := 2) rfl)) rfl
theorem wm_2_46 : Cond.fieldLink RX8 10 "OpenOrTake" "party" "LOpenOrTake$Party;" ∈ WA := wA (tm_2 _ (List.mem_of_getElem? (i := 46) rfl)) rfl
theorem wm_1_93 : Cond.classLink RX8 16 RX1 ∈ WA := wA (tm_1 _ (List.mem_of_getElem? (i := 93) rfl)) rfl
theorem wm_1_94 : Cond.instantiable RX1 6 ∈ WA := wA (tm_1 _ (List.mem_of_getElem? (i := 94) rfl)) rfl
theorem wm_1_5 : Cond.initialized RX1 ∈ WA := wA (tm_1 _ (List.mem_of_getElem? (i := 5) rfl)) rfl
theorem wm_2_47 : Cond.fieldLink RX8 19 "OpenOrTake" "changes" "LOpenOrTake$Changes;" ∈ WA := wA (tm_2 _ (List.mem_of_getElem? (i := 47) rfl)) rfl
theorem wm_1_120 : Cond.classLink RX8 23 RX6 ∈ WA := wA (tm_1 _ (List.mem_of_getElem? (i := 120) rfl)) rfl
theorem wm_1_121 : Cond.instantiable RX6 5 ∈ WA := wA (tm_1 _ (List.mem_of_getElem? (i := 121) rfl)) rfl
theorem wm_1_6 : Cond.initialized RX6 ∈ WA := wA (tm_1 _ (List.mem_of_getElem? (i := 6) rfl)) rfl
theorem wm_2_48 : Cond.fieldLink RX8 26 "OpenOrTake" "tape" "LOpenOrTake$Tape;" ∈ WA := wA (tm_2 _ (List.mem_of_getElem? (i := 48) rfl)) rfl
theorem wm_1_145 : Cond.classLink RX8 30 RX2 ∈ WA := wA (tm_1 _ (List.mem_of_getElem? (i := 145) rfl)) rfl
theorem wm_1_146 : Cond.instantiable RX2 11 ∈ WA := wA (tm_1 _ (List.mem_of_getElem? (i := 146) rfl)) rfl
theorem wm_1_7 : Cond.initialized RX2 ∈ WA := wA (tm_1 _ (List.mem_of_getElem? (i := 7) rfl)) rfl
theorem wm_2_49 : Cond.fieldLink RX8 33 "OpenOrTake" "deed" "LOpenOrTake$Evening;" ∈ WA := wA (tm_2 _ (List.mem_of_getElem? (i := 49) rfl)) rfl
theorem wm_2_50 : Cond.fieldLink RX8 37 "OpenOrTake" "kept" "LOpenOrTake$Evening;" ∈ WA := wA (tm_2 _ (List.mem_of_getElem? (i := 50) rfl)) rfl
theorem wm_1_199 : Cond.classLink RX8 40 RX7 ∈ WA := wA (tm_1 _ (List.mem_of_getElem? (i := 199) rfl)) rfl
theorem wm_1_200 : Cond.instantiable RX7 9 ∈ WA := wA (tm_1 _ (List.mem_of_getElem? (i := 200) rfl)) rfl
theorem wm_1_8 : Cond.initialized RX7 ∈ WA := wA (tm_1 _ (List.mem_of_getElem? (i := 8) rfl)) rfl
theorem wm_2_51 : Cond.fieldLink RX8 45 "OpenOrTake" "thought" "LOpenOrTake$Thought;" ∈ WA := wA (tm_2 _ (List.mem_of_getElem? (i := 51) rfl)) rfl
theorem wm_1_239 : Cond.classLink RX8 49 RX0 ∈ WA := wA (tm_1 _ (List.mem_of_getElem? (i := 239) rfl)) rfl
theorem wm_2_0 : Cond.instantiable RX0 5 ∈ WA := wA (tm_2 _ (List.mem_of_getElem? (i := 0) rfl)) rfl
theorem wm_1_9 : Cond.initialized RX0 ∈ WA := wA (tm_1 _ (List.mem_of_getElem? (i := 9) rfl)) rfl
theorem wm_2_52 : Cond.fieldLink RX8 52 "OpenOrTake" "bodies" "LOpenOrTake$Bodies;" ∈ WA := wA (tm_2 _ (List.mem_of_getElem? (i := 52) rfl)) rfl
theorem wm_2_23 : Cond.classLink RX8 56 RX5 ∈ WA := wA (tm_2 _ (List.mem_of_getElem? (i := 23) rfl)) rfl
theorem wm_2_24 : Cond.instantiable RX5 3 ∈ WA := wA (tm_2 _ (List.mem_of_getElem? (i := 24) rfl)) rfl
theorem wm_1_10 : Cond.initialized RX5 ∈ WA := wA (tm_1 _ (List.mem_of_getElem? (i := 10) rfl)) rfl
theorem wm_2_53 : Cond.fieldLink RX8 59 "OpenOrTake" "shelves" "LOpenOrTake$Shelves;" ∈ WA := wA (tm_2 _ (List.mem_of_getElem? (i := 53) rfl)) rfl
theorem wm_2_54 : Cond.fieldLink RX8 63 "OpenOrTake" "peopleOfImage" "I" ∈ WA := wA (tm_2 _ (List.mem_of_getElem? (i := 54) rfl)) rfl
theorem wm_1_25 : Cond.methodLink RX8 9 yX4_init ∈ WA := wA (tm_1 _ (List.mem_of_getElem? (i := 25) rfl)) rfl
theorem wm_1_26 : Cond.instanceMethod yX4_init ∈ WA := wA (tm_1 _ (List.mem_of_getElem? (i := 26) rfl)) rfl
theorem wm_1_27 : Cond.code yX4_init cX4_init 1 none ∈ WA := wA (tm_1 _ (List.mem_of_getElem? (i := 27) rfl)) rfl
theorem wm_1_28 : Cond.methodLink RX4 3 objectInit ∈ WA := wA (tm_1 _ (List.mem_of_getElem? (i := 28) rfl)) rfl
theorem wm_1_59 : Cond.fieldLink RX4 9 "OpenOrTake$Party" "people" "I" ∈ WA := wA (tm_1 _ (List.mem_of_getElem? (i := 59) rfl)) rfl
theorem wm_1_54 : Cond.arrayClass .int ∈ WA := wA (tm_1 _ (List.mem_of_getElem? (i := 54) rfl)) rfl
theorem wm_1_63 : Cond.fieldLink RX4 15 "OpenOrTake$Party" "worth" "[I" ∈ WA := wA (tm_1 _ (List.mem_of_getElem? (i := 63) rfl)) rfl
theorem wm_1_65 : Cond.fieldLink RX4 19 "OpenOrTake$Party" "like" "[I" ∈ WA := wA (tm_1 _ (List.mem_of_getElem? (i := 65) rfl)) rfl
theorem wm_1_66 : Cond.fieldLink RX4 22 "OpenOrTake$Party" "way" "[I" ∈ WA := wA (tm_1 _ (List.mem_of_getElem? (i := 66) rfl)) rfl
theorem wm_1_69 : Cond.fieldLink RX4 25 "OpenOrTake$Party" "most" "I" ∈ WA := wA (tm_1 _ (List.mem_of_getElem? (i := 69) rfl)) rfl
theorem wm_1_72 : Cond.fieldLink RX4 28 "OpenOrTake$Party" "again" "I" ∈ WA := wA (tm_1 _ (List.mem_of_getElem? (i := 72) rfl)) rfl
theorem wm_1_29 : Cond.classLink RX4 31 RX3 ∈ WA := wA (tm_1 _ (List.mem_of_getElem? (i := 29) rfl)) rfl
theorem wm_1_30 : Cond.instantiable RX3 6 ∈ WA := wA (tm_1 _ (List.mem_of_getElem? (i := 30) rfl)) rfl
theorem wm_1_3 : Cond.initialized RX3 ∈ WA := wA (tm_1 _ (List.mem_of_getElem? (i := 3) rfl)) rfl
theorem wm_1_75 : Cond.fieldLink RX4 34 "OpenOrTake$Party" "law" "LOpenOrTake$Law;" ∈ WA := wA (tm_1 _ (List.mem_of_getElem? (i := 75) rfl)) rfl
theorem wm_1_31 : Cond.methodLink RX4 33 yX3_init ∈ WA := wA (tm_1 _ (List.mem_of_getElem? (i := 31) rfl)) rfl
theorem wm_1_32 : Cond.instanceMethod yX3_init ∈ WA := wA (tm_1 _ (List.mem_of_getElem? (i := 32) rfl)) rfl
theorem wm_1_33 : Cond.code yX3_init cX3_init 1 none ∈ WA := wA (tm_1 _ (List.mem_of_getElem? (i := 33) rfl)) rfl
theorem wm_1_34 : Cond.methodLink RX3 3 objectInit ∈ WA := wA (tm_1 _ (List.mem_of_getElem? (i := 34) rfl)) rfl
theorem wm_1_55 : Cond.arrayClass .char ∈ WA := wA (tm_1 _ (List.mem_of_getElem? (i := 55) rfl)) rfl
theorem wm_1_35 : Cond.fieldLink RX3 11 "OpenOrTake$Law" "sign" "[C" ∈ WA := wA (tm_1 _ (List.mem_of_getElem? (i := 35) rfl)) rfl
theorem wm_1_36 : Cond.fieldLink RX3 15 "OpenOrTake$Law" "detail" "[I" ∈ WA := wA (tm_1 _ (List.mem_of_getElem? (i := 36) rfl)) rfl
theorem wm_1_37 : Cond.fieldLink RX3 19 "OpenOrTake$Law" "length" "I" ∈ WA := wA (tm_1 _ (List.mem_of_getElem? (i := 37) rfl)) rfl
theorem wm_1_38 : Cond.fieldLink RX3 23 "OpenOrTake$Law" "latestIf" "I" ∈ WA := wA (tm_1 _ (List.mem_of_getElem? (i := 38) rfl)) rfl
theorem wm_1_39 : Cond.fieldLink RX3 26 "OpenOrTake$Law" "stack" "[I" ∈ WA := wA (tm_1 _ (List.mem_of_getElem? (i := 39) rfl)) rfl
theorem wm_1_40 : Cond.fieldLink RX3 29 "OpenOrTake$Law" "named" "[I" ∈ WA := wA (tm_1 _ (List.mem_of_getElem? (i := 40) rfl)) rfl
theorem wm_1_56 : Cond.methodLink RX4 38 yJ7_fill_53178 ∈ WA := wA (tm_1 _ (List.mem_of_getElem? (i := 56) rfl)) rfl
theorem wm_1_57 : Cond.static yJ7_fill_53178 ∈ WA := wA (tm_1 _ (List.mem_of_getElem? (i := 57) rfl)) rfl
theorem wm_1_4 : Cond.initialized RJ7 ∈ WA := wA (tm_1 _ (List.mem_of_getElem? (i := 4) rfl)) rfl
theorem wm_1_58 : Cond.code yJ7_fill_53178 cJ7_fill_53178 4 none ∈ WA := wA (tm_1 _ (List.mem_of_getElem? (i := 58) rfl)) rfl
theorem wm_1_96 : Cond.instanceMethod yX1_init ∈ WA := wA (tm_1 _ (List.mem_of_getElem? (i := 96) rfl)) rfl
theorem wm_1_97 : Cond.code yX1_init cX1_init 1 none ∈ WA := wA (tm_1 _ (List.mem_of_getElem? (i := 97) rfl)) rfl
theorem wm_1_98 : Cond.methodLink RX1 1 objectInit ∈ WA := wA (tm_1 _ (List.mem_of_getElem? (i := 98) rfl)) rfl
theorem wm_1_99 : Cond.fieldLink RX1 9 "OpenOrTake$Changes" "number" "[I" ∈ WA := wA (tm_1 _ (List.mem_of_getElem? (i := 99) rfl)) rfl
theorem wm_1_100 : Cond.fieldLink RX1 13 "OpenOrTake$Changes" "what" "[I" ∈ WA := wA (tm_1 _ (List.mem_of_getElem? (i := 100) rfl)) rfl
theorem wm_1_101 : Cond.fieldLink RX1 16 "OpenOrTake$Changes" "before" "[I" ∈ WA := wA (tm_1 _ (List.mem_of_getElem? (i := 101) rfl)) rfl
theorem wm_1_102 : Cond.fieldLink RX1 19 "OpenOrTake$Changes" "after" "[I" ∈ WA := wA (tm_1 _ (List.mem_of_getElem? (i := 102) rfl)) rfl
theorem wm_1_103 : Cond.fieldLink RX1 22 "OpenOrTake$Changes" "done" "I" ∈ WA := wA (tm_1 _ (List.mem_of_getElem? (i := 103) rfl)) rfl
theorem wm_1_105 : Cond.fieldLink RX1 26 "OpenOrTake$Changes" "all" "I" ∈ WA := wA (tm_1 _ (List.mem_of_getElem? (i := 105) rfl)) rfl
theorem wm_1_123 : Cond.instanceMethod yX6_init ∈ WA := wA (tm_1 _ (List.mem_of_getElem? (i := 123) rfl)) rfl
theorem wm_1_124 : Cond.code yX6_init cX6_init 1 none ∈ WA := wA (tm_1 _ (List.mem_of_getElem? (i := 124) rfl)) rfl
theorem wm_1_125 : Cond.methodLink RX6 3 objectInit ∈ WA := wA (tm_1 _ (List.mem_of_getElem? (i := 125) rfl)) rfl
theorem wm_1_128 : Cond.fieldLink RX6 9 "OpenOrTake$Tape" "bytes" "[C" ∈ WA := wA (tm_1 _ (List.mem_of_getElem? (i := 128) rfl)) rfl
theorem wm_1_129 : Cond.fieldLink RX6 15 "OpenOrTake$Tape" "length" "I" ∈ WA := wA (tm_1 _ (List.mem_of_getElem? (i := 129) rfl)) rfl
theorem wm_1_131 : Cond.fieldLink RX6 19 "OpenOrTake$Tape" "at" "I" ∈ WA := wA (tm_1 _ (List.mem_of_getElem? (i := 131) rfl)) rfl
theorem wm_1_132 : Cond.fieldLink RX6 22 "OpenOrTake$Tape" "fault" "I" ∈ WA := wA (tm_1 _ (List.mem_of_getElem? (i := 132) rfl)) rfl
theorem wm_1_126 : Cond.classLink RX6 25 RX3 ∈ WA := wA (tm_1 _ (List.mem_of_getElem? (i := 126) rfl)) rfl
theorem wm_1_133 : Cond.fieldLink RX6 28 "OpenOrTake$Tape" "draft" "LOpenOrTake$Law;" ∈ WA := wA (tm_1 _ (List.mem_of_getElem? (i := 133) rfl)) rfl
theorem wm_1_127 : Cond.methodLink RX6 27 yX3_init ∈ WA := wA (tm_1 _ (List.mem_of_getElem? (i := 127) rfl)) rfl
theorem wm_1_147 : Cond.methodLink RX8 32 yX2_init ∈ WA := wA (tm_1 _ (List.mem_of_getElem? (i := 147) rfl)) rfl
theorem wm_1_148 : Cond.instanceMethod yX2_init ∈ WA := wA (tm_1 _ (List.mem_of_getElem? (i := 148) rfl)) rfl
theorem wm_1_149 : Cond.code yX2_init cX2_init 1 none ∈ WA := wA (tm_1 _ (List.mem_of_getElem? (i := 149) rfl)) rfl
theorem wm_1_150 : Cond.methodLink RX2 3 objectInit ∈ WA := wA (tm_1 _ (List.mem_of_getElem? (i := 150) rfl)) rfl
theorem wm_1_152 : Cond.fieldLink RX2 9 "OpenOrTake$Evening" "lot" "[I" ∈ WA := wA (tm_1 _ (List.mem_of_getElem? (i := 152) rfl)) rfl
theorem wm_1_155 : Cond.fieldLink RX2 15 "OpenOrTake$Evening" "has" "[I" ∈ WA := wA (tm_1 _ (List.mem_of_getElem? (i := 155) rfl)) rfl
theorem wm_1_158 : Cond.fieldLink RX2 18 "OpenOrTake$Evening" "holder" "[I" ∈ WA := wA (tm_1 _ (List.mem_of_getElem? (i := 158) rfl)) rfl
theorem wm_1_159 : Cond.fieldLink RX2 21 "OpenOrTake$Evening" "taken" "[I" ∈ WA := wA (tm_1 _ (List.mem_of_getElem? (i := 159) rfl)) rfl
theorem wm_1_162 : Cond.fieldLink RX2 24 "OpenOrTake$Evening" "opened" "I" ∈ WA := wA (tm_1 _ (List.mem_of_getElem? (i := 162) rfl)) rfl
theorem wm_1_165 : Cond.fieldLink RX2 28 "OpenOrTake$Evening" "robbed" "I" ∈ WA := wA (tm_1 _ (List.mem_of_getElem? (i := 165) rfl)) rfl
theorem wm_1_166 : Cond.fieldLink RX2 31 "OpenOrTake$Evening" "just" "I" ∈ WA := wA (tm_1 _ (List.mem_of_getElem? (i := 166) rfl)) rfl
theorem wm_1_167 : Cond.fieldLink RX2 34 "OpenOrTake$Evening" "againWas" "Z" ∈ WA := wA (tm_1 _ (List.mem_of_getElem? (i := 167) rfl)) rfl
theorem wm_1_169 : Cond.fieldLink RX2 38 "OpenOrTake$Evening" "latestWho" "I" ∈ WA := wA (tm_1 _ (List.mem_of_getElem? (i := 169) rfl)) rfl
theorem wm_1_171 : Cond.fieldLink RX2 41 "OpenOrTake$Evening" "latestGot" "I" ∈ WA := wA (tm_1 _ (List.mem_of_getElem? (i := 171) rfl)) rfl
theorem wm_1_173 : Cond.fieldLink RX2 44 "OpenOrTake$Evening" "turns" "I" ∈ WA := wA (tm_1 _ (List.mem_of_getElem? (i := 173) rfl)) rfl
theorem wm_1_151 : Cond.methodLink RX2 47 yJ7_fill_53178 ∈ WA := wA (tm_1 _ (List.mem_of_getElem? (i := 151) rfl)) rfl
theorem wm_1_201 : Cond.methodLink RX8 42 yX7_init ∈ WA := wA (tm_1 _ (List.mem_of_getElem? (i := 201) rfl)) rfl
theorem wm_1_202 : Cond.instanceMethod yX7_init ∈ WA := wA (tm_1 _ (List.mem_of_getElem? (i := 202) rfl)) rfl
theorem wm_1_203 : Cond.code yX7_init cX7_init 3 none ∈ WA := wA (tm_1 _ (List.mem_of_getElem? (i := 203) rfl)) rfl
theorem wm_1_204 : Cond.methodLink RX7 3 objectInit ∈ WA := wA (tm_1 _ (List.mem_of_getElem? (i := 204) rfl)) rfl
theorem wm_1_205 : Cond.classLink RX7 11 RX2 ∈ WA := wA (tm_1 _ (List.mem_of_getElem? (i := 205) rfl)) rfl
theorem wm_1_211 : Cond.fieldLink RX7 13 "OpenOrTake$Thought" "levels" "[LOpenOrTake$Evening;" ∈ WA := wA (tm_1 _ (List.mem_of_getElem? (i := 211) rfl)) rfl
theorem wm_1_207 : Cond.classLink RX7 17 "[[I" ∈ WA := wA (tm_1 _ (List.mem_of_getElem? (i := 207) rfl)) rfl
theorem wm_1_212 : Cond.fieldLink RX7 19 "OpenOrTake$Thought" "ends" "[[I" ∈ WA := wA (tm_1 _ (List.mem_of_getElem? (i := 212) rfl)) rfl
theorem wm_1_213 : Cond.fieldLink RX7 22 "OpenOrTake$Thought" "mostBehind" "[I" ∈ WA := wA (tm_1 _ (List.mem_of_getElem? (i := 213) rfl)) rfl
theorem wm_1_214 : Cond.fieldLink RX7 26 "OpenOrTake$Thought" "trueWorth" "[I" ∈ WA := wA (tm_1 _ (List.mem_of_getElem? (i := 214) rfl)) rfl
theorem wm_1_215 : Cond.fieldLink RX7 29 "OpenOrTake$Thought" "drawn" "[I" ∈ WA := wA (tm_1 _ (List.mem_of_getElem? (i := 215) rfl)) rfl
theorem wm_1_216 : Cond.fieldLink RX7 32 "OpenOrTake$Thought" "sums" "[I" ∈ WA := wA (tm_1 _ (List.mem_of_getElem? (i := 216) rfl)) rfl
theorem wm_1_218 : Cond.fieldLink RX7 35 "OpenOrTake$Thought" "told" "[J" ∈ WA := wA (tm_1 _ (List.mem_of_getElem? (i := 218) rfl)) rfl
theorem wm_1_219 : Cond.fieldLink RX7 39 "OpenOrTake$Thought" "toldSize" "I" ∈ WA := wA (tm_1 _ (List.mem_of_getElem? (i := 219) rfl)) rfl
theorem wm_1_210 : Cond.fieldLink RX7 43 "OpenOrTake$Thought" "party" "LOpenOrTake$Party;" ∈ WA := wA (tm_1 _ (List.mem_of_getElem? (i := 210) rfl)) rfl
theorem wm_1_209 : Cond.methodLink RX7 47 yX2_init ∈ WA := wA (tm_1 _ (List.mem_of_getElem? (i := 209) rfl)) rfl
theorem wm_2_2 : Cond.instanceMethod yX0_init ∈ WA := wA (tm_2 _ (List.mem_of_getElem? (i := 2) rfl)) rfl
theorem wm_2_3 : Cond.code yX0_init cX0_init 1 none ∈ WA := wA (tm_2 _ (List.mem_of_getElem? (i := 3) rfl)) rfl
theorem wm_2_4 : Cond.methodLink RX0 3 objectInit ∈ WA := wA (tm_2 _ (List.mem_of_getElem? (i := 4) rfl)) rfl
theorem wm_2_5 : Cond.fieldLink RX0 11 "OpenOrTake$Bodies" "kinds" "[I" ∈ WA := wA (tm_2 _ (List.mem_of_getElem? (i := 5) rfl)) rfl
theorem wm_2_6 : Cond.fieldLink RX0 15 "OpenOrTake$Bodies" "count" "I" ∈ WA := wA (tm_2 _ (List.mem_of_getElem? (i := 6) rfl)) rfl
theorem wm_2_8 : Cond.fieldLink RX0 19 "OpenOrTake$Bodies" "trace" "[I" ∈ WA := wA (tm_2 _ (List.mem_of_getElem? (i := 8) rfl)) rfl
theorem wm_2_9 : Cond.fieldLink RX0 22 "OpenOrTake$Bodies" "ran" "I" ∈ WA := wA (tm_2 _ (List.mem_of_getElem? (i := 9) rfl)) rfl
theorem wm_2_11 : Cond.fieldLink RX0 25 "OpenOrTake$Bodies" "self" "I" ∈ WA := wA (tm_2 _ (List.mem_of_getElem? (i := 11) rfl)) rfl
theorem wm_2_25 : Cond.methodLink RX8 58 yX5_init ∈ WA := wA (tm_2 _ (List.mem_of_getElem? (i := 25) rfl)) rfl
theorem wm_2_26 : Cond.instanceMethod yX5_init ∈ WA := wA (tm_2 _ (List.mem_of_getElem? (i := 26) rfl)) rfl
theorem wm_2_27 : Cond.code yX5_init cX5_init 1 none ∈ WA := wA (tm_2 _ (List.mem_of_getElem? (i := 27) rfl)) rfl
theorem wm_2_28 : Cond.methodLink RX5 3 objectInit ∈ WA := wA (tm_2 _ (List.mem_of_getElem? (i := 28) rfl)) rfl
theorem wm_2_32 : Cond.fieldLink RX5 11 "OpenOrTake$Shelves" "sort" "[I" ∈ WA := wA (tm_2 _ (List.mem_of_getElem? (i := 32) rfl)) rfl
theorem wm_2_34 : Cond.fieldLink RX5 15 "OpenOrTake$Shelves" "size" "[I" ∈ WA := wA (tm_2 _ (List.mem_of_getElem? (i := 34) rfl)) rfl
theorem wm_2_29 : Cond.classLink RX5 18 "[[J" ∈ WA := wA (tm_2 _ (List.mem_of_getElem? (i := 29) rfl)) rfl
theorem wm_2_45 : Cond.arrayClass .long ∈ WA := wA (tm_2 _ (List.mem_of_getElem? (i := 45) rfl)) rfl
theorem wm_2_36 : Cond.fieldLink RX5 20 "OpenOrTake$Shelves" "rows" "[[J" ∈ WA := wA (tm_2 _ (List.mem_of_getElem? (i := 36) rfl)) rfl
theorem wm_2_31 : Cond.methodLink RX5 23 yJ7_fill_53178 ∈ WA := wA (tm_2 _ (List.mem_of_getElem? (i := 31) rfl)) rfl
theorem wm_4_183 : Cond.methodLink RL 12 yX9_init ∈ WA := wA (tm_4 _ (List.mem_of_getElem? (i := 183) rfl)) rfl
theorem wm_4_184 : Cond.instanceMethod yX9_init ∈ WA := wA (tm_4 _ (List.mem_of_getElem? (i := 184) rfl)) rfl
theorem wm_4_185 : Cond.code yX9_init cX9_init 1 none ∈ WA := wA (tm_4 _ (List.mem_of_getElem? (i := 185) rfl)) rfl
theorem wm_4_186 : Cond.methodLink RX9 1 objectInit ∈ WA := wA (tm_4 _ (List.mem_of_getElem? (i := 186) rfl)) rfl
theorem wm_4_188 : Cond.fieldLink RX9 7 "OpenOrTakeModel" "worth" "[I" ∈ WA := wA (tm_4 _ (List.mem_of_getElem? (i := 188) rfl)) rfl
theorem wm_4_189 : Cond.fieldLink RX9 13 "OpenOrTakeModel" "like" "[I" ∈ WA := wA (tm_4 _ (List.mem_of_getElem? (i := 189) rfl)) rfl
theorem wm_4_190 : Cond.fieldLink RX9 16 "OpenOrTakeModel" "way" "[I" ∈ WA := wA (tm_4 _ (List.mem_of_getElem? (i := 190) rfl)) rfl
theorem wm_4_191 : Cond.fieldLink RX9 19 "OpenOrTakeModel" "most" "I" ∈ WA := wA (tm_4 _ (List.mem_of_getElem? (i := 191) rfl)) rfl
theorem wm_4_193 : Cond.fieldLink RX9 23 "OpenOrTakeModel" "lot" "[I" ∈ WA := wA (tm_4 _ (List.mem_of_getElem? (i := 193) rfl)) rfl
theorem wm_4_194 : Cond.fieldLink RX9 26 "OpenOrTakeModel" "owner" "[I" ∈ WA := wA (tm_4 _ (List.mem_of_getElem? (i := 194) rfl)) rfl
theorem wm_4_195 : Cond.fieldLink RX9 29 "OpenOrTakeModel" "taken1" "[I" ∈ WA := wA (tm_4 _ (List.mem_of_getElem? (i := 195) rfl)) rfl
theorem wm_4_196 : Cond.fieldLink RX9 32 "OpenOrTakeModel" "wrapped" "[I" ∈ WA := wA (tm_4 _ (List.mem_of_getElem? (i := 196) rfl)) rfl
theorem wm_4_197 : Cond.fieldLink RX9 35 "OpenOrTakeModel" "whose" "[I" ∈ WA := wA (tm_4 _ (List.mem_of_getElem? (i := 197) rfl)) rfl
theorem wm_4_198 : Cond.fieldLink RX9 38 "OpenOrTakeModel" "nextLot" "[I" ∈ WA := wA (tm_4 _ (List.mem_of_getElem? (i := 198) rfl)) rfl
theorem wm_4_199 : Cond.fieldLink RX9 41 "OpenOrTakeModel" "barred" "[I" ∈ WA := wA (tm_4 _ (List.mem_of_getElem? (i := 199) rfl)) rfl
theorem wm_4_200 : Cond.fieldLink RX9 44 "OpenOrTakeModel" "turns1" "[I" ∈ WA := wA (tm_4 _ (List.mem_of_getElem? (i := 200) rfl)) rfl
theorem wm_4_203 : Cond.fieldLink RX9 47 "OpenOrTakeModel" "ledWho" "I" ∈ WA := wA (tm_4 _ (List.mem_of_getElem? (i := 203) rfl)) rfl
theorem wm_4_208 : Cond.fieldLink RX9 50 "OpenOrTakeModel" "changeOf" "[I" ∈ WA := wA (tm_4 _ (List.mem_of_getElem? (i := 208) rfl)) rfl
theorem wm_4_209 : Cond.fieldLink RX9 53 "OpenOrTakeModel" "changeAt" "[I" ∈ WA := wA (tm_4 _ (List.mem_of_getElem? (i := 209) rfl)) rfl
theorem wm_4_210 : Cond.fieldLink RX9 56 "OpenOrTakeModel" "before" "[I" ∈ WA := wA (tm_4 _ (List.mem_of_getElem? (i := 210) rfl)) rfl
theorem wm_4_211 : Cond.fieldLink RX9 59 "OpenOrTakeModel" "behind" "[I" ∈ WA := wA (tm_4 _ (List.mem_of_getElem? (i := 211) rfl)) rfl
theorem wm_5_139 : Cond.arrayClass .byte ∈ WA := wA (tm_5 _ (List.mem_of_getElem? (i := 139) rfl)) rfl
theorem wm_4_212 : Cond.fieldLink RX9 62 "OpenOrTakeModel" "tape" "[B" ∈ WA := wA (tm_4 _ (List.mem_of_getElem? (i := 212) rfl)) rfl
theorem wm_4_218 : Cond.fieldLink RX9 66 "OpenOrTakeModel" "act" "[B" ∈ WA := wA (tm_4 _ (List.mem_of_getElem? (i := 218) rfl)) rfl
theorem wm_4_219 : Cond.fieldLink RX9 69 "OpenOrTakeModel" "with" "[I" ∈ WA := wA (tm_4 _ (List.mem_of_getElem? (i := 219) rfl)) rfl
theorem wm_4_220 : Cond.fieldLink RX9 72 "OpenOrTakeModel" "lineMany" "[I" ∈ WA := wA (tm_4 _ (List.mem_of_getElem? (i := 220) rfl)) rfl
theorem wm_5_140 : Cond.arrayClass .short ∈ WA := wA (tm_5 _ (List.mem_of_getElem? (i := 140) rfl)) rfl
theorem wm_4_221 : Cond.fieldLink RX9 75 "OpenOrTakeModel" "testEnd" "[S" ∈ WA := wA (tm_4 _ (List.mem_of_getElem? (i := 221) rfl)) rfl
theorem wm_4_222 : Cond.fieldLink RX9 79 "OpenOrTakeModel" "lineEnd" "[S" ∈ WA := wA (tm_4 _ (List.mem_of_getElem? (i := 222) rfl)) rfl
theorem wm_4_223 : Cond.fieldLink RX9 82 "OpenOrTakeModel" "facts" "[I" ∈ WA := wA (tm_4 _ (List.mem_of_getElem? (i := 223) rfl)) rfl
theorem wm_4_224 : Cond.fieldLink RX9 85 "OpenOrTakeModel" "pile" "[I" ∈ WA := wA (tm_4 _ (List.mem_of_getElem? (i := 224) rfl)) rfl
theorem wm_4_226 : Cond.fieldLink RX9 88 "OpenOrTakeModel" "keptOwner" "[I" ∈ WA := wA (tm_4 _ (List.mem_of_getElem? (i := 226) rfl)) rfl
theorem wm_4_227 : Cond.fieldLink RX9 91 "OpenOrTakeModel" "keptTaken" "[I" ∈ WA := wA (tm_4 _ (List.mem_of_getElem? (i := 227) rfl)) rfl
theorem wm_4_228 : Cond.fieldLink RX9 94 "OpenOrTakeModel" "keptRest" "[I" ∈ WA := wA (tm_4 _ (List.mem_of_getElem? (i := 228) rfl)) rfl
theorem wm_4_229 : Cond.fieldLink RX9 97 "OpenOrTakeModel" "endOwner" "[I" ∈ WA := wA (tm_4 _ (List.mem_of_getElem? (i := 229) rfl)) rfl
theorem wm_4_230 : Cond.fieldLink RX9 100 "OpenOrTakeModel" "endTurns" "[I" ∈ WA := wA (tm_4 _ (List.mem_of_getElem? (i := 230) rfl)) rfl
theorem wm_4_231 : Cond.fieldLink RX9 103 "OpenOrTakeModel" "given" "[I" ∈ WA := wA (tm_4 _ (List.mem_of_getElem? (i := 231) rfl)) rfl
theorem wm_4_232 : Cond.fieldLink RX9 106 "OpenOrTakeModel" "bestGiven" "[I" ∈ WA := wA (tm_4 _ (List.mem_of_getElem? (i := 232) rfl)) rfl
theorem wm_4_234 : Cond.fieldLink RX9 109 "OpenOrTakeModel" "keptWorth" "[I" ∈ WA := wA (tm_4 _ (List.mem_of_getElem? (i := 234) rfl)) rfl
theorem wm_4_235 : Cond.fieldLink RX9 112 "OpenOrTakeModel" "keptLot" "[I" ∈ WA := wA (tm_4 _ (List.mem_of_getElem? (i := 235) rfl)) rfl
theorem wm_4_236 : Cond.fieldLink RX9 115 "OpenOrTakeModel" "sums" "[I" ∈ WA := wA (tm_4 _ (List.mem_of_getElem? (i := 236) rfl)) rfl
theorem wm_4_237 : Cond.fieldLink RX9 118 "OpenOrTakeModel" "imagePeople" "I" ∈ WA := wA (tm_4 _ (List.mem_of_getElem? (i := 237) rfl)) rfl
theorem wm_4_238 : Cond.fieldLink RX9 121 "OpenOrTakeModel" "imageLot" "[I" ∈ WA := wA (tm_4 _ (List.mem_of_getElem? (i := 238) rfl)) rfl
theorem wm_4_239 : Cond.fieldLink RX9 124 "OpenOrTakeModel" "imageOwner" "[I" ∈ WA := wA (tm_4 _ (List.mem_of_getElem? (i := 239) rfl)) rfl
theorem wm_5_0 : Cond.fieldLink RX9 127 "OpenOrTakeModel" "imageTaken" "[I" ∈ WA := wA (tm_5 _ (List.mem_of_getElem? (i := 0) rfl)) rfl
theorem wm_5_1 : Cond.fieldLink RX9 130 "OpenOrTakeModel" "imageRest" "[I" ∈ WA := wA (tm_5 _ (List.mem_of_getElem? (i := 1) rfl)) rfl
theorem wm_5_3 : Cond.fieldLink RX9 133 "OpenOrTakeModel" "kind" "[I" ∈ WA := wA (tm_5 _ (List.mem_of_getElem? (i := 3) rfl)) rfl
theorem wm_5_5 : Cond.fieldLink RX9 136 "OpenOrTakeModel" "traced" "[I" ∈ WA := wA (tm_5 _ (List.mem_of_getElem? (i := 5) rfl)) rfl
theorem wm_5_6 : Cond.fieldLink RX9 139 "OpenOrTakeModel" "holds" "[I" ∈ WA := wA (tm_5 _ (List.mem_of_getElem? (i := 6) rfl)) rfl
theorem wm_5_7 : Cond.fieldLink RX9 142 "OpenOrTakeModel" "size" "[I" ∈ WA := wA (tm_5 _ (List.mem_of_getElem? (i := 7) rfl)) rfl
theorem wm_5_8 : Cond.fieldLink RX9 145 "OpenOrTakeModel" "elements" "[J" ∈ WA := wA (tm_5 _ (List.mem_of_getElem? (i := 8) rfl)) rfl
theorem wm_5_9 : Cond.fieldLink RX9 149 "OpenOrTakeModel" "shifted" "[J" ∈ WA := wA (tm_5 _ (List.mem_of_getElem? (i := 9) rfl)) rfl
theorem wm_2_74 : Cond.methodLink RL 13 yX8_person ∈ WA := wA (tm_2 _ (List.mem_of_getElem? (i := 74) rfl)) rfl
theorem wm_2_75 : Cond.instanceMethod yX8_person ∈ WA := wA (tm_2 _ (List.mem_of_getElem? (i := 75) rfl)) rfl
theorem wm_2_76 : Cond.selects RX8 yX8_person yX8_person ∈ WA := wA (tm_2 _ (List.mem_of_getElem? (i := 76) rfl)) rfl
theorem wm_2_77 : Cond.code yX8_person cX8_person 2 (some .int) ∈ WA := wA (tm_2 _ (List.mem_of_getElem? (i := 77) rfl)) rfl
theorem wm_1_61 : Cond.fieldLink RX8 71 "OpenOrTake$Party" "people" "I" ∈ WA := wA (tm_1 _ (List.mem_of_getElem? (i := 61) rfl)) rfl
theorem wm_2_78 : Cond.methodLink RX8 67 yX2_hasBegun ∈ WA := wA (tm_2 _ (List.mem_of_getElem? (i := 78) rfl)) rfl
theorem wm_2_79 : Cond.instanceMethod yX2_hasBegun ∈ WA := wA (tm_2 _ (List.mem_of_getElem? (i := 79) rfl)) rfl
theorem wm_2_80 : Cond.selects RX2 yX2_hasBegun yX2_hasBegun ∈ WA := wA (tm_2 _ (List.mem_of_getElem? (i := 80) rfl)) rfl
theorem wm_2_81 : Cond.code yX2_hasBegun cX2_hasBegun 1 (some .boolean) ∈ WA := wA (tm_2 _ (List.mem_of_getElem? (i := 81) rfl)) rfl
theorem wm_2_82 : Cond.methodLink RX8 74 yX8_welcome ∈ WA := wA (tm_2 _ (List.mem_of_getElem? (i := 82) rfl)) rfl
theorem wm_2_84 : Cond.instanceMethod yX8_welcome ∈ WA := wA (tm_2 _ (List.mem_of_getElem? (i := 84) rfl)) rfl
theorem wm_p_0 : Cond.selects RX8 yX8_welcome yX8_welcome ∈ WA := wA (List.mem_append_left _ (List.mem_map.mpr ⟨(yX8_welcome, 9), lwp_0, rfl⟩)) rfl
theorem wm_2_85 : Cond.code yX8_welcome cX8_welcome 3 (some .int) ∈ WA := wA (tm_2 _ (List.mem_of_getElem? (i := 85) rfl)) rfl
theorem wm_1_68 : Cond.fieldLink RX8 323 "OpenOrTake$Party" "way" "[I" ∈ WA := wA (tm_1 _ (List.mem_of_getElem? (i := 68) rfl)) rfl
theorem wm_1_153 : Cond.fieldLink RX8 110 "OpenOrTake$Evening" "lot" "[I" ∈ WA := wA (tm_1 _ (List.mem_of_getElem? (i := 153) rfl)) rfl
theorem wm_5_141 : Cond.methodLink RL 17 yX9_person ∈ WA := wA (tm_5 _ (List.mem_of_getElem? (i := 141) rfl)) rfl
theorem wm_5_142 : Cond.instanceMethod yX9_person ∈ WA := wA (tm_5 _ (List.mem_of_getElem? (i := 142) rfl)) rfl
theorem wm_5_143 : Cond.selects RX9 yX9_person yX9_person ∈ WA := wA (tm_5 _ (List.mem_of_getElem? (i := 143) rfl)) rfl
theorem wm_5_144 : Cond.code yX9_person cX9_person 2 (some .int) ∈ WA := wA (tm_5 _ (List.mem_of_getElem? (i := 144) rfl)) rfl
theorem wm_4_201 : Cond.fieldLink RX9 166 "OpenOrTakeModel" "begun" "I" ∈ WA := wA (tm_4 _ (List.mem_of_getElem? (i := 201) rfl)) rfl
theorem wm_4_187 : Cond.fieldLink RX9 155 "OpenOrTakeModel" "people" "I" ∈ WA := wA (tm_4 _ (List.mem_of_getElem? (i := 187) rfl)) rfl
theorem wm_5_145 : Cond.methodLink RX9 158 yX9_in ∈ WA := wA (tm_5 _ (List.mem_of_getElem? (i := 145) rfl)) rfl
theorem wm_5_146 : Cond.static yX9_in ∈ WA := wA (tm_5 _ (List.mem_of_getElem? (i := 146) rfl)) rfl
theorem wm_5_147 : Cond.code yX9_in cX9_in 3 (some .boolean) ∈ WA := wA (tm_5 _ (List.mem_of_getElem? (i := 147) rfl)) rfl
theorem wm_5_148 : Cond.methodLink RX9 169 yX9_addPerson ∈ WA := wA (tm_5 _ (List.mem_of_getElem? (i := 148) rfl)) rfl
theorem wm_5_150 : Cond.instanceMethod yX9_addPerson ∈ WA := wA (tm_5 _ (List.mem_of_getElem? (i := 150) rfl)) rfl
theorem wm_p_35 : Cond.selects RX9 yX9_addPerson yX9_addPerson ∈ WA := wA (List.mem_append_left _ (List.mem_map.mpr ⟨(yX9_addPerson, 64), lwp_35, rfl⟩)) rfl
theorem wm_5_151 : Cond.code yX9_addPerson cX9_addPerson 2 (some .int) ∈ WA := wA (tm_5 _ (List.mem_of_getElem? (i := 151) rfl)) rfl
theorem wm_5_152 : Cond.methodLink RX9 162 yX9_beginAt ∈ WA := wA (tm_5 _ (List.mem_of_getElem? (i := 152) rfl)) rfl
theorem wm_5_154 : Cond.instanceMethod yX9_beginAt ∈ WA := wA (tm_5 _ (List.mem_of_getElem? (i := 154) rfl)) rfl
theorem wm_p_36 : Cond.selects RX9 yX9_beginAt yX9_beginAt ∈ WA := wA (List.mem_append_left _ (List.mem_map.mpr ⟨(yX9_beginAt, 64), lwp_36, rfl⟩)) rfl
theorem wm_5_155 : Cond.code yX9_beginAt cX9_beginAt 3 none ∈ WA := wA (tm_5 _ (List.mem_of_getElem? (i := 155) rfl)) rfl
theorem wm_2_86 : Cond.methodLink RL 18 yX8_people ∈ WA := wA (tm_2 _ (List.mem_of_getElem? (i := 86) rfl)) rfl
theorem wm_2_87 : Cond.instanceMethod yX8_people ∈ WA := wA (tm_2 _ (List.mem_of_getElem? (i := 87) rfl)) rfl
theorem wm_2_88 : Cond.selects RX8 yX8_people yX8_people ∈ WA := wA (tm_2 _ (List.mem_of_getElem? (i := 88) rfl)) rfl
theorem wm_2_89 : Cond.code yX8_people cX8_people 6 (some .int) ∈ WA := wA (tm_2 _ (List.mem_of_getElem? (i := 89) rfl)) rfl
theorem wm_2_90 : Cond.methodLink RX8 78 yX5_isShelf ∈ WA := wA (tm_2 _ (List.mem_of_getElem? (i := 90) rfl)) rfl
theorem wm_2_91 : Cond.instanceMethod yX5_isShelf ∈ WA := wA (tm_2 _ (List.mem_of_getElem? (i := 91) rfl)) rfl
theorem wm_2_92 : Cond.selects RX5 yX5_isShelf yX5_isShelf ∈ WA := wA (tm_2 _ (List.mem_of_getElem? (i := 92) rfl)) rfl
theorem wm_2_93 : Cond.code yX5_isShelf cX5_isShelf 2 (some .boolean) ∈ WA := wA (tm_2 _ (List.mem_of_getElem? (i := 93) rfl)) rfl
theorem wm_2_94 : Cond.methodLink RX8 82 yX5_refusalOfBytes ∈ WA := wA (tm_2 _ (List.mem_of_getElem? (i := 94) rfl)) rfl
theorem wm_2_95 : Cond.instanceMethod yX5_refusalOfBytes ∈ WA := wA (tm_2 _ (List.mem_of_getElem? (i := 95) rfl)) rfl
theorem wm_2_96 : Cond.selects RX5 yX5_refusalOfBytes yX5_refusalOfBytes ∈ WA := wA (tm_2 _ (List.mem_of_getElem? (i := 96) rfl)) rfl
theorem wm_2_97 : Cond.code yX5_refusalOfBytes cX5_refusalOfBytes 2 (some .int) ∈ WA := wA (tm_2 _ (List.mem_of_getElem? (i := 97) rfl)) rfl
theorem wm_2_98 : Cond.methodLink RX5 32 yX5_isShelf ∈ WA := wA (tm_2 _ (List.mem_of_getElem? (i := 98) rfl)) rfl
theorem wm_2_99 : Cond.methodLink RX5 36 yX5_isEmpty ∈ WA := wA (tm_2 _ (List.mem_of_getElem? (i := 99) rfl)) rfl
theorem wm_2_100 : Cond.instanceMethod yX5_isEmpty ∈ WA := wA (tm_2 _ (List.mem_of_getElem? (i := 100) rfl)) rfl
theorem wm_2_101 : Cond.selects RX5 yX5_isEmpty yX5_isEmpty ∈ WA := wA (tm_2 _ (List.mem_of_getElem? (i := 101) rfl)) rfl
theorem wm_2_102 : Cond.code yX5_isEmpty cX5_isEmpty 2 (some .boolean) ∈ WA := wA (tm_2 _ (List.mem_of_getElem? (i := 102) rfl)) rfl
theorem wm_2_103 : Cond.methodLink RX8 85 yX8_welcomeFrom ∈ WA := wA (tm_2 _ (List.mem_of_getElem? (i := 103) rfl)) rfl
theorem wm_2_105 : Cond.instanceMethod yX8_welcomeFrom ∈ WA := wA (tm_2 _ (List.mem_of_getElem? (i := 105) rfl)) rfl
theorem wm_p_1 : Cond.selects RX8 yX8_welcomeFrom yX8_welcomeFrom ∈ WA := wA (List.mem_append_left _ (List.mem_map.mpr ⟨(yX8_welcomeFrom, 9), lwp_1, rfl⟩)) rfl
theorem wm_2_106 : Cond.code yX8_welcomeFrom cX8_welcomeFrom 4 (some .boolean) ∈ WA := wA (tm_2 _ (List.mem_of_getElem? (i := 106) rfl)) rfl
theorem wm_2_37 : Cond.fieldLink RX8 226 "OpenOrTake$Shelves" "rows" "[[J" ∈ WA := wA (tm_2 _ (List.mem_of_getElem? (i := 37) rfl)) rfl
theorem wm_2_107 : Cond.methodLink RX8 278 yX5_refusalOfElement ∈ WA := wA (tm_2 _ (List.mem_of_getElem? (i := 107) rfl)) rfl
theorem wm_2_108 : Cond.instanceMethod yX5_refusalOfElement ∈ WA := wA (tm_2 _ (List.mem_of_getElem? (i := 108) rfl)) rfl
theorem wm_2_109 : Cond.selects RX5 yX5_refusalOfElement yX5_refusalOfElement ∈ WA := wA (tm_2 _ (List.mem_of_getElem? (i := 109) rfl)) rfl
theorem wm_2_110 : Cond.code yX5_refusalOfElement cX5_refusalOfElement 3 (some .int) ∈ WA := wA (tm_2 _ (List.mem_of_getElem? (i := 110) rfl)) rfl
theorem wm_2_111 : Cond.methodLink RX5 39 yX5_isRow ∈ WA := wA (tm_2 _ (List.mem_of_getElem? (i := 111) rfl)) rfl
theorem wm_2_112 : Cond.instanceMethod yX5_isRow ∈ WA := wA (tm_2 _ (List.mem_of_getElem? (i := 112) rfl)) rfl
theorem wm_2_113 : Cond.selects RX5 yX5_isRow yX5_isRow ∈ WA := wA (tm_2 _ (List.mem_of_getElem? (i := 113) rfl)) rfl
theorem wm_2_114 : Cond.code yX5_isRow cX5_isRow 2 (some .boolean) ∈ WA := wA (tm_2 _ (List.mem_of_getElem? (i := 114) rfl)) rfl
theorem wm_5_156 : Cond.methodLink RL 22 yX9_people ∈ WA := wA (tm_5 _ (List.mem_of_getElem? (i := 156) rfl)) rfl
theorem wm_5_157 : Cond.instanceMethod yX9_people ∈ WA := wA (tm_5 _ (List.mem_of_getElem? (i := 157) rfl)) rfl
theorem wm_5_158 : Cond.selects RX9 yX9_people yX9_people ∈ WA := wA (tm_5 _ (List.mem_of_getElem? (i := 158) rfl)) rfl
theorem wm_5_159 : Cond.code yX9_people cX9_people 8 (some .int) ∈ WA := wA (tm_5 _ (List.mem_of_getElem? (i := 159) rfl)) rfl
theorem wm_5_160 : Cond.methodLink RX9 173 yX9_isShelf ∈ WA := wA (tm_5 _ (List.mem_of_getElem? (i := 160) rfl)) rfl
theorem wm_5_161 : Cond.static yX9_isShelf ∈ WA := wA (tm_5 _ (List.mem_of_getElem? (i := 161) rfl)) rfl
theorem wm_5_162 : Cond.code yX9_isShelf cX9_isShelf 1 (some .boolean) ∈ WA := wA (tm_5 _ (List.mem_of_getElem? (i := 162) rfl)) rfl
theorem wm_2_115 : Cond.methodLink RL 23 yX8_mend ∈ WA := wA (tm_2 _ (List.mem_of_getElem? (i := 115) rfl)) rfl
theorem wm_2_116 : Cond.instanceMethod yX8_mend ∈ WA := wA (tm_2 _ (List.mem_of_getElem? (i := 116) rfl)) rfl
theorem wm_2_117 : Cond.selects RX8 yX8_mend yX8_mend ∈ WA := wA (tm_2 _ (List.mem_of_getElem? (i := 117) rfl)) rfl
theorem wm_2_118 : Cond.code yX8_mend cX8_mend 5 (some .int) ∈ WA := wA (tm_2 _ (List.mem_of_getElem? (i := 118) rfl)) rfl
theorem wm_2_119 : Cond.methodLink RX8 89 yX4_knows ∈ WA := wA (tm_2 _ (List.mem_of_getElem? (i := 119) rfl)) rfl
theorem wm_2_120 : Cond.instanceMethod yX4_knows ∈ WA := wA (tm_2 _ (List.mem_of_getElem? (i := 120) rfl)) rfl
theorem wm_2_121 : Cond.selects RX4 yX4_knows yX4_knows ∈ WA := wA (tm_2 _ (List.mem_of_getElem? (i := 121) rfl)) rfl
theorem wm_2_122 : Cond.code yX4_knows cX4_knows 3 (some .boolean) ∈ WA := wA (tm_2 _ (List.mem_of_getElem? (i := 122) rfl)) rfl
theorem wm_2_123 : Cond.methodLink RX4 48 yX4_isPair ∈ WA := wA (tm_2 _ (List.mem_of_getElem? (i := 123) rfl)) rfl
theorem wm_2_124 : Cond.instanceMethod yX4_isPair ∈ WA := wA (tm_2 _ (List.mem_of_getElem? (i := 124) rfl)) rfl
theorem wm_2_125 : Cond.selects RX4 yX4_isPair yX4_isPair ∈ WA := wA (tm_2 _ (List.mem_of_getElem? (i := 125) rfl)) rfl
theorem wm_2_126 : Cond.code yX4_isPair cX4_isPair 2 (some .boolean) ∈ WA := wA (tm_2 _ (List.mem_of_getElem? (i := 126) rfl)) rfl
theorem wm_2_127 : Cond.methodLink RX4 44 yX4_isOne ∈ WA := wA (tm_2 _ (List.mem_of_getElem? (i := 127) rfl)) rfl
theorem wm_2_128 : Cond.instanceMethod yX4_isOne ∈ WA := wA (tm_2 _ (List.mem_of_getElem? (i := 128) rfl)) rfl
theorem wm_2_129 : Cond.selects RX4 yX4_isOne yX4_isOne ∈ WA := wA (tm_2 _ (List.mem_of_getElem? (i := 129) rfl)) rfl
theorem wm_2_130 : Cond.code yX4_isOne cX4_isOne 2 (some .boolean) ∈ WA := wA (tm_2 _ (List.mem_of_getElem? (i := 130) rfl)) rfl
theorem wm_2_131 : Cond.methodLink RX8 92 yX4_allows ∈ WA := wA (tm_2 _ (List.mem_of_getElem? (i := 131) rfl)) rfl
theorem wm_2_132 : Cond.static yX4_allows ∈ WA := wA (tm_2 _ (List.mem_of_getElem? (i := 132) rfl)) rfl
theorem wm_2_133 : Cond.code yX4_allows cX4_allows 2 (some .boolean) ∈ WA := wA (tm_2 _ (List.mem_of_getElem? (i := 133) rfl)) rfl
theorem wm_2_134 : Cond.methodLink RX8 95 yX4_value ∈ WA := wA (tm_2 _ (List.mem_of_getElem? (i := 134) rfl)) rfl
theorem wm_2_135 : Cond.instanceMethod yX4_value ∈ WA := wA (tm_2 _ (List.mem_of_getElem? (i := 135) rfl)) rfl
theorem wm_2_136 : Cond.selects RX4 yX4_value yX4_value ∈ WA := wA (tm_2 _ (List.mem_of_getElem? (i := 136) rfl)) rfl
theorem wm_2_137 : Cond.code yX4_value cX4_value 3 (some .int) ∈ WA := wA (tm_2 _ (List.mem_of_getElem? (i := 137) rfl)) rfl
theorem wm_2_138 : Cond.methodLink RX4 51 yX4_knows ∈ WA := wA (tm_2 _ (List.mem_of_getElem? (i := 138) rfl)) rfl
theorem wm_2_139 : Cond.methodLink RX8 99 yX1_note ∈ WA := wA (tm_2 _ (List.mem_of_getElem? (i := 139) rfl)) rfl
theorem wm_2_140 : Cond.instanceMethod yX1_note ∈ WA := wA (tm_2 _ (List.mem_of_getElem? (i := 140) rfl)) rfl
theorem wm_2_141 : Cond.selects RX1 yX1_note yX1_note ∈ WA := wA (tm_2 _ (List.mem_of_getElem? (i := 141) rfl)) rfl
theorem wm_2_142 : Cond.code yX1_note cX1_note 5 none ∈ WA := wA (tm_2 _ (List.mem_of_getElem? (i := 142) rfl)) rfl
theorem wm_2_143 : Cond.methodLink RX1 29 yX1_forgetOldest ∈ WA := wA (tm_2 _ (List.mem_of_getElem? (i := 143) rfl)) rfl
theorem wm_2_145 : Cond.instanceMethod yX1_forgetOldest ∈ WA := wA (tm_2 _ (List.mem_of_getElem? (i := 145) rfl)) rfl
theorem wm_p_2 : Cond.selects RX1 yX1_forgetOldest yX1_forgetOldest ∈ WA := wA (List.mem_append_left _ (List.mem_map.mpr ⟨(yX1_forgetOldest, 6), lwp_2, rfl⟩)) rfl
theorem wm_2_146 : Cond.code yX1_forgetOldest cX1_forgetOldest 1 none ∈ WA := wA (tm_2 _ (List.mem_of_getElem? (i := 146) rfl)) rfl
theorem wm_2_147 : Cond.methodLink RX1 32 arraycopyName ∈ WA := wA (tm_2 _ (List.mem_of_getElem? (i := 147) rfl)) rfl
theorem wm_2_149 : Cond.native arraycopyName ∈ WA := wA (tm_2 _ (List.mem_of_getElem? (i := 149) rfl)) rfl
theorem wm_2_148 : Cond.static arraycopyName ∈ WA := wA (tm_2 _ (List.mem_of_getElem? (i := 148) rfl)) rfl
theorem wm_1_12 : Cond.initialized "java/lang/System" ∈ WA := wA (tm_1 _ (List.mem_of_getElem? (i := 12) rfl)) rfl
theorem wm_2_150 : Cond.methodLink RX8 103 yX4_become ∈ WA := wA (tm_2 _ (List.mem_of_getElem? (i := 150) rfl)) rfl
theorem wm_2_151 : Cond.instanceMethod yX4_become ∈ WA := wA (tm_2 _ (List.mem_of_getElem? (i := 151) rfl)) rfl
theorem wm_2_152 : Cond.selects RX4 yX4_become yX4_become ∈ WA := wA (tm_2 _ (List.mem_of_getElem? (i := 152) rfl)) rfl
theorem wm_2_153 : Cond.code yX4_become cX4_become 4 none ∈ WA := wA (tm_2 _ (List.mem_of_getElem? (i := 153) rfl)) rfl
theorem wm_5_175 : Cond.methodLink RL 26 yX9_mend ∈ WA := wA (tm_5 _ (List.mem_of_getElem? (i := 175) rfl)) rfl
theorem wm_5_176 : Cond.instanceMethod yX9_mend ∈ WA := wA (tm_5 _ (List.mem_of_getElem? (i := 176) rfl)) rfl
theorem wm_5_177 : Cond.selects RX9 yX9_mend yX9_mend ∈ WA := wA (tm_5 _ (List.mem_of_getElem? (i := 177) rfl)) rfl
theorem wm_5_178 : Cond.code yX9_mend cX9_mend 4 (some .int) ∈ WA := wA (tm_5 _ (List.mem_of_getElem? (i := 178) rfl)) rfl
theorem wm_5_179 : Cond.methodLink RX9 197 yX9_areBoth ∈ WA := wA (tm_5 _ (List.mem_of_getElem? (i := 179) rfl)) rfl
theorem wm_5_181 : Cond.instanceMethod yX9_areBoth ∈ WA := wA (tm_5 _ (List.mem_of_getElem? (i := 181) rfl)) rfl
theorem wm_p_38 : Cond.selects RX9 yX9_areBoth yX9_areBoth ∈ WA := wA (List.mem_append_left _ (List.mem_map.mpr ⟨(yX9_areBoth, 64), lwp_38, rfl⟩)) rfl
theorem wm_5_182 : Cond.code yX9_areBoth cX9_areBoth 2 (some .boolean) ∈ WA := wA (tm_5 _ (List.mem_of_getElem? (i := 182) rfl)) rfl
theorem wm_5_183 : Cond.methodLink RX9 194 yX9_isPerson ∈ WA := wA (tm_5 _ (List.mem_of_getElem? (i := 183) rfl)) rfl
theorem wm_5_185 : Cond.instanceMethod yX9_isPerson ∈ WA := wA (tm_5 _ (List.mem_of_getElem? (i := 185) rfl)) rfl
theorem wm_p_39 : Cond.selects RX9 yX9_isPerson yX9_isPerson ∈ WA := wA (List.mem_append_left _ (List.mem_map.mpr ⟨(yX9_isPerson, 64), lwp_39, rfl⟩)) rfl
theorem wm_5_186 : Cond.code yX9_isPerson cX9_isPerson 2 (some .boolean) ∈ WA := wA (tm_5 _ (List.mem_of_getElem? (i := 186) rfl)) rfl
theorem wm_5_187 : Cond.methodLink RX9 200 yX9_place ∈ WA := wA (tm_5 _ (List.mem_of_getElem? (i := 187) rfl)) rfl
theorem wm_5_188 : Cond.static yX9_place ∈ WA := wA (tm_5 _ (List.mem_of_getElem? (i := 188) rfl)) rfl
theorem wm_5_189 : Cond.code yX9_place cX9_place 1 (some .int) ∈ WA := wA (tm_5 _ (List.mem_of_getElem? (i := 189) rfl)) rfl
theorem wm_5_190 : Cond.methodLink RX9 203 yX9_changes ∈ WA := wA (tm_5 _ (List.mem_of_getElem? (i := 190) rfl)) rfl
theorem wm_5_192 : Cond.instanceMethod yX9_changes ∈ WA := wA (tm_5 _ (List.mem_of_getElem? (i := 192) rfl)) rfl
theorem wm_p_40 : Cond.selects RX9 yX9_changes yX9_changes ∈ WA := wA (List.mem_append_left _ (List.mem_map.mpr ⟨(yX9_changes, 64), lwp_40, rfl⟩)) rfl
theorem wm_5_193 : Cond.code yX9_changes cX9_changes 6 (some .int) ∈ WA := wA (tm_5 _ (List.mem_of_getElem? (i := 193) rfl)) rfl
theorem wm_4_207 : Cond.fieldLink RX9 184 "OpenOrTakeModel" "undoneMany" "I" ∈ WA := wA (tm_4 _ (List.mem_of_getElem? (i := 207) rfl)) rfl
theorem wm_4_206 : Cond.fieldLink RX9 187 "OpenOrTakeModel" "doneMany" "I" ∈ WA := wA (tm_4 _ (List.mem_of_getElem? (i := 206) rfl)) rfl
theorem wm_5_194 : Cond.methodLink RX9 180 yX9_valueAt ∈ WA := wA (tm_5 _ (List.mem_of_getElem? (i := 194) rfl)) rfl
theorem wm_5_196 : Cond.instanceMethod yX9_valueAt ∈ WA := wA (tm_5 _ (List.mem_of_getElem? (i := 196) rfl)) rfl
theorem wm_p_41 : Cond.selects RX9 yX9_valueAt yX9_valueAt ∈ WA := wA (List.mem_append_left _ (List.mem_map.mpr ⟨(yX9_valueAt, 64), lwp_41, rfl⟩)) rfl
theorem wm_5_197 : Cond.code yX9_valueAt cX9_valueAt 3 (some .int) ∈ WA := wA (tm_5 _ (List.mem_of_getElem? (i := 197) rfl)) rfl
theorem wm_4_192 : Cond.fieldLink RX9 177 "OpenOrTakeModel" "again1" "I" ∈ WA := wA (tm_4 _ (List.mem_of_getElem? (i := 192) rfl)) rfl
theorem wm_5_167 : Cond.methodLink RX9 190 yX9_lays ∈ WA := wA (tm_5 _ (List.mem_of_getElem? (i := 167) rfl)) rfl
theorem wm_5_169 : Cond.instanceMethod yX9_lays ∈ WA := wA (tm_5 _ (List.mem_of_getElem? (i := 169) rfl)) rfl
theorem wm_p_37 : Cond.selects RX9 yX9_lays yX9_lays ∈ WA := wA (List.mem_append_left _ (List.mem_map.mpr ⟨(yX9_lays, 64), lwp_37, rfl⟩)) rfl
theorem wm_5_170 : Cond.code yX9_lays cX9_lays 4 none ∈ WA := wA (tm_5 _ (List.mem_of_getElem? (i := 170) rfl)) rfl
theorem wm_2_154 : Cond.methodLink RL 27 yX8_of ∈ WA := wA (tm_2 _ (List.mem_of_getElem? (i := 154) rfl)) rfl
theorem wm_2_155 : Cond.instanceMethod yX8_of ∈ WA := wA (tm_2 _ (List.mem_of_getElem? (i := 155) rfl)) rfl
theorem wm_2_156 : Cond.selects RX8 yX8_of yX8_of ∈ WA := wA (tm_2 _ (List.mem_of_getElem? (i := 156) rfl)) rfl
theorem wm_2_157 : Cond.code yX8_of cX8_of 3 (some .int) ∈ WA := wA (tm_2 _ (List.mem_of_getElem? (i := 157) rfl)) rfl
theorem wm_1_157 : Cond.fieldLink RX8 114 "OpenOrTake$Evening" "has" "[I" ∈ WA := wA (tm_1 _ (List.mem_of_getElem? (i := 157) rfl)) rfl
theorem wm_1_160 : Cond.fieldLink RX8 117 "OpenOrTake$Evening" "taken" "[I" ∈ WA := wA (tm_1 _ (List.mem_of_getElem? (i := 160) rfl)) rfl
theorem wm_1_164 : Cond.fieldLink RX8 120 "OpenOrTake$Evening" "opened" "I" ∈ WA := wA (tm_1 _ (List.mem_of_getElem? (i := 164) rfl)) rfl
theorem wm_2_158 : Cond.methodLink RX8 107 yX4_isOne ∈ WA := wA (tm_2 _ (List.mem_of_getElem? (i := 158) rfl)) rfl
theorem wm_5_198 : Cond.methodLink RL 31 yX9_of ∈ WA := wA (tm_5 _ (List.mem_of_getElem? (i := 198) rfl)) rfl
theorem wm_5_199 : Cond.instanceMethod yX9_of ∈ WA := wA (tm_5 _ (List.mem_of_getElem? (i := 199) rfl)) rfl
theorem wm_5_200 : Cond.selects RX9 yX9_of yX9_of ∈ WA := wA (tm_5 _ (List.mem_of_getElem? (i := 200) rfl)) rfl
theorem wm_5_201 : Cond.code yX9_of cX9_of 3 (some .int) ∈ WA := wA (tm_5 _ (List.mem_of_getElem? (i := 201) rfl)) rfl
theorem wm_5_202 : Cond.methodLink RX9 207 yX9_hasIn ∈ WA := wA (tm_5 _ (List.mem_of_getElem? (i := 202) rfl)) rfl
theorem wm_5_204 : Cond.instanceMethod yX9_hasIn ∈ WA := wA (tm_5 _ (List.mem_of_getElem? (i := 204) rfl)) rfl
theorem wm_p_42 : Cond.selects RX9 yX9_hasIn yX9_hasIn ∈ WA := wA (List.mem_append_left _ (List.mem_map.mpr ⟨(yX9_hasIn, 64), lwp_42, rfl⟩)) rfl
theorem wm_5_205 : Cond.code yX9_hasIn cX9_hasIn 4 (some .int) ∈ WA := wA (tm_5 _ (List.mem_of_getElem? (i := 205) rfl)) rfl
theorem wm_5_206 : Cond.methodLink RX9 210 yX9_bit ∈ WA := wA (tm_5 _ (List.mem_of_getElem? (i := 206) rfl)) rfl
theorem wm_5_207 : Cond.static yX9_bit ∈ WA := wA (tm_5 _ (List.mem_of_getElem? (i := 207) rfl)) rfl
theorem wm_5_208 : Cond.code yX9_bit cX9_bit 2 (some .int) ∈ WA := wA (tm_5 _ (List.mem_of_getElem? (i := 208) rfl)) rfl
theorem wm_2_159 : Cond.methodLink RL 32 yX8_swap ∈ WA := wA (tm_2 _ (List.mem_of_getElem? (i := 159) rfl)) rfl
theorem wm_2_160 : Cond.instanceMethod yX8_swap ∈ WA := wA (tm_2 _ (List.mem_of_getElem? (i := 160) rfl)) rfl
theorem wm_2_161 : Cond.selects RX8 yX8_swap yX8_swap ∈ WA := wA (tm_2 _ (List.mem_of_getElem? (i := 161) rfl)) rfl
theorem wm_2_162 : Cond.code yX8_swap cX8_swap 2 (some .int) ∈ WA := wA (tm_2 _ (List.mem_of_getElem? (i := 162) rfl)) rfl
theorem wm_2_163 : Cond.methodLink RX8 123 yX4_isPair ∈ WA := wA (tm_2 _ (List.mem_of_getElem? (i := 163) rfl)) rfl
theorem wm_2_164 : Cond.methodLink RX8 126 yX2_changePlaces ∈ WA := wA (tm_2 _ (List.mem_of_getElem? (i := 164) rfl)) rfl
theorem wm_2_165 : Cond.instanceMethod yX2_changePlaces ∈ WA := wA (tm_2 _ (List.mem_of_getElem? (i := 165) rfl)) rfl
theorem wm_2_166 : Cond.selects RX2 yX2_changePlaces yX2_changePlaces ∈ WA := wA (tm_2 _ (List.mem_of_getElem? (i := 166) rfl)) rfl
theorem wm_2_167 : Cond.code yX2_changePlaces cX2_changePlaces 4 none ∈ WA := wA (tm_2 _ (List.mem_of_getElem? (i := 167) rfl)) rfl
theorem wm_5_209 : Cond.methodLink RL 35 yX9_swap ∈ WA := wA (tm_5 _ (List.mem_of_getElem? (i := 209) rfl)) rfl
theorem wm_5_210 : Cond.instanceMethod yX9_swap ∈ WA := wA (tm_5 _ (List.mem_of_getElem? (i := 210) rfl)) rfl
theorem wm_5_211 : Cond.selects RX9 yX9_swap yX9_swap ∈ WA := wA (tm_5 _ (List.mem_of_getElem? (i := 211) rfl)) rfl
theorem wm_5_212 : Cond.code yX9_swap cX9_swap 2 (some .int) ∈ WA := wA (tm_5 _ (List.mem_of_getElem? (i := 212) rfl)) rfl
theorem wm_5_213 : Cond.methodLink RX9 213 yX9_swapLot ∈ WA := wA (tm_5 _ (List.mem_of_getElem? (i := 213) rfl)) rfl
theorem wm_5_215 : Cond.instanceMethod yX9_swapLot ∈ WA := wA (tm_5 _ (List.mem_of_getElem? (i := 215) rfl)) rfl
theorem wm_p_43 : Cond.selects RX9 yX9_swapLot yX9_swapLot ∈ WA := wA (List.mem_append_left _ (List.mem_map.mpr ⟨(yX9_swapLot, 64), lwp_43, rfl⟩)) rfl
theorem wm_5_216 : Cond.code yX9_swapLot cX9_swapLot 4 none ∈ WA := wA (tm_5 _ (List.mem_of_getElem? (i := 216) rfl)) rfl
theorem wm_2_168 : Cond.methodLink RL 36 yX8_feed ∈ WA := wA (tm_2 _ (List.mem_of_getElem? (i := 168) rfl)) rfl
theorem wm_2_169 : Cond.instanceMethod yX8_feed ∈ WA := wA (tm_2 _ (List.mem_of_getElem? (i := 169) rfl)) rfl
theorem wm_2_170 : Cond.selects RX8 yX8_feed yX8_feed ∈ WA := wA (tm_2 _ (List.mem_of_getElem? (i := 170) rfl)) rfl
theorem wm_2_171 : Cond.code yX8_feed cX8_feed 2 (some .int) ∈ WA := wA (tm_2 _ (List.mem_of_getElem? (i := 171) rfl)) rfl
theorem wm_1_130 : Cond.fieldLink RX8 133 "OpenOrTake$Tape" "length" "I" ∈ WA := wA (tm_1 _ (List.mem_of_getElem? (i := 130) rfl)) rfl
theorem wm_2_172 : Cond.methodLink RX8 130 yX6_append ∈ WA := wA (tm_2 _ (List.mem_of_getElem? (i := 172) rfl)) rfl
theorem wm_2_173 : Cond.instanceMethod yX6_append ∈ WA := wA (tm_2 _ (List.mem_of_getElem? (i := 173) rfl)) rfl
theorem wm_2_174 : Cond.selects RX6 yX6_append yX6_append ∈ WA := wA (tm_2 _ (List.mem_of_getElem? (i := 174) rfl)) rfl
theorem wm_2_175 : Cond.code yX6_append cX6_append 2 (some .boolean) ∈ WA := wA (tm_2 _ (List.mem_of_getElem? (i := 175) rfl)) rfl
theorem wm_5_217 : Cond.methodLink RL 39 yX9_feed ∈ WA := wA (tm_5 _ (List.mem_of_getElem? (i := 217) rfl)) rfl
theorem wm_5_218 : Cond.instanceMethod yX9_feed ∈ WA := wA (tm_5 _ (List.mem_of_getElem? (i := 218) rfl)) rfl
theorem wm_5_219 : Cond.selects RX9 yX9_feed yX9_feed ∈ WA := wA (tm_5 _ (List.mem_of_getElem? (i := 219) rfl)) rfl
theorem wm_5_220 : Cond.code yX9_feed cX9_feed 2 (some .int) ∈ WA := wA (tm_5 _ (List.mem_of_getElem? (i := 220) rfl)) rfl
theorem wm_4_213 : Cond.fieldLink RX9 217 "OpenOrTakeModel" "taped" "I" ∈ WA := wA (tm_4 _ (List.mem_of_getElem? (i := 213) rfl)) rfl
theorem wm_2_176 : Cond.methodLink RL 40 yX8_law ∈ WA := wA (tm_2 _ (List.mem_of_getElem? (i := 176) rfl)) rfl
theorem wm_2_177 : Cond.instanceMethod yX8_law ∈ WA := wA (tm_2 _ (List.mem_of_getElem? (i := 177) rfl)) rfl
theorem wm_2_178 : Cond.selects RX8 yX8_law yX8_law ∈ WA := wA (tm_2 _ (List.mem_of_getElem? (i := 178) rfl)) rfl
theorem wm_2_179 : Cond.code yX8_law cX8_law 2 (some .int) ∈ WA := wA (tm_2 _ (List.mem_of_getElem? (i := 179) rfl)) rfl
theorem wm_1_76 : Cond.fieldLink RX8 140 "OpenOrTake$Party" "law" "LOpenOrTake$Law;" ∈ WA := wA (tm_1 _ (List.mem_of_getElem? (i := 76) rfl)) rfl
theorem wm_2_180 : Cond.methodLink RX8 136 yX6_read ∈ WA := wA (tm_2 _ (List.mem_of_getElem? (i := 180) rfl)) rfl
theorem wm_2_181 : Cond.instanceMethod yX6_read ∈ WA := wA (tm_2 _ (List.mem_of_getElem? (i := 181) rfl)) rfl
theorem wm_2_182 : Cond.selects RX6 yX6_read yX6_read ∈ WA := wA (tm_2 _ (List.mem_of_getElem? (i := 182) rfl)) rfl
theorem wm_2_183 : Cond.code yX6_read cX6_read 2 (some .int) ∈ WA := wA (tm_2 _ (List.mem_of_getElem? (i := 183) rfl)) rfl
theorem wm_2_184 : Cond.methodLink RX6 32 yX3_clear ∈ WA := wA (tm_2 _ (List.mem_of_getElem? (i := 184) rfl)) rfl
theorem wm_2_185 : Cond.instanceMethod yX3_clear ∈ WA := wA (tm_2 _ (List.mem_of_getElem? (i := 185) rfl)) rfl
theorem wm_2_186 : Cond.selects RX3 yX3_clear yX3_clear ∈ WA := wA (tm_2 _ (List.mem_of_getElem? (i := 186) rfl)) rfl
theorem wm_2_187 : Cond.code yX3_clear cX3_clear 1 none ∈ WA := wA (tm_2 _ (List.mem_of_getElem? (i := 187) rfl)) rfl
theorem wm_2_188 : Cond.methodLink RX6 35 yX6_line ∈ WA := wA (tm_2 _ (List.mem_of_getElem? (i := 188) rfl)) rfl
theorem wm_2_190 : Cond.instanceMethod yX6_line ∈ WA := wA (tm_2 _ (List.mem_of_getElem? (i := 190) rfl)) rfl
theorem wm_p_3 : Cond.selects RX6 yX6_line yX6_line ∈ WA := wA (List.mem_append_left _ (List.mem_map.mpr ⟨(yX6_line, 5), lwp_3, rfl⟩)) rfl
theorem wm_2_191 : Cond.code yX6_line cX6_line 1 none ∈ WA := wA (tm_2 _ (List.mem_of_getElem? (i := 191) rfl)) rfl
theorem wm_2_192 : Cond.methodLink RX6 53 yX6_either ∈ WA := wA (tm_2 _ (List.mem_of_getElem? (i := 192) rfl)) rfl
theorem wm_2_194 : Cond.instanceMethod yX6_either ∈ WA := wA (tm_2 _ (List.mem_of_getElem? (i := 194) rfl)) rfl
theorem wm_p_4 : Cond.selects RX6 yX6_either yX6_either ∈ WA := wA (List.mem_append_left _ (List.mem_map.mpr ⟨(yX6_either, 5), lwp_4, rfl⟩)) rfl
theorem wm_2_195 : Cond.code yX6_either cX6_either 3 none ∈ WA := wA (tm_2 _ (List.mem_of_getElem? (i := 195) rfl)) rfl
theorem wm_2_196 : Cond.methodLink RX6 63 yX6_both ∈ WA := wA (tm_2 _ (List.mem_of_getElem? (i := 196) rfl)) rfl
theorem wm_2_198 : Cond.instanceMethod yX6_both ∈ WA := wA (tm_2 _ (List.mem_of_getElem? (i := 198) rfl)) rfl
theorem wm_p_5 : Cond.selects RX6 yX6_both yX6_both ∈ WA := wA (List.mem_append_left _ (List.mem_map.mpr ⟨(yX6_both, 5), lwp_5, rfl⟩)) rfl
theorem wm_3_2 : Cond.methodLink RX6 38 yX6_comes ∈ WA := wA (tm_3 _ (List.mem_of_getElem? (i := 2) rfl)) rfl
theorem wm_3_4 : Cond.instanceMethod yX6_comes ∈ WA := wA (tm_3 _ (List.mem_of_getElem? (i := 4) rfl)) rfl
theorem wm_p_14 : Cond.selects RX6 yX6_comes yX6_comes ∈ WA := wA (List.mem_append_left _ (List.mem_map.mpr ⟨(yX6_comes, 5), lwp_14, rfl⟩)) rfl
theorem wm_3_5 : Cond.code yX6_comes cX6_comes 3 (some .boolean) ∈ WA := wA (tm_3 _ (List.mem_of_getElem? (i := 5) rfl)) rfl
theorem wm_2_216 : Cond.methodLink RX6 45 yX6_ahead ∈ WA := wA (tm_2 _ (List.mem_of_getElem? (i := 216) rfl)) rfl
theorem wm_2_218 : Cond.instanceMethod yX6_ahead ∈ WA := wA (tm_2 _ (List.mem_of_getElem? (i := 218) rfl)) rfl
theorem wm_p_10 : Cond.selects RX6 yX6_ahead yX6_ahead ∈ WA := wA (List.mem_append_left _ (List.mem_map.mpr ⟨(yX6_ahead, 5), lwp_10, rfl⟩)) rfl
theorem wm_2_219 : Cond.code yX6_ahead cX6_ahead 1 (some .int) ∈ WA := wA (tm_2 _ (List.mem_of_getElem? (i := 219) rfl)) rfl
theorem wm_2_238 : Cond.methodLink RX6 66 yX6_write ∈ WA := wA (tm_2 _ (List.mem_of_getElem? (i := 238) rfl)) rfl
theorem wm_3_0 : Cond.instanceMethod yX6_write ∈ WA := wA (tm_3 _ (List.mem_of_getElem? (i := 0) rfl)) rfl
theorem wm_p_13 : Cond.selects RX6 yX6_write yX6_write ∈ WA := wA (List.mem_append_left _ (List.mem_map.mpr ⟨(yX6_write, 5), lwp_13, rfl⟩)) rfl
theorem wm_3_1 : Cond.code yX6_write cX6_write 2 none ∈ WA := wA (tm_3 _ (List.mem_of_getElem? (i := 1) rfl)) rfl
theorem wm_2_227 : Cond.methodLink RX6 49 yX3_write ∈ WA := wA (tm_2 _ (List.mem_of_getElem? (i := 227) rfl)) rfl
theorem wm_2_228 : Cond.instanceMethod yX3_write ∈ WA := wA (tm_2 _ (List.mem_of_getElem? (i := 228) rfl)) rfl
theorem wm_2_229 : Cond.selects RX3 yX3_write yX3_write ∈ WA := wA (tm_2 _ (List.mem_of_getElem? (i := 229) rfl)) rfl
theorem wm_2_230 : Cond.code yX3_write cX3_write 3 none ∈ WA := wA (tm_2 _ (List.mem_of_getElem? (i := 230) rfl)) rfl
theorem wm_2_199 : Cond.code yX6_both cX6_both 3 none ∈ WA := wA (tm_2 _ (List.mem_of_getElem? (i := 199) rfl)) rfl
theorem wm_2_200 : Cond.methodLink RX6 69 yX6_compared ∈ WA := wA (tm_2 _ (List.mem_of_getElem? (i := 200) rfl)) rfl
theorem wm_2_202 : Cond.instanceMethod yX6_compared ∈ WA := wA (tm_2 _ (List.mem_of_getElem? (i := 202) rfl)) rfl
theorem wm_p_6 : Cond.selects RX6 yX6_compared yX6_compared ∈ WA := wA (List.mem_append_left _ (List.mem_map.mpr ⟨(yX6_compared, 5), lwp_6, rfl⟩)) rfl
theorem wm_2_203 : Cond.code yX6_compared cX6_compared 3 none ∈ WA := wA (tm_2 _ (List.mem_of_getElem? (i := 203) rfl)) rfl
theorem wm_2_204 : Cond.methodLink RX6 72 yX6_sum ∈ WA := wA (tm_2 _ (List.mem_of_getElem? (i := 204) rfl)) rfl
theorem wm_2_206 : Cond.instanceMethod yX6_sum ∈ WA := wA (tm_2 _ (List.mem_of_getElem? (i := 206) rfl)) rfl
theorem wm_p_7 : Cond.selects RX6 yX6_sum yX6_sum ∈ WA := wA (List.mem_append_left _ (List.mem_map.mpr ⟨(yX6_sum, 5), lwp_7, rfl⟩)) rfl
theorem wm_2_215 : Cond.code yX6_operand cX6_operand 3 none ∈ WA := wA (tm_2 _ (List.mem_of_getElem? (i := 215) rfl)) rfl
theorem wm_2_220 : Cond.methodLink RX6 81 yX6_isDigit ∈ WA := wA (tm_2 _ (List.mem_of_getElem? (i := 220) rfl)) rfl
theorem wm_2_221 : Cond.static yX6_isDigit ∈ WA := wA (tm_2 _ (List.mem_of_getElem? (i := 221) rfl)) rfl
theorem wm_2_222 : Cond.code yX6_isDigit cX6_isDigit 1 (some .boolean) ∈ WA := wA (tm_2 _ (List.mem_of_getElem? (i := 222) rfl)) rfl
theorem wm_2_223 : Cond.methodLink RX6 85 yX6_number ∈ WA := wA (tm_2 _ (List.mem_of_getElem? (i := 223) rfl)) rfl
theorem wm_2_225 : Cond.instanceMethod yX6_number ∈ WA := wA (tm_2 _ (List.mem_of_getElem? (i := 225) rfl)) rfl
theorem wm_p_11 : Cond.selects RX6 yX6_number yX6_number ∈ WA := wA (List.mem_append_left _ (List.mem_map.mpr ⟨(yX6_number, 5), lwp_11, rfl⟩)) rfl
theorem wm_2_226 : Cond.code yX6_number cX6_number 3 none ∈ WA := wA (tm_2 _ (List.mem_of_getElem? (i := 226) rfl)) rfl
theorem wm_2_231 : Cond.methodLink RX6 88 yX3_nameOf ∈ WA := wA (tm_2 _ (List.mem_of_getElem? (i := 231) rfl)) rfl
theorem wm_2_232 : Cond.static yX3_nameOf ∈ WA := wA (tm_2 _ (List.mem_of_getElem? (i := 232) rfl)) rfl
theorem wm_2_233 : Cond.code yX3_nameOf cX3_nameOf 1 (some .int) ∈ WA := wA (tm_2 _ (List.mem_of_getElem? (i := 233) rfl)) rfl
theorem wm_2_234 : Cond.methodLink RX6 42 yX6_fail ∈ WA := wA (tm_2 _ (List.mem_of_getElem? (i := 234) rfl)) rfl
theorem wm_2_236 : Cond.instanceMethod yX6_fail ∈ WA := wA (tm_2 _ (List.mem_of_getElem? (i := 236) rfl)) rfl
theorem wm_p_12 : Cond.selects RX6 yX6_fail yX6_fail ∈ WA := wA (List.mem_append_left _ (List.mem_map.mpr ⟨(yX6_fail, 5), lwp_12, rfl⟩)) rfl
theorem wm_2_237 : Cond.code yX6_fail cX6_fail 1 none ∈ WA := wA (tm_2 _ (List.mem_of_getElem? (i := 237) rfl)) rfl
theorem wm_2_212 : Cond.methodLink RX6 78 yX6_operand ∈ WA := wA (tm_2 _ (List.mem_of_getElem? (i := 212) rfl)) rfl
theorem wm_2_214 : Cond.instanceMethod yX6_operand ∈ WA := wA (tm_2 _ (List.mem_of_getElem? (i := 214) rfl)) rfl
theorem wm_p_9 : Cond.selects RX6 yX6_operand yX6_operand ∈ WA := wA (List.mem_append_left _ (List.mem_map.mpr ⟨(yX6_operand, 5), lwp_9, rfl⟩)) rfl
theorem wm_2_211 : Cond.code yX6_product cX6_product 4 none ∈ WA := wA (tm_2 _ (List.mem_of_getElem? (i := 211) rfl)) rfl
theorem wm_2_207 : Cond.code yX6_sum cX6_sum 4 none ∈ WA := wA (tm_2 _ (List.mem_of_getElem? (i := 207) rfl)) rfl
theorem wm_2_208 : Cond.methodLink RX6 75 yX6_product ∈ WA := wA (tm_2 _ (List.mem_of_getElem? (i := 208) rfl)) rfl
theorem wm_2_210 : Cond.instanceMethod yX6_product ∈ WA := wA (tm_2 _ (List.mem_of_getElem? (i := 210) rfl)) rfl
theorem wm_p_8 : Cond.selects RX6 yX6_product yX6_product ∈ WA := wA (List.mem_append_left _ (List.mem_map.mpr ⟨(yX6_product, 5), lwp_8, rfl⟩)) rfl
theorem wm_3_6 : Cond.methodLink RX6 57 yX3_writeIf ∈ WA := wA (tm_3 _ (List.mem_of_getElem? (i := 6) rfl)) rfl
theorem wm_3_7 : Cond.instanceMethod yX3_writeIf ∈ WA := wA (tm_3 _ (List.mem_of_getElem? (i := 7) rfl)) rfl
theorem wm_3_8 : Cond.selects RX3 yX3_writeIf yX3_writeIf ∈ WA := wA (tm_3 _ (List.mem_of_getElem? (i := 8) rfl)) rfl
theorem wm_3_9 : Cond.code yX3_writeIf cX3_writeIf 1 none ∈ WA := wA (tm_3 _ (List.mem_of_getElem? (i := 9) rfl)) rfl
theorem wm_3_10 : Cond.methodLink RX3 32 yX3_write ∈ WA := wA (tm_3 _ (List.mem_of_getElem? (i := 10) rfl)) rfl
theorem wm_3_11 : Cond.methodLink RX6 60 yX3_writeEndOfLine ∈ WA := wA (tm_3 _ (List.mem_of_getElem? (i := 11) rfl)) rfl
theorem wm_3_12 : Cond.instanceMethod yX3_writeEndOfLine ∈ WA := wA (tm_3 _ (List.mem_of_getElem? (i := 12) rfl)) rfl
theorem wm_3_13 : Cond.selects RX3 yX3_writeEndOfLine yX3_writeEndOfLine ∈ WA := wA (tm_3 _ (List.mem_of_getElem? (i := 13) rfl)) rfl
theorem wm_3_14 : Cond.code yX3_writeEndOfLine cX3_writeEndOfLine 1 none ∈ WA := wA (tm_3 _ (List.mem_of_getElem? (i := 14) rfl)) rfl
theorem wm_3_15 : Cond.methodLink RX8 144 yX6_draftFor ∈ WA := wA (tm_3 _ (List.mem_of_getElem? (i := 15) rfl)) rfl
theorem wm_3_16 : Cond.instanceMethod yX6_draftFor ∈ WA := wA (tm_3 _ (List.mem_of_getElem? (i := 16) rfl)) rfl
theorem wm_3_17 : Cond.selects RX6 yX6_draftFor yX6_draftFor ∈ WA := wA (tm_3 _ (List.mem_of_getElem? (i := 17) rfl)) rfl
theorem wm_3_18 : Cond.code yX6_draftFor cX6_draftFor 3 (some (.object "OpenOrTake$Law")) ∈ WA := wA (tm_3 _ (List.mem_of_getElem? (i := 18) rfl)) rfl
theorem wm_5_221 : Cond.methodLink RL 44 yX9_law ∈ WA := wA (tm_5 _ (List.mem_of_getElem? (i := 221) rfl)) rfl
theorem wm_5_222 : Cond.instanceMethod yX9_law ∈ WA := wA (tm_5 _ (List.mem_of_getElem? (i := 222) rfl)) rfl
theorem wm_5_223 : Cond.selects RX9 yX9_law yX9_law ∈ WA := wA (tm_5 _ (List.mem_of_getElem? (i := 223) rfl)) rfl
theorem wm_5_224 : Cond.code yX9_law cX9_law 2 (some .int) ∈ WA := wA (tm_5 _ (List.mem_of_getElem? (i := 224) rfl)) rfl
theorem wm_4_225 : Cond.fieldLink RX9 282 "OpenOrTakeModel" "hasLaw" "Z" ∈ WA := wA (tm_4 _ (List.mem_of_getElem? (i := 225) rfl)) rfl
theorem wm_5_225 : Cond.methodLink RX9 279 yX9_readText ∈ WA := wA (tm_5 _ (List.mem_of_getElem? (i := 225) rfl)) rfl
theorem wm_5_227 : Cond.instanceMethod yX9_readText ∈ WA := wA (tm_5 _ (List.mem_of_getElem? (i := 227) rfl)) rfl
theorem wm_p_44 : Cond.selects RX9 yX9_readText yX9_readText ∈ WA := wA (List.mem_append_left _ (List.mem_map.mpr ⟨(yX9_readText, 64), lwp_44, rfl⟩)) rfl
theorem wm_5_228 : Cond.code yX9_readText cX9_readText 3 (some .int) ∈ WA := wA (tm_5 _ (List.mem_of_getElem? (i := 228) rfl)) rfl
theorem wm_4_214 : Cond.fieldLink RX9 220 "OpenOrTakeModel" "here" "I" ∈ WA := wA (tm_4 _ (List.mem_of_getElem? (i := 214) rfl)) rfl
theorem wm_4_215 : Cond.fieldLink RX9 223 "OpenOrTakeModel" "fault" "I" ∈ WA := wA (tm_4 _ (List.mem_of_getElem? (i := 215) rfl)) rfl
theorem wm_4_216 : Cond.fieldLink RX9 229 "OpenOrTakeModel" "open" "I" ∈ WA := wA (tm_4 _ (List.mem_of_getElem? (i := 216) rfl)) rfl
theorem wm_4_217 : Cond.fieldLink RX9 226 "OpenOrTakeModel" "laid" "I" ∈ WA := wA (tm_4 _ (List.mem_of_getElem? (i := 217) rfl)) rfl
theorem wm_5_229 : Cond.methodLink RX9 270 yX9_line ∈ WA := wA (tm_5 _ (List.mem_of_getElem? (i := 229) rfl)) rfl
theorem wm_5_231 : Cond.instanceMethod yX9_line ∈ WA := wA (tm_5 _ (List.mem_of_getElem? (i := 231) rfl)) rfl
theorem wm_p_45 : Cond.selects RX9 yX9_line yX9_line ∈ WA := wA (List.mem_append_left _ (List.mem_map.mpr ⟨(yX9_line, 64), lwp_45, rfl⟩)) rfl
theorem wm_5_232 : Cond.code yX9_line cX9_line 2 none ∈ WA := wA (tm_5 _ (List.mem_of_getElem? (i := 232) rfl)) rfl
theorem wm_5_233 : Cond.methodLink RX9 252 yX9_either ∈ WA := wA (tm_5 _ (List.mem_of_getElem? (i := 233) rfl)) rfl
theorem wm_5_235 : Cond.instanceMethod yX9_either ∈ WA := wA (tm_5 _ (List.mem_of_getElem? (i := 235) rfl)) rfl
theorem wm_p_46 : Cond.selects RX9 yX9_either yX9_either ∈ WA := wA (List.mem_append_left _ (List.mem_map.mpr ⟨(yX9_either, 64), lwp_46, rfl⟩)) rfl
theorem wm_5_236 : Cond.code yX9_either cX9_either 1 none ∈ WA := wA (tm_5 _ (List.mem_of_getElem? (i := 236) rfl)) rfl
theorem wm_5_237 : Cond.methodLink RX9 267 yX9_both ∈ WA := wA (tm_5 _ (List.mem_of_getElem? (i := 237) rfl)) rfl
theorem wm_5_239 : Cond.instanceMethod yX9_both ∈ WA := wA (tm_5 _ (List.mem_of_getElem? (i := 239) rfl)) rfl
theorem wm_p_47 : Cond.selects RX9 yX9_both yX9_both ∈ WA := wA (List.mem_append_left _ (List.mem_map.mpr ⟨(yX9_both, 64), lwp_47, rfl⟩)) rfl
theorem wm_6_17 : Cond.methodLink RX9 235 yX9_look ∈ WA := wA (tm_6 _ (List.mem_of_getElem? (i := 17) rfl)) rfl
theorem wm_6_19 : Cond.instanceMethod yX9_look ∈ WA := wA (tm_6 _ (List.mem_of_getElem? (i := 19) rfl)) rfl
theorem wm_p_52 : Cond.selects RX9 yX9_look yX9_look ∈ WA := wA (List.mem_append_left _ (List.mem_map.mpr ⟨(yX9_look, 64), lwp_52, rfl⟩)) rfl
theorem wm_6_20 : Cond.code yX9_look cX9_look 1 (some .int) ∈ WA := wA (tm_6 _ (List.mem_of_getElem? (i := 20) rfl)) rfl
theorem wm_6_24 : Cond.methodLink RX9 239 yX9_addStep ∈ WA := wA (tm_6 _ (List.mem_of_getElem? (i := 24) rfl)) rfl
theorem wm_6_26 : Cond.instanceMethod yX9_addStep ∈ WA := wA (tm_6 _ (List.mem_of_getElem? (i := 26) rfl)) rfl
theorem wm_p_53 : Cond.selects RX9 yX9_addStep yX9_addStep ∈ WA := wA (List.mem_append_left _ (List.mem_map.mpr ⟨(yX9_addStep, 64), lwp_53, rfl⟩)) rfl
theorem wm_6_27 : Cond.code yX9_addStep cX9_addStep 3 none ∈ WA := wA (tm_6 _ (List.mem_of_getElem? (i := 27) rfl)) rfl
theorem wm_6_0 : Cond.code yX9_both cX9_both 1 none ∈ WA := wA (tm_6 _ (List.mem_of_getElem? (i := 0) rfl)) rfl
theorem wm_6_1 : Cond.methodLink RX9 264 yX9_compared ∈ WA := wA (tm_6 _ (List.mem_of_getElem? (i := 1) rfl)) rfl
theorem wm_6_3 : Cond.instanceMethod yX9_compared ∈ WA := wA (tm_6 _ (List.mem_of_getElem? (i := 3) rfl)) rfl
theorem wm_p_48 : Cond.selects RX9 yX9_compared yX9_compared ∈ WA := wA (List.mem_append_left _ (List.mem_map.mpr ⟨(yX9_compared, 64), lwp_48, rfl⟩)) rfl
theorem wm_6_4 : Cond.code yX9_compared cX9_compared 2 none ∈ WA := wA (tm_6 _ (List.mem_of_getElem? (i := 4) rfl)) rfl
theorem wm_6_5 : Cond.methodLink RX9 261 yX9_sum ∈ WA := wA (tm_6 _ (List.mem_of_getElem? (i := 5) rfl)) rfl
theorem wm_6_7 : Cond.instanceMethod yX9_sum ∈ WA := wA (tm_6 _ (List.mem_of_getElem? (i := 7) rfl)) rfl
theorem wm_p_49 : Cond.selects RX9 yX9_sum yX9_sum ∈ WA := wA (List.mem_append_left _ (List.mem_map.mpr ⟨(yX9_sum, 64), lwp_49, rfl⟩)) rfl
theorem wm_6_16 : Cond.code yX9_operand cX9_operand 2 none ∈ WA := wA (tm_6 _ (List.mem_of_getElem? (i := 16) rfl)) rfl
theorem wm_6_21 : Cond.methodLink RX9 242 yX9_nameOf ∈ WA := wA (tm_6 _ (List.mem_of_getElem? (i := 21) rfl)) rfl
theorem wm_6_22 : Cond.static yX9_nameOf ∈ WA := wA (tm_6 _ (List.mem_of_getElem? (i := 22) rfl)) rfl
theorem wm_6_23 : Cond.code yX9_nameOf cX9_nameOf 1 (some .int) ∈ WA := wA (tm_6 _ (List.mem_of_getElem? (i := 23) rfl)) rfl
theorem wm_6_28 : Cond.methodLink RX9 245 yX9_opens ∈ WA := wA (tm_6 _ (List.mem_of_getElem? (i := 28) rfl)) rfl
theorem wm_6_30 : Cond.instanceMethod yX9_opens ∈ WA := wA (tm_6 _ (List.mem_of_getElem? (i := 30) rfl)) rfl
theorem wm_p_54 : Cond.selects RX9 yX9_opens yX9_opens ∈ WA := wA (List.mem_append_left _ (List.mem_map.mpr ⟨(yX9_opens, 64), lwp_54, rfl⟩)) rfl
theorem wm_6_31 : Cond.code yX9_opens cX9_opens 1 (some .boolean) ∈ WA := wA (tm_6 _ (List.mem_of_getElem? (i := 31) rfl)) rfl
theorem wm_6_32 : Cond.methodLink RX9 232 yX9_faulty ∈ WA := wA (tm_6 _ (List.mem_of_getElem? (i := 32) rfl)) rfl
theorem wm_6_34 : Cond.instanceMethod yX9_faulty ∈ WA := wA (tm_6 _ (List.mem_of_getElem? (i := 34) rfl)) rfl
theorem wm_p_55 : Cond.selects RX9 yX9_faulty yX9_faulty ∈ WA := wA (List.mem_append_left _ (List.mem_map.mpr ⟨(yX9_faulty, 64), lwp_55, rfl⟩)) rfl
theorem wm_6_35 : Cond.code yX9_faulty cX9_faulty 1 none ∈ WA := wA (tm_6 _ (List.mem_of_getElem? (i := 35) rfl)) rfl
theorem wm_6_13 : Cond.methodLink RX9 249 yX9_operand ∈ WA := wA (tm_6 _ (List.mem_of_getElem? (i := 13) rfl)) rfl
theorem wm_6_15 : Cond.instanceMethod yX9_operand ∈ WA := wA (tm_6 _ (List.mem_of_getElem? (i := 15) rfl)) rfl
theorem wm_p_51 : Cond.selects RX9 yX9_operand yX9_operand ∈ WA := wA (List.mem_append_left _ (List.mem_map.mpr ⟨(yX9_operand, 64), lwp_51, rfl⟩)) rfl
theorem wm_6_36 : Cond.methodLink RX9 255 yX9_figure ∈ WA := wA (tm_6 _ (List.mem_of_getElem? (i := 36) rfl)) rfl
theorem wm_6_38 : Cond.instanceMethod yX9_figure ∈ WA := wA (tm_6 _ (List.mem_of_getElem? (i := 38) rfl)) rfl
theorem wm_p_56 : Cond.selects RX9 yX9_figure yX9_figure ∈ WA := wA (List.mem_append_left _ (List.mem_map.mpr ⟨(yX9_figure, 64), lwp_56, rfl⟩)) rfl
theorem wm_6_39 : Cond.code yX9_figure cX9_figure 3 none ∈ WA := wA (tm_6 _ (List.mem_of_getElem? (i := 39) rfl)) rfl
theorem wm_6_12 : Cond.code yX9_product cX9_product 2 none ∈ WA := wA (tm_6 _ (List.mem_of_getElem? (i := 12) rfl)) rfl
theorem wm_6_8 : Cond.code yX9_sum cX9_sum 2 none ∈ WA := wA (tm_6 _ (List.mem_of_getElem? (i := 8) rfl)) rfl
theorem wm_6_9 : Cond.methodLink RX9 258 yX9_product ∈ WA := wA (tm_6 _ (List.mem_of_getElem? (i := 9) rfl)) rfl
theorem wm_6_11 : Cond.instanceMethod yX9_product ∈ WA := wA (tm_6 _ (List.mem_of_getElem? (i := 11) rfl)) rfl
theorem wm_p_50 : Cond.selects RX9 yX9_product yX9_product ∈ WA := wA (List.mem_append_left _ (List.mem_map.mpr ⟨(yX9_product, 64), lwp_50, rfl⟩)) rfl
theorem wm_3_19 : Cond.methodLink RL 45 yX8_turn ∈ WA := wA (tm_3 _ (List.mem_of_getElem? (i := 19) rfl)) rfl
theorem wm_3_20 : Cond.instanceMethod yX8_turn ∈ WA := wA (tm_3 _ (List.mem_of_getElem? (i := 20) rfl)) rfl
theorem wm_3_21 : Cond.selects RX8 yX8_turn yX8_turn ∈ WA := wA (tm_3 _ (List.mem_of_getElem? (i := 21) rfl)) rfl
theorem wm_3_22 : Cond.code yX8_turn cX8_turn 1 (some .int) ∈ WA := wA (tm_3 _ (List.mem_of_getElem? (i := 22) rfl)) rfl
theorem wm_3_23 : Cond.methodLink RX8 148 yX2_whoseTurn ∈ WA := wA (tm_3 _ (List.mem_of_getElem? (i := 23) rfl)) rfl
theorem wm_3_24 : Cond.instanceMethod yX2_whoseTurn ∈ WA := wA (tm_3 _ (List.mem_of_getElem? (i := 24) rfl)) rfl
theorem wm_3_25 : Cond.selects RX2 yX2_whoseTurn yX2_whoseTurn ∈ WA := wA (tm_3 _ (List.mem_of_getElem? (i := 25) rfl)) rfl
theorem wm_3_26 : Cond.code yX2_whoseTurn cX2_whoseTurn 2 (some .int) ∈ WA := wA (tm_3 _ (List.mem_of_getElem? (i := 26) rfl)) rfl
theorem wm_1_62 : Cond.fieldLink RX2 57 "OpenOrTake$Party" "people" "I" ∈ WA := wA (tm_1 _ (List.mem_of_getElem? (i := 62) rfl)) rfl
theorem wm_6_40 : Cond.methodLink RL 48 yX9_turn ∈ WA := wA (tm_6 _ (List.mem_of_getElem? (i := 40) rfl)) rfl
theorem wm_6_41 : Cond.instanceMethod yX9_turn ∈ WA := wA (tm_6 _ (List.mem_of_getElem? (i := 41) rfl)) rfl
theorem wm_6_42 : Cond.selects RX9 yX9_turn yX9_turn ∈ WA := wA (tm_6 _ (List.mem_of_getElem? (i := 42) rfl)) rfl
theorem wm_6_43 : Cond.code yX9_turn cX9_turn 1 (some .int) ∈ WA := wA (tm_6 _ (List.mem_of_getElem? (i := 43) rfl)) rfl
theorem wm_3_27 : Cond.methodLink RL 49 yX8_open ∈ WA := wA (tm_3 _ (List.mem_of_getElem? (i := 27) rfl)) rfl
theorem wm_3_28 : Cond.instanceMethod yX8_open ∈ WA := wA (tm_3 _ (List.mem_of_getElem? (i := 28) rfl)) rfl
theorem wm_3_29 : Cond.selects RX8 yX8_open yX8_open ∈ WA := wA (tm_3 _ (List.mem_of_getElem? (i := 29) rfl)) rfl
theorem wm_3_30 : Cond.code yX8_open cX8_open 2 (some .int) ∈ WA := wA (tm_3 _ (List.mem_of_getElem? (i := 30) rfl)) rfl
theorem wm_3_31 : Cond.methodLink RX8 152 yX2_unwrap ∈ WA := wA (tm_3 _ (List.mem_of_getElem? (i := 31) rfl)) rfl
theorem wm_3_32 : Cond.instanceMethod yX2_unwrap ∈ WA := wA (tm_3 _ (List.mem_of_getElem? (i := 32) rfl)) rfl
theorem wm_3_33 : Cond.selects RX2 yX2_unwrap yX2_unwrap ∈ WA := wA (tm_3 _ (List.mem_of_getElem? (i := 33) rfl)) rfl
theorem wm_3_34 : Cond.code yX2_unwrap cX2_unwrap 3 (some .int) ∈ WA := wA (tm_3 _ (List.mem_of_getElem? (i := 34) rfl)) rfl
theorem wm_3_35 : Cond.methodLink RX2 78 yX2_give ∈ WA := wA (tm_3 _ (List.mem_of_getElem? (i := 35) rfl)) rfl
theorem wm_3_37 : Cond.instanceMethod yX2_give ∈ WA := wA (tm_3 _ (List.mem_of_getElem? (i := 37) rfl)) rfl
theorem wm_p_15 : Cond.selects RX2 yX2_give yX2_give ∈ WA := wA (List.mem_append_left _ (List.mem_map.mpr ⟨(yX2_give, 11), lwp_15, rfl⟩)) rfl
theorem wm_3_38 : Cond.code yX2_give cX2_give 3 none ∈ WA := wA (tm_3 _ (List.mem_of_getElem? (i := 38) rfl)) rfl
theorem wm_6_44 : Cond.methodLink RL 52 yX9_open ∈ WA := wA (tm_6 _ (List.mem_of_getElem? (i := 44) rfl)) rfl
theorem wm_6_45 : Cond.instanceMethod yX9_open ∈ WA := wA (tm_6 _ (List.mem_of_getElem? (i := 45) rfl)) rfl
theorem wm_6_46 : Cond.selects RX9 yX9_open yX9_open ∈ WA := wA (tm_6 _ (List.mem_of_getElem? (i := 46) rfl)) rfl
theorem wm_6_47 : Cond.code yX9_open cX9_open 3 (some .int) ∈ WA := wA (tm_6 _ (List.mem_of_getElem? (i := 47) rfl)) rfl
theorem wm_6_48 : Cond.methodLink RX9 308 yX9_opensAt ∈ WA := wA (tm_6 _ (List.mem_of_getElem? (i := 48) rfl)) rfl
theorem wm_6_50 : Cond.instanceMethod yX9_opensAt ∈ WA := wA (tm_6 _ (List.mem_of_getElem? (i := 50) rfl)) rfl
theorem wm_p_57 : Cond.selects RX9 yX9_opensAt yX9_opensAt ∈ WA := wA (List.mem_append_left _ (List.mem_map.mpr ⟨(yX9_opensAt, 64), lwp_57, rfl⟩)) rfl
theorem wm_6_51 : Cond.code yX9_opensAt cX9_opensAt 3 (some .int) ∈ WA := wA (tm_6 _ (List.mem_of_getElem? (i := 51) rfl)) rfl
theorem wm_6_52 : Cond.methodLink RX9 289 yX9_lowestWrapped ∈ WA := wA (tm_6 _ (List.mem_of_getElem? (i := 52) rfl)) rfl
theorem wm_6_54 : Cond.instanceMethod yX9_lowestWrapped ∈ WA := wA (tm_6 _ (List.mem_of_getElem? (i := 54) rfl)) rfl
theorem wm_p_58 : Cond.selects RX9 yX9_lowestWrapped yX9_lowestWrapped ∈ WA := wA (List.mem_append_left _ (List.mem_map.mpr ⟨(yX9_lowestWrapped, 64), lwp_58, rfl⟩)) rfl
theorem wm_6_55 : Cond.code yX9_lowestWrapped cX9_lowestWrapped 3 (some .int) ∈ WA := wA (tm_6 _ (List.mem_of_getElem? (i := 55) rfl)) rfl
theorem wm_6_56 : Cond.methodLink RX9 320 yX9_lead ∈ WA := wA (tm_6 _ (List.mem_of_getElem? (i := 56) rfl)) rfl
theorem wm_6_58 : Cond.instanceMethod yX9_lead ∈ WA := wA (tm_6 _ (List.mem_of_getElem? (i := 58) rfl)) rfl
theorem wm_p_59 : Cond.selects RX9 yX9_lead yX9_lead ∈ WA := wA (List.mem_append_left _ (List.mem_map.mpr ⟨(yX9_lead, 64), lwp_59, rfl⟩)) rfl
theorem wm_6_59 : Cond.code yX9_lead cX9_lead 3 none ∈ WA := wA (tm_6 _ (List.mem_of_getElem? (i := 59) rfl)) rfl
theorem wm_4_204 : Cond.fieldLink RX9 314 "OpenOrTakeModel" "ledGot" "I" ∈ WA := wA (tm_4 _ (List.mem_of_getElem? (i := 204) rfl)) rfl
theorem wm_4_205 : Cond.fieldLink RX9 317 "OpenOrTakeModel" "ledTurns" "I" ∈ WA := wA (tm_4 _ (List.mem_of_getElem? (i := 205) rfl)) rfl
theorem wm_3_39 : Cond.methodLink RL 53 yX8_take ∈ WA := wA (tm_3 _ (List.mem_of_getElem? (i := 39) rfl)) rfl
theorem wm_3_40 : Cond.instanceMethod yX8_take ∈ WA := wA (tm_3 _ (List.mem_of_getElem? (i := 40) rfl)) rfl
theorem wm_3_41 : Cond.selects RX8 yX8_take yX8_take ∈ WA := wA (tm_3 _ (List.mem_of_getElem? (i := 41) rfl)) rfl
theorem wm_3_42 : Cond.code yX8_take cX8_take 3 (some .int) ∈ WA := wA (tm_3 _ (List.mem_of_getElem? (i := 42) rfl)) rfl
theorem wm_3_43 : Cond.methodLink RX8 155 yX2_mayRob ∈ WA := wA (tm_3 _ (List.mem_of_getElem? (i := 43) rfl)) rfl
theorem wm_3_44 : Cond.instanceMethod yX2_mayRob ∈ WA := wA (tm_3 _ (List.mem_of_getElem? (i := 44) rfl)) rfl
theorem wm_3_45 : Cond.selects RX2 yX2_mayRob yX2_mayRob ∈ WA := wA (tm_3 _ (List.mem_of_getElem? (i := 45) rfl)) rfl
theorem wm_3_46 : Cond.code yX2_mayRob cX2_mayRob 3 (some .boolean) ∈ WA := wA (tm_3 _ (List.mem_of_getElem? (i := 46) rfl)) rfl
theorem wm_3_47 : Cond.methodLink RX2 74 yX2_isSafe ∈ WA := wA (tm_3 _ (List.mem_of_getElem? (i := 47) rfl)) rfl
theorem wm_3_48 : Cond.instanceMethod yX2_isSafe ∈ WA := wA (tm_3 _ (List.mem_of_getElem? (i := 48) rfl)) rfl
theorem wm_3_49 : Cond.selects RX2 yX2_isSafe yX2_isSafe ∈ WA := wA (tm_3 _ (List.mem_of_getElem? (i := 49) rfl)) rfl
theorem wm_3_50 : Cond.code yX2_isSafe cX2_isSafe 3 (some .boolean) ∈ WA := wA (tm_3 _ (List.mem_of_getElem? (i := 50) rfl)) rfl
theorem wm_1_70 : Cond.fieldLink RX2 71 "OpenOrTake$Party" "most" "I" ∈ WA := wA (tm_1 _ (List.mem_of_getElem? (i := 70) rfl)) rfl
theorem wm_3_51 : Cond.methodLink RX8 159 yX2_rob ∈ WA := wA (tm_3 _ (List.mem_of_getElem? (i := 51) rfl)) rfl
theorem wm_3_52 : Cond.instanceMethod yX2_rob ∈ WA := wA (tm_3 _ (List.mem_of_getElem? (i := 52) rfl)) rfl
theorem wm_3_53 : Cond.selects RX2 yX2_rob yX2_rob ∈ WA := wA (tm_3 _ (List.mem_of_getElem? (i := 53) rfl)) rfl
theorem wm_3_54 : Cond.code yX2_rob cX2_rob 4 (some .int) ∈ WA := wA (tm_3 _ (List.mem_of_getElem? (i := 54) rfl)) rfl
theorem wm_6_60 : Cond.methodLink RL 56 yX9_take ∈ WA := wA (tm_6 _ (List.mem_of_getElem? (i := 60) rfl)) rfl
theorem wm_6_61 : Cond.instanceMethod yX9_take ∈ WA := wA (tm_6 _ (List.mem_of_getElem? (i := 61) rfl)) rfl
theorem wm_6_62 : Cond.selects RX9 yX9_take yX9_take ∈ WA := wA (tm_6 _ (List.mem_of_getElem? (i := 62) rfl)) rfl
theorem wm_6_63 : Cond.code yX9_take cX9_take 4 (some .int) ∈ WA := wA (tm_6 _ (List.mem_of_getElem? (i := 63) rfl)) rfl
theorem wm_6_64 : Cond.methodLink RX9 301 yX9_mayTake ∈ WA := wA (tm_6 _ (List.mem_of_getElem? (i := 64) rfl)) rfl
theorem wm_6_66 : Cond.instanceMethod yX9_mayTake ∈ WA := wA (tm_6 _ (List.mem_of_getElem? (i := 66) rfl)) rfl
theorem wm_p_60 : Cond.selects RX9 yX9_mayTake yX9_mayTake ∈ WA := wA (List.mem_append_left _ (List.mem_map.mpr ⟨(yX9_mayTake, 64), lwp_60, rfl⟩)) rfl
theorem wm_6_67 : Cond.code yX9_mayTake cX9_mayTake 3 (some .boolean) ∈ WA := wA (tm_6 _ (List.mem_of_getElem? (i := 67) rfl)) rfl
theorem wm_6_68 : Cond.methodLink RX9 311 yX9_takesAt ∈ WA := wA (tm_6 _ (List.mem_of_getElem? (i := 68) rfl)) rfl
theorem wm_6_70 : Cond.instanceMethod yX9_takesAt ∈ WA := wA (tm_6 _ (List.mem_of_getElem? (i := 70) rfl)) rfl
theorem wm_p_61 : Cond.selects RX9 yX9_takesAt yX9_takesAt ∈ WA := wA (List.mem_append_left _ (List.mem_map.mpr ⟨(yX9_takesAt, 64), lwp_61, rfl⟩)) rfl
theorem wm_6_71 : Cond.code yX9_takesAt cX9_takesAt 4 (some .int) ∈ WA := wA (tm_6 _ (List.mem_of_getElem? (i := 71) rfl)) rfl
theorem wm_3_55 : Cond.methodLink RL 57 yX8_goOn ∈ WA := wA (tm_3 _ (List.mem_of_getElem? (i := 55) rfl)) rfl
theorem wm_3_56 : Cond.instanceMethod yX8_goOn ∈ WA := wA (tm_3 _ (List.mem_of_getElem? (i := 56) rfl)) rfl
theorem wm_3_57 : Cond.selects RX8 yX8_goOn yX8_goOn ∈ WA := wA (tm_3 _ (List.mem_of_getElem? (i := 57) rfl)) rfl
theorem wm_3_58 : Cond.code yX8_goOn cX8_goOn 1 (some .int) ∈ WA := wA (tm_3 _ (List.mem_of_getElem? (i := 58) rfl)) rfl
theorem wm_3_59 : Cond.methodLink RX8 162 yX2_playTill ∈ WA := wA (tm_3 _ (List.mem_of_getElem? (i := 59) rfl)) rfl
theorem wm_3_60 : Cond.instanceMethod yX2_playTill ∈ WA := wA (tm_3 _ (List.mem_of_getElem? (i := 60) rfl)) rfl
theorem wm_3_61 : Cond.selects RX2 yX2_playTill yX2_playTill ∈ WA := wA (tm_3 _ (List.mem_of_getElem? (i := 61) rfl)) rfl
theorem wm_3_62 : Cond.code yX2_playTill cX2_playTill 7 (some .int) ∈ WA := wA (tm_3 _ (List.mem_of_getElem? (i := 62) rfl)) rfl
theorem wm_1_67 : Cond.fieldLink RX2 86 "OpenOrTake$Party" "way" "[I" ∈ WA := wA (tm_1 _ (List.mem_of_getElem? (i := 67) rfl)) rfl
theorem wm_3_63 : Cond.methodLink RX2 82 yX2_whoseTurn ∈ WA := wA (tm_3 _ (List.mem_of_getElem? (i := 63) rfl)) rfl
theorem wm_3_64 : Cond.methodLink RX2 89 yX2_byTheLaw ∈ WA := wA (tm_3 _ (List.mem_of_getElem? (i := 64) rfl)) rfl
theorem wm_3_66 : Cond.instanceMethod yX2_byTheLaw ∈ WA := wA (tm_3 _ (List.mem_of_getElem? (i := 66) rfl)) rfl
theorem wm_p_16 : Cond.selects RX2 yX2_byTheLaw yX2_byTheLaw ∈ WA := wA (List.mem_append_left _ (List.mem_map.mpr ⟨(yX2_byTheLaw, 11), lwp_16, rfl⟩)) rfl
theorem wm_3_67 : Cond.code yX2_byTheLaw cX2_byTheLaw 9 (some .int) ∈ WA := wA (tm_3 _ (List.mem_of_getElem? (i := 67) rfl)) rfl
theorem wm_1_77 : Cond.fieldLink RX2 119 "OpenOrTake$Party" "law" "LOpenOrTake$Law;" ∈ WA := wA (tm_1 _ (List.mem_of_getElem? (i := 77) rfl)) rfl
theorem wm_3_68 : Cond.methodLink RX2 110 yX2_guess ∈ WA := wA (tm_3 _ (List.mem_of_getElem? (i := 68) rfl)) rfl
theorem wm_3_70 : Cond.instanceMethod yX2_guess ∈ WA := wA (tm_3 _ (List.mem_of_getElem? (i := 70) rfl)) rfl
theorem wm_p_17 : Cond.selects RX2 yX2_guess yX2_guess ∈ WA := wA (List.mem_append_left _ (List.mem_map.mpr ⟨(yX2_guess, 11), lwp_17, rfl⟩)) rfl
theorem wm_3_71 : Cond.code yX2_guess cX2_guess 6 (some .int) ∈ WA := wA (tm_3 _ (List.mem_of_getElem? (i := 71) rfl)) rfl
theorem wm_3_72 : Cond.methodLink RX2 107 yX4_worthFor ∈ WA := wA (tm_3 _ (List.mem_of_getElem? (i := 72) rfl)) rfl
theorem wm_3_73 : Cond.instanceMethod yX4_worthFor ∈ WA := wA (tm_3 _ (List.mem_of_getElem? (i := 73) rfl)) rfl
theorem wm_3_74 : Cond.selects RX4 yX4_worthFor yX4_worthFor ∈ WA := wA (tm_3 _ (List.mem_of_getElem? (i := 74) rfl)) rfl
theorem wm_3_75 : Cond.code yX4_worthFor cX4_worthFor 4 (some .int) ∈ WA := wA (tm_3 _ (List.mem_of_getElem? (i := 75) rfl)) rfl
theorem wm_3_76 : Cond.methodLink RX2 123 yX3_number ∈ WA := wA (tm_3 _ (List.mem_of_getElem? (i := 76) rfl)) rfl
theorem wm_3_77 : Cond.instanceMethod yX3_number ∈ WA := wA (tm_3 _ (List.mem_of_getElem? (i := 77) rfl)) rfl
theorem wm_3_78 : Cond.selects RX3 yX3_number yX3_number ∈ WA := wA (tm_3 _ (List.mem_of_getElem? (i := 78) rfl)) rfl
theorem wm_3_79 : Cond.code yX3_number cX3_number 10 (some .int) ∈ WA := wA (tm_3 _ (List.mem_of_getElem? (i := 79) rfl)) rfl
theorem wm_1_13 : Cond.initialized "java/lang/Math" ∈ WA := wA (tm_1 _ (List.mem_of_getElem? (i := 13) rfl)) rfl
theorem wm_3_83 : Cond.methodLink RX3 42 yX3_joined ∈ WA := wA (tm_3 _ (List.mem_of_getElem? (i := 83) rfl)) rfl
theorem wm_3_84 : Cond.static yX3_joined ∈ WA := wA (tm_3 _ (List.mem_of_getElem? (i := 84) rfl)) rfl
theorem wm_3_85 : Cond.code yX3_joined cX3_joined 3 (some .int) ∈ WA := wA (tm_3 _ (List.mem_of_getElem? (i := 85) rfl)) rfl
theorem wm_3_86 : Cond.methodLink RX2 113 yX2_mayRob ∈ WA := wA (tm_3 _ (List.mem_of_getElem? (i := 86) rfl)) rfl
theorem wm_3_87 : Cond.methodLink RX2 116 yX4_likeFor ∈ WA := wA (tm_3 _ (List.mem_of_getElem? (i := 87) rfl)) rfl
theorem wm_3_88 : Cond.instanceMethod yX4_likeFor ∈ WA := wA (tm_3 _ (List.mem_of_getElem? (i := 88) rfl)) rfl
theorem wm_3_89 : Cond.selects RX4 yX4_likeFor yX4_likeFor ∈ WA := wA (tm_3 _ (List.mem_of_getElem? (i := 89) rfl)) rfl
theorem wm_3_90 : Cond.code yX4_likeFor cX4_likeFor 4 (some .int) ∈ WA := wA (tm_3 _ (List.mem_of_getElem? (i := 90) rfl)) rfl
theorem wm_3_91 : Cond.methodLink RX2 93 yX2_fromWhomItLikesLeast ∈ WA := wA (tm_3 _ (List.mem_of_getElem? (i := 91) rfl)) rfl
theorem wm_3_93 : Cond.instanceMethod yX2_fromWhomItLikesLeast ∈ WA := wA (tm_3 _ (List.mem_of_getElem? (i := 93) rfl)) rfl
theorem wm_p_18 : Cond.selects RX2 yX2_fromWhomItLikesLeast yX2_fromWhomItLikesLeast ∈ WA := wA (List.mem_append_left _ (List.mem_map.mpr ⟨(yX2_fromWhomItLikesLeast, 11), lwp_18, rfl⟩)) rfl
theorem wm_3_94 : Cond.code yX2_fromWhomItLikesLeast cX2_fromWhomItLikesLeast 8 (some .int) ∈ WA := wA (tm_3 _ (List.mem_of_getElem? (i := 94) rfl)) rfl
theorem wm_3_95 : Cond.methodLink RX2 96 yX2_ofMostWorth ∈ WA := wA (tm_3 _ (List.mem_of_getElem? (i := 95) rfl)) rfl
theorem wm_3_97 : Cond.instanceMethod yX2_ofMostWorth ∈ WA := wA (tm_3 _ (List.mem_of_getElem? (i := 97) rfl)) rfl
theorem wm_p_19 : Cond.selects RX2 yX2_ofMostWorth yX2_ofMostWorth ∈ WA := wA (List.mem_append_left _ (List.mem_map.mpr ⟨(yX2_ofMostWorth, 11), lwp_19, rfl⟩)) rfl
theorem wm_3_98 : Cond.code yX2_ofMostWorth cX2_ofMostWorth 6 (some .int) ∈ WA := wA (tm_3 _ (List.mem_of_getElem? (i := 98) rfl)) rfl
theorem wm_3_99 : Cond.methodLink RX2 99 yX2_unwrap ∈ WA := wA (tm_3 _ (List.mem_of_getElem? (i := 99) rfl)) rfl
theorem wm_3_100 : Cond.methodLink RX2 103 yX2_rob ∈ WA := wA (tm_3 _ (List.mem_of_getElem? (i := 100) rfl)) rfl
theorem wm_6_72 : Cond.methodLink RL 60 yX9_goOn ∈ WA := wA (tm_6 _ (List.mem_of_getElem? (i := 72) rfl)) rfl
theorem wm_6_73 : Cond.instanceMethod yX9_goOn ∈ WA := wA (tm_6 _ (List.mem_of_getElem? (i := 73) rfl)) rfl
theorem wm_6_74 : Cond.selects RX9 yX9_goOn yX9_goOn ∈ WA := wA (tm_6 _ (List.mem_of_getElem? (i := 74) rfl)) rfl
theorem wm_6_75 : Cond.code yX9_goOn cX9_goOn 3 (some .int) ∈ WA := wA (tm_6 _ (List.mem_of_getElem? (i := 75) rfl)) rfl
theorem wm_6_76 : Cond.methodLink RX9 323 yX9_goTurn ∈ WA := wA (tm_6 _ (List.mem_of_getElem? (i := 76) rfl)) rfl
theorem wm_6_78 : Cond.instanceMethod yX9_goTurn ∈ WA := wA (tm_6 _ (List.mem_of_getElem? (i := 78) rfl)) rfl
theorem wm_p_62 : Cond.selects RX9 yX9_goTurn yX9_goTurn ∈ WA := wA (List.mem_append_left _ (List.mem_map.mpr ⟨(yX9_goTurn, 64), lwp_62, rfl⟩)) rfl
theorem wm_6_79 : Cond.code yX9_goTurn cX9_goTurn 3 (some .int) ∈ WA := wA (tm_6 _ (List.mem_of_getElem? (i := 79) rfl)) rfl
theorem wm_6_80 : Cond.methodLink RX9 305 yX9_choice ∈ WA := wA (tm_6 _ (List.mem_of_getElem? (i := 80) rfl)) rfl
theorem wm_6_82 : Cond.instanceMethod yX9_choice ∈ WA := wA (tm_6 _ (List.mem_of_getElem? (i := 82) rfl)) rfl
theorem wm_p_63 : Cond.selects RX9 yX9_choice yX9_choice ∈ WA := wA (List.mem_append_left _ (List.mem_map.mpr ⟨(yX9_choice, 64), lwp_63, rfl⟩)) rfl
theorem wm_6_83 : Cond.code yX9_choice cX9_choice 7 (some .int) ∈ WA := wA (tm_6 _ (List.mem_of_getElem? (i := 83) rfl)) rfl
theorem wm_6_84 : Cond.methodLink RX9 298 yX9_lawsNumber ∈ WA := wA (tm_6 _ (List.mem_of_getElem? (i := 84) rfl)) rfl
theorem wm_6_86 : Cond.instanceMethod yX9_lawsNumber ∈ WA := wA (tm_6 _ (List.mem_of_getElem? (i := 86) rfl)) rfl
theorem wm_p_64 : Cond.selects RX9 yX9_lawsNumber yX9_lawsNumber ∈ WA := wA (List.mem_append_left _ (List.mem_map.mpr ⟨(yX9_lawsNumber, 64), lwp_64, rfl⟩)) rfl
theorem wm_6_87 : Cond.code yX9_lawsNumber cX9_lawsNumber 6 (some .int) ∈ WA := wA (tm_6 _ (List.mem_of_getElem? (i := 87) rfl)) rfl
theorem wm_6_88 : Cond.methodLink RX9 292 yX9_guessOf ∈ WA := wA (tm_6 _ (List.mem_of_getElem? (i := 88) rfl)) rfl
theorem wm_6_90 : Cond.instanceMethod yX9_guessOf ∈ WA := wA (tm_6 _ (List.mem_of_getElem? (i := 90) rfl)) rfl
theorem wm_p_65 : Cond.selects RX9 yX9_guessOf yX9_guessOf ∈ WA := wA (List.mem_append_left _ (List.mem_map.mpr ⟨(yX9_guessOf, 64), lwp_65, rfl⟩)) rfl
theorem wm_6_91 : Cond.code yX9_guessOf cX9_guessOf 5 (some .int) ∈ WA := wA (tm_6 _ (List.mem_of_getElem? (i := 91) rfl)) rfl
theorem wm_6_92 : Cond.methodLink RX9 286 yX9_bitsOf ∈ WA := wA (tm_6 _ (List.mem_of_getElem? (i := 92) rfl)) rfl
theorem wm_6_93 : Cond.static yX9_bitsOf ∈ WA := wA (tm_6 _ (List.mem_of_getElem? (i := 93) rfl)) rfl
theorem wm_6_94 : Cond.code yX9_bitsOf cX9_bitsOf 3 (some .int) ∈ WA := wA (tm_6 _ (List.mem_of_getElem? (i := 94) rfl)) rfl
theorem wm_6_95 : Cond.methodLink RX9 295 yX9_gives ∈ WA := wA (tm_6 _ (List.mem_of_getElem? (i := 95) rfl)) rfl
theorem wm_6_97 : Cond.instanceMethod yX9_gives ∈ WA := wA (tm_6 _ (List.mem_of_getElem? (i := 97) rfl)) rfl
theorem wm_p_66 : Cond.selects RX9 yX9_gives yX9_gives ∈ WA := wA (List.mem_append_left _ (List.mem_map.mpr ⟨(yX9_gives, 64), lwp_66, rfl⟩)) rfl
theorem wm_6_98 : Cond.code yX9_gives cX9_gives 4 (some .int) ∈ WA := wA (tm_6 _ (List.mem_of_getElem? (i := 98) rfl)) rfl
theorem wm_6_99 : Cond.methodLink RX9 276 yX9_worked ∈ WA := wA (tm_6 _ (List.mem_of_getElem? (i := 99) rfl)) rfl
theorem wm_6_101 : Cond.instanceMethod yX9_worked ∈ WA := wA (tm_6 _ (List.mem_of_getElem? (i := 101) rfl)) rfl
theorem wm_p_67 : Cond.selects RX9 yX9_worked yX9_worked ∈ WA := wA (List.mem_append_left _ (List.mem_map.mpr ⟨(yX9_worked, 64), lwp_67, rfl⟩)) rfl
theorem wm_6_102 : Cond.code yX9_worked cX9_worked 7 (some .int) ∈ WA := wA (tm_6 _ (List.mem_of_getElem? (i := 102) rfl)) rfl
theorem wm_6_103 : Cond.methodLink RX9 273 yX9_twoOf ∈ WA := wA (tm_6 _ (List.mem_of_getElem? (i := 103) rfl)) rfl
theorem wm_6_104 : Cond.static yX9_twoOf ∈ WA := wA (tm_6 _ (List.mem_of_getElem? (i := 104) rfl)) rfl
theorem wm_6_105 : Cond.code yX9_twoOf cX9_twoOf 3 (some .int) ∈ WA := wA (tm_6 _ (List.mem_of_getElem? (i := 105) rfl)) rfl
theorem wm_3_101 : Cond.methodLink RL 61 yX8_again ∈ WA := wA (tm_3 _ (List.mem_of_getElem? (i := 101) rfl)) rfl
theorem wm_3_102 : Cond.instanceMethod yX8_again ∈ WA := wA (tm_3 _ (List.mem_of_getElem? (i := 102) rfl)) rfl
theorem wm_3_103 : Cond.selects RX8 yX8_again yX8_again ∈ WA := wA (tm_3 _ (List.mem_of_getElem? (i := 103) rfl)) rfl
theorem wm_3_104 : Cond.code yX8_again cX8_again 1 (some .int) ∈ WA := wA (tm_3 _ (List.mem_of_getElem? (i := 104) rfl)) rfl
theorem wm_1_73 : Cond.fieldLink RX8 166 "OpenOrTake$Party" "again" "I" ∈ WA := wA (tm_1 _ (List.mem_of_getElem? (i := 73) rfl)) rfl
theorem wm_1_168 : Cond.fieldLink RX8 169 "OpenOrTake$Evening" "againWas" "Z" ∈ WA := wA (tm_1 _ (List.mem_of_getElem? (i := 168) rfl)) rfl
theorem wm_3_105 : Cond.methodLink RX8 173 yX2_hasEnded ∈ WA := wA (tm_3 _ (List.mem_of_getElem? (i := 105) rfl)) rfl
theorem wm_3_106 : Cond.instanceMethod yX2_hasEnded ∈ WA := wA (tm_3 _ (List.mem_of_getElem? (i := 106) rfl)) rfl
theorem wm_3_107 : Cond.selects RX2 yX2_hasEnded yX2_hasEnded ∈ WA := wA (tm_3 _ (List.mem_of_getElem? (i := 107) rfl)) rfl
theorem wm_3_108 : Cond.code yX2_hasEnded cX2_hasEnded 2 (some .boolean) ∈ WA := wA (tm_3 _ (List.mem_of_getElem? (i := 108) rfl)) rfl
theorem wm_3_109 : Cond.methodLink RX2 53 yX2_hasBegun ∈ WA := wA (tm_3 _ (List.mem_of_getElem? (i := 109) rfl)) rfl
theorem wm_3_110 : Cond.methodLink RX8 177 yX2_chooseOnceMore ∈ WA := wA (tm_3 _ (List.mem_of_getElem? (i := 110) rfl)) rfl
theorem wm_3_111 : Cond.instanceMethod yX2_chooseOnceMore ∈ WA := wA (tm_3 _ (List.mem_of_getElem? (i := 111) rfl)) rfl
theorem wm_3_112 : Cond.selects RX2 yX2_chooseOnceMore yX2_chooseOnceMore ∈ WA := wA (tm_3 _ (List.mem_of_getElem? (i := 112) rfl)) rfl
theorem wm_3_113 : Cond.code yX2_chooseOnceMore cX2_chooseOnceMore 7 none ∈ WA := wA (tm_3 _ (List.mem_of_getElem? (i := 113) rfl)) rfl
theorem wm_3_114 : Cond.methodLink RX2 140 yX2_exchange ∈ WA := wA (tm_3 _ (List.mem_of_getElem? (i := 114) rfl)) rfl
theorem wm_3_116 : Cond.instanceMethod yX2_exchange ∈ WA := wA (tm_3 _ (List.mem_of_getElem? (i := 116) rfl)) rfl
theorem wm_p_20 : Cond.selects RX2 yX2_exchange yX2_exchange ∈ WA := wA (List.mem_append_left _ (List.mem_map.mpr ⟨(yX2_exchange, 11), lwp_20, rfl⟩)) rfl
theorem wm_3_117 : Cond.code yX2_exchange cX2_exchange 5 none ∈ WA := wA (tm_3 _ (List.mem_of_getElem? (i := 117) rfl)) rfl
theorem wm_6_106 : Cond.methodLink RL 64 yX9_again ∈ WA := wA (tm_6 _ (List.mem_of_getElem? (i := 106) rfl)) rfl
theorem wm_6_107 : Cond.instanceMethod yX9_again ∈ WA := wA (tm_6 _ (List.mem_of_getElem? (i := 107) rfl)) rfl
theorem wm_6_108 : Cond.selects RX9 yX9_again yX9_again ∈ WA := wA (tm_6 _ (List.mem_of_getElem? (i := 108) rfl)) rfl
theorem wm_6_109 : Cond.code yX9_again cX9_again 2 (some .int) ∈ WA := wA (tm_6 _ (List.mem_of_getElem? (i := 109) rfl)) rfl
theorem wm_4_202 : Cond.fieldLink RX9 326 "OpenOrTakeModel" "wasAgain" "I" ∈ WA := wA (tm_4 _ (List.mem_of_getElem? (i := 202) rfl)) rfl
theorem wm_6_110 : Cond.methodLink RX9 329 yX9_againChoice ∈ WA := wA (tm_6 _ (List.mem_of_getElem? (i := 110) rfl)) rfl
theorem wm_6_112 : Cond.instanceMethod yX9_againChoice ∈ WA := wA (tm_6 _ (List.mem_of_getElem? (i := 112) rfl)) rfl
theorem wm_p_68 : Cond.selects RX9 yX9_againChoice yX9_againChoice ∈ WA := wA (List.mem_append_left _ (List.mem_map.mpr ⟨(yX9_againChoice, 64), lwp_68, rfl⟩)) rfl
theorem wm_6_113 : Cond.code yX9_againChoice cX9_againChoice 6 (some .int) ∈ WA := wA (tm_6 _ (List.mem_of_getElem? (i := 113) rfl)) rfl
theorem wm_6_114 : Cond.methodLink RX9 332 yX9_changeAt ∈ WA := wA (tm_6 _ (List.mem_of_getElem? (i := 114) rfl)) rfl
theorem wm_6_116 : Cond.instanceMethod yX9_changeAt ∈ WA := wA (tm_6 _ (List.mem_of_getElem? (i := 116) rfl)) rfl
theorem wm_p_69 : Cond.selects RX9 yX9_changeAt yX9_changeAt ∈ WA := wA (List.mem_append_left _ (List.mem_map.mpr ⟨(yX9_changeAt, 64), lwp_69, rfl⟩)) rfl
theorem wm_6_117 : Cond.code yX9_changeAt cX9_changeAt 5 none ∈ WA := wA (tm_6 _ (List.mem_of_getElem? (i := 117) rfl)) rfl
theorem wm_3_118 : Cond.methodLink RL 65 yX8_anew ∈ WA := wA (tm_3 _ (List.mem_of_getElem? (i := 118) rfl)) rfl
theorem wm_3_119 : Cond.instanceMethod yX8_anew ∈ WA := wA (tm_3 _ (List.mem_of_getElem? (i := 119) rfl)) rfl
theorem wm_3_120 : Cond.selects RX8 yX8_anew yX8_anew ∈ WA := wA (tm_3 _ (List.mem_of_getElem? (i := 120) rfl)) rfl
theorem wm_3_121 : Cond.code yX8_anew cX8_anew 1 (some .int) ∈ WA := wA (tm_3 _ (List.mem_of_getElem? (i := 121) rfl)) rfl
theorem wm_3_122 : Cond.methodLink RX8 180 yX2_wrapAll ∈ WA := wA (tm_3 _ (List.mem_of_getElem? (i := 122) rfl)) rfl
theorem wm_3_123 : Cond.instanceMethod yX2_wrapAll ∈ WA := wA (tm_3 _ (List.mem_of_getElem? (i := 123) rfl)) rfl
theorem wm_3_124 : Cond.selects RX2 yX2_wrapAll yX2_wrapAll ∈ WA := wA (tm_3 _ (List.mem_of_getElem? (i := 124) rfl)) rfl
theorem wm_3_125 : Cond.code yX2_wrapAll cX2_wrapAll 1 none ∈ WA := wA (tm_3 _ (List.mem_of_getElem? (i := 125) rfl)) rfl
theorem wm_6_118 : Cond.methodLink RL 68 yX9_anew ∈ WA := wA (tm_6 _ (List.mem_of_getElem? (i := 118) rfl)) rfl
theorem wm_6_119 : Cond.instanceMethod yX9_anew ∈ WA := wA (tm_6 _ (List.mem_of_getElem? (i := 119) rfl)) rfl
theorem wm_6_120 : Cond.selects RX9 yX9_anew yX9_anew ∈ WA := wA (tm_6 _ (List.mem_of_getElem? (i := 120) rfl)) rfl
theorem wm_6_121 : Cond.code yX9_anew cX9_anew 1 (some .int) ∈ WA := wA (tm_6 _ (List.mem_of_getElem? (i := 121) rfl)) rfl
theorem wm_3_126 : Cond.methodLink RL 69 yX8_led ∈ WA := wA (tm_3 _ (List.mem_of_getElem? (i := 126) rfl)) rfl
theorem wm_3_127 : Cond.instanceMethod yX8_led ∈ WA := wA (tm_3 _ (List.mem_of_getElem? (i := 127) rfl)) rfl
theorem wm_3_128 : Cond.selects RX8 yX8_led yX8_led ∈ WA := wA (tm_3 _ (List.mem_of_getElem? (i := 128) rfl)) rfl
theorem wm_3_129 : Cond.code yX8_led cX8_led 2 (some .int) ∈ WA := wA (tm_3 _ (List.mem_of_getElem? (i := 129) rfl)) rfl
theorem wm_1_175 : Cond.fieldLink RX8 183 "OpenOrTake$Evening" "turns" "I" ∈ WA := wA (tm_1 _ (List.mem_of_getElem? (i := 175) rfl)) rfl
theorem wm_1_170 : Cond.fieldLink RX8 186 "OpenOrTake$Evening" "latestWho" "I" ∈ WA := wA (tm_1 _ (List.mem_of_getElem? (i := 170) rfl)) rfl
theorem wm_1_172 : Cond.fieldLink RX8 189 "OpenOrTake$Evening" "latestGot" "I" ∈ WA := wA (tm_1 _ (List.mem_of_getElem? (i := 172) rfl)) rfl
theorem wm_6_122 : Cond.methodLink RL 72 yX9_led ∈ WA := wA (tm_6 _ (List.mem_of_getElem? (i := 122) rfl)) rfl
theorem wm_6_123 : Cond.instanceMethod yX9_led ∈ WA := wA (tm_6 _ (List.mem_of_getElem? (i := 123) rfl)) rfl
theorem wm_6_124 : Cond.selects RX9 yX9_led yX9_led ∈ WA := wA (tm_6 _ (List.mem_of_getElem? (i := 124) rfl)) rfl
theorem wm_6_125 : Cond.code yX9_led cX9_led 2 (some .int) ∈ WA := wA (tm_6 _ (List.mem_of_getElem? (i := 125) rfl)) rfl
theorem wm_3_130 : Cond.methodLink RL 73 yX8_evening ∈ WA := wA (tm_3 _ (List.mem_of_getElem? (i := 130) rfl)) rfl
theorem wm_3_131 : Cond.instanceMethod yX8_evening ∈ WA := wA (tm_3 _ (List.mem_of_getElem? (i := 131) rfl)) rfl
theorem wm_3_132 : Cond.selects RX8 yX8_evening yX8_evening ∈ WA := wA (tm_3 _ (List.mem_of_getElem? (i := 132) rfl)) rfl
theorem wm_3_133 : Cond.code yX8_evening cX8_evening 5 (some .int) ∈ WA := wA (tm_3 _ (List.mem_of_getElem? (i := 133) rfl)) rfl
theorem wm_3_134 : Cond.methodLink RX8 192 yX7_eveningBy ∈ WA := wA (tm_3 _ (List.mem_of_getElem? (i := 134) rfl)) rfl
theorem wm_3_135 : Cond.instanceMethod yX7_eveningBy ∈ WA := wA (tm_3 _ (List.mem_of_getElem? (i := 135) rfl)) rfl
theorem wm_3_136 : Cond.selects RX7 yX7_eveningBy yX7_eveningBy ∈ WA := wA (tm_3 _ (List.mem_of_getElem? (i := 136) rfl)) rfl
theorem wm_3_137 : Cond.code yX7_eveningBy cX7_eveningBy 3 (some (.object "OpenOrTake$Evening")) ∈ WA := wA (tm_3 _ (List.mem_of_getElem? (i := 137) rfl)) rfl
theorem wm_1_60 : Cond.fieldLink RX7 52 "OpenOrTake$Party" "people" "I" ∈ WA := wA (tm_1 _ (List.mem_of_getElem? (i := 60) rfl)) rfl
theorem wm_3_138 : Cond.methodLink RX7 48 yX2_beginBy ∈ WA := wA (tm_3 _ (List.mem_of_getElem? (i := 138) rfl)) rfl
theorem wm_3_139 : Cond.instanceMethod yX2_beginBy ∈ WA := wA (tm_3 _ (List.mem_of_getElem? (i := 139) rfl)) rfl
theorem wm_3_140 : Cond.selects RX2 yX2_beginBy yX2_beginBy ∈ WA := wA (tm_3 _ (List.mem_of_getElem? (i := 140) rfl)) rfl
theorem wm_3_141 : Cond.code yX2_beginBy cX2_beginBy 2 none ∈ WA := wA (tm_3 _ (List.mem_of_getElem? (i := 141) rfl)) rfl
theorem wm_3_142 : Cond.methodLink RX2 62 arraycopyName ∈ WA := wA (tm_3 _ (List.mem_of_getElem? (i := 142) rfl)) rfl
theorem wm_3_143 : Cond.methodLink RX2 68 yX2_wrapAll ∈ WA := wA (tm_3 _ (List.mem_of_getElem? (i := 143) rfl)) rfl
theorem wm_3_144 : Cond.methodLink RX7 57 yX2_playTill ∈ WA := wA (tm_3 _ (List.mem_of_getElem? (i := 144) rfl)) rfl
theorem wm_3_145 : Cond.methodLink RX7 61 yX2_closeByLaw ∈ WA := wA (tm_3 _ (List.mem_of_getElem? (i := 145) rfl)) rfl
theorem wm_3_146 : Cond.instanceMethod yX2_closeByLaw ∈ WA := wA (tm_3 _ (List.mem_of_getElem? (i := 146) rfl)) rfl
theorem wm_3_147 : Cond.selects RX2 yX2_closeByLaw yX2_closeByLaw ∈ WA := wA (tm_3 _ (List.mem_of_getElem? (i := 147) rfl)) rfl
theorem wm_3_148 : Cond.code yX2_closeByLaw cX2_closeByLaw 2 none ∈ WA := wA (tm_3 _ (List.mem_of_getElem? (i := 148) rfl)) rfl
theorem wm_1_74 : Cond.fieldLink RX2 129 "OpenOrTake$Party" "again" "I" ∈ WA := wA (tm_1 _ (List.mem_of_getElem? (i := 74) rfl)) rfl
theorem wm_3_149 : Cond.methodLink RX2 132 yX2_hasEnded ∈ WA := wA (tm_3 _ (List.mem_of_getElem? (i := 149) rfl)) rfl
theorem wm_3_150 : Cond.methodLink RX2 136 yX2_chooseOnceMore ∈ WA := wA (tm_3 _ (List.mem_of_getElem? (i := 150) rfl)) rfl
theorem wm_3_151 : Cond.methodLink RX8 196 yX2_worths ∈ WA := wA (tm_3 _ (List.mem_of_getElem? (i := 151) rfl)) rfl
theorem wm_3_152 : Cond.instanceMethod yX2_worths ∈ WA := wA (tm_3 _ (List.mem_of_getElem? (i := 152) rfl)) rfl
theorem wm_3_153 : Cond.selects RX2 yX2_worths yX2_worths ∈ WA := wA (tm_3 _ (List.mem_of_getElem? (i := 153) rfl)) rfl
theorem wm_3_154 : Cond.code yX2_worths cX2_worths 4 (some .int) ∈ WA := wA (tm_3 _ (List.mem_of_getElem? (i := 154) rfl)) rfl
theorem wm_6_126 : Cond.methodLink RL 76 yX9_evening ∈ WA := wA (tm_6 _ (List.mem_of_getElem? (i := 126) rfl)) rfl
theorem wm_6_127 : Cond.instanceMethod yX9_evening ∈ WA := wA (tm_6 _ (List.mem_of_getElem? (i := 127) rfl)) rfl
theorem wm_6_128 : Cond.selects RX9 yX9_evening yX9_evening ∈ WA := wA (tm_6 _ (List.mem_of_getElem? (i := 128) rfl)) rfl
theorem wm_6_129 : Cond.code yX9_evening cX9_evening 5 (some .int) ∈ WA := wA (tm_6 _ (List.mem_of_getElem? (i := 129) rfl)) rfl
theorem wm_6_130 : Cond.methodLink RX9 334 yX9_goEvening ∈ WA := wA (tm_6 _ (List.mem_of_getElem? (i := 130) rfl)) rfl
theorem wm_6_132 : Cond.instanceMethod yX9_goEvening ∈ WA := wA (tm_6 _ (List.mem_of_getElem? (i := 132) rfl)) rfl
theorem wm_p_70 : Cond.selects RX9 yX9_goEvening yX9_goEvening ∈ WA := wA (List.mem_append_left _ (List.mem_map.mpr ⟨(yX9_goEvening, 64), lwp_70, rfl⟩)) rfl
theorem wm_6_133 : Cond.code yX9_goEvening cX9_goEvening 2 none ∈ WA := wA (tm_6 _ (List.mem_of_getElem? (i := 133) rfl)) rfl
theorem wm_3_155 : Cond.methodLink RL 77 yX8_exact ∈ WA := wA (tm_3 _ (List.mem_of_getElem? (i := 155) rfl)) rfl
theorem wm_3_156 : Cond.instanceMethod yX8_exact ∈ WA := wA (tm_3 _ (List.mem_of_getElem? (i := 156) rfl)) rfl
theorem wm_3_157 : Cond.selects RX8 yX8_exact yX8_exact ∈ WA := wA (tm_3 _ (List.mem_of_getElem? (i := 157) rfl)) rfl
theorem wm_3_158 : Cond.code yX8_exact cX8_exact 2 (some .int) ∈ WA := wA (tm_3 _ (List.mem_of_getElem? (i := 158) rfl)) rfl
theorem wm_1_71 : Cond.fieldLink RX8 199 "OpenOrTake$Party" "most" "I" ∈ WA := wA (tm_1 _ (List.mem_of_getElem? (i := 71) rfl)) rfl
theorem wm_3_159 : Cond.methodLink RX8 202 yX7_eachForItself ∈ WA := wA (tm_3 _ (List.mem_of_getElem? (i := 159) rfl)) rfl
theorem wm_3_160 : Cond.instanceMethod yX7_eachForItself ∈ WA := wA (tm_3 _ (List.mem_of_getElem? (i := 160) rfl)) rfl
theorem wm_3_161 : Cond.selects RX7 yX7_eachForItself yX7_eachForItself ∈ WA := wA (tm_3 _ (List.mem_of_getElem? (i := 161) rfl)) rfl
theorem wm_3_162 : Cond.code yX7_eachForItself cX7_eachForItself 3 (some .int) ∈ WA := wA (tm_3 _ (List.mem_of_getElem? (i := 162) rfl)) rfl
theorem wm_3_163 : Cond.methodLink RX7 65 yX7_lookAhead ∈ WA := wA (tm_3 _ (List.mem_of_getElem? (i := 163) rfl)) rfl
theorem wm_3_165 : Cond.instanceMethod yX7_lookAhead ∈ WA := wA (tm_3 _ (List.mem_of_getElem? (i := 165) rfl)) rfl
theorem wm_p_21 : Cond.selects RX7 yX7_lookAhead yX7_lookAhead ∈ WA := wA (List.mem_append_left _ (List.mem_map.mpr ⟨(yX7_lookAhead, 9), lwp_21, rfl⟩)) rfl
theorem wm_3_166 : Cond.code yX7_lookAhead cX7_lookAhead 6 none ∈ WA := wA (tm_3 _ (List.mem_of_getElem? (i := 166) rfl)) rfl
theorem wm_1_156 : Cond.fieldLink RX7 73 "OpenOrTake$Evening" "has" "[I" ∈ WA := wA (tm_1 _ (List.mem_of_getElem? (i := 156) rfl)) rfl
theorem wm_3_168 : Cond.methodLink RX7 76 arraycopyName ∈ WA := wA (tm_3 _ (List.mem_of_getElem? (i := 168) rfl)) rfl
theorem wm_1_174 : Cond.fieldLink RX7 82 "OpenOrTake$Evening" "turns" "I" ∈ WA := wA (tm_1 _ (List.mem_of_getElem? (i := 174) rfl)) rfl
theorem wm_1_163 : Cond.fieldLink RX7 96 "OpenOrTake$Evening" "opened" "I" ∈ WA := wA (tm_1 _ (List.mem_of_getElem? (i := 163) rfl)) rfl
theorem wm_3_167 : Cond.methodLink RX7 69 yX2_whoseTurn ∈ WA := wA (tm_3 _ (List.mem_of_getElem? (i := 167) rfl)) rfl
theorem wm_3_169 : Cond.methodLink RX7 85 yX2_become ∈ WA := wA (tm_3 _ (List.mem_of_getElem? (i := 169) rfl)) rfl
theorem wm_3_170 : Cond.instanceMethod yX2_become ∈ WA := wA (tm_3 _ (List.mem_of_getElem? (i := 170) rfl)) rfl
theorem wm_3_171 : Cond.selects RX2 yX2_become yX2_become ∈ WA := wA (tm_3 _ (List.mem_of_getElem? (i := 171) rfl)) rfl
theorem wm_3_172 : Cond.code yX2_become cX2_become 2 none ∈ WA := wA (tm_3 _ (List.mem_of_getElem? (i := 172) rfl)) rfl
theorem wm_3_173 : Cond.methodLink RX7 89 yX2_unwrap ∈ WA := wA (tm_3 _ (List.mem_of_getElem? (i := 173) rfl)) rfl
theorem wm_3_174 : Cond.methodLink RX7 93 yX7_comeTo ∈ WA := wA (tm_3 _ (List.mem_of_getElem? (i := 174) rfl)) rfl
theorem wm_3_176 : Cond.instanceMethod yX7_comeTo ∈ WA := wA (tm_3 _ (List.mem_of_getElem? (i := 176) rfl)) rfl
theorem wm_p_22 : Cond.selects RX7 yX7_comeTo yX7_comeTo ∈ WA := wA (List.mem_append_left _ (List.mem_map.mpr ⟨(yX7_comeTo, 9), lwp_22, rfl⟩)) rfl
theorem wm_3_177 : Cond.code yX7_comeTo cX7_comeTo 2 none ∈ WA := wA (tm_3 _ (List.mem_of_getElem? (i := 177) rfl)) rfl
theorem wm_3_178 : Cond.methodLink RX7 99 yX2_mayRob ∈ WA := wA (tm_3 _ (List.mem_of_getElem? (i := 178) rfl)) rfl
theorem wm_3_179 : Cond.methodLink RX7 103 yX2_rob ∈ WA := wA (tm_3 _ (List.mem_of_getElem? (i := 179) rfl)) rfl
theorem wm_3_180 : Cond.methodLink RX7 107 yX7_worthAtEnd ∈ WA := wA (tm_3 _ (List.mem_of_getElem? (i := 180) rfl)) rfl
theorem wm_3_182 : Cond.instanceMethod yX7_worthAtEnd ∈ WA := wA (tm_3 _ (List.mem_of_getElem? (i := 182) rfl)) rfl
theorem wm_p_23 : Cond.selects RX7 yX7_worthAtEnd yX7_worthAtEnd ∈ WA := wA (List.mem_append_left _ (List.mem_map.mpr ⟨(yX7_worthAtEnd, 9), lwp_23, rfl⟩)) rfl
theorem wm_3_183 : Cond.code yX7_worthAtEnd cX7_worthAtEnd 3 (some .int) ∈ WA := wA (tm_3 _ (List.mem_of_getElem? (i := 183) rfl)) rfl
theorem wm_3_184 : Cond.methodLink RX7 110 yX4_worthFor ∈ WA := wA (tm_3 _ (List.mem_of_getElem? (i := 184) rfl)) rfl
theorem wm_6_134 : Cond.methodLink RL 80 yX9_exact ∈ WA := wA (tm_6 _ (List.mem_of_getElem? (i := 134) rfl)) rfl
theorem wm_6_135 : Cond.instanceMethod yX9_exact ∈ WA := wA (tm_6 _ (List.mem_of_getElem? (i := 135) rfl)) rfl
theorem wm_6_136 : Cond.selects RX9 yX9_exact yX9_exact ∈ WA := wA (tm_6 _ (List.mem_of_getElem? (i := 136) rfl)) rfl
theorem wm_6_137 : Cond.code yX9_exact cX9_exact 3 (some .int) ∈ WA := wA (tm_6 _ (List.mem_of_getElem? (i := 137) rfl)) rfl
theorem wm_6_138 : Cond.methodLink RX9 340 yX9_goExact ∈ WA := wA (tm_6 _ (List.mem_of_getElem? (i := 138) rfl)) rfl
theorem wm_6_140 : Cond.instanceMethod yX9_goExact ∈ WA := wA (tm_6 _ (List.mem_of_getElem? (i := 140) rfl)) rfl
theorem wm_p_71 : Cond.selects RX9 yX9_goExact yX9_goExact ∈ WA := wA (List.mem_append_left _ (List.mem_map.mpr ⟨(yX9_goExact, 64), lwp_71, rfl⟩)) rfl
theorem wm_6_141 : Cond.code yX9_goExact cX9_goExact 4 none ∈ WA := wA (tm_6 _ (List.mem_of_getElem? (i := 141) rfl)) rfl
theorem wm_6_142 : Cond.methodLink RX9 337 yX9_keepAt ∈ WA := wA (tm_6 _ (List.mem_of_getElem? (i := 142) rfl)) rfl
theorem wm_6_144 : Cond.instanceMethod yX9_keepAt ∈ WA := wA (tm_6 _ (List.mem_of_getElem? (i := 144) rfl)) rfl
theorem wm_p_72 : Cond.selects RX9 yX9_keepAt yX9_keepAt ∈ WA := wA (List.mem_append_left _ (List.mem_map.mpr ⟨(yX9_keepAt, 64), lwp_72, rfl⟩)) rfl
theorem wm_6_145 : Cond.code yX9_keepAt cX9_keepAt 3 none ∈ WA := wA (tm_6 _ (List.mem_of_getElem? (i := 145) rfl)) rfl
theorem wm_6_146 : Cond.methodLink RX9 343 yX9_takeEnd ∈ WA := wA (tm_6 _ (List.mem_of_getElem? (i := 146) rfl)) rfl
theorem wm_6_148 : Cond.instanceMethod yX9_takeEnd ∈ WA := wA (tm_6 _ (List.mem_of_getElem? (i := 148) rfl)) rfl
theorem wm_p_73 : Cond.selects RX9 yX9_takeEnd yX9_takeEnd ∈ WA := wA (List.mem_append_left _ (List.mem_map.mpr ⟨(yX9_takeEnd, 64), lwp_73, rfl⟩)) rfl
theorem wm_6_149 : Cond.code yX9_takeEnd cX9_takeEnd 3 none ∈ WA := wA (tm_6 _ (List.mem_of_getElem? (i := 149) rfl)) rfl
theorem wm_6_150 : Cond.methodLink RX9 346 yX9_layAt ∈ WA := wA (tm_6 _ (List.mem_of_getElem? (i := 150) rfl)) rfl
theorem wm_6_152 : Cond.instanceMethod yX9_layAt ∈ WA := wA (tm_6 _ (List.mem_of_getElem? (i := 152) rfl)) rfl
theorem wm_p_74 : Cond.selects RX9 yX9_layAt yX9_layAt ∈ WA := wA (List.mem_append_left _ (List.mem_map.mpr ⟨(yX9_layAt, 64), lwp_74, rfl⟩)) rfl
theorem wm_6_153 : Cond.code yX9_layAt cX9_layAt 3 none ∈ WA := wA (tm_6 _ (List.mem_of_getElem? (i := 153) rfl)) rfl
theorem wm_6_154 : Cond.methodLink RX9 349 yX9_endWorth ∈ WA := wA (tm_6 _ (List.mem_of_getElem? (i := 154) rfl)) rfl
theorem wm_6_156 : Cond.instanceMethod yX9_endWorth ∈ WA := wA (tm_6 _ (List.mem_of_getElem? (i := 156) rfl)) rfl
theorem wm_p_75 : Cond.selects RX9 yX9_endWorth yX9_endWorth ∈ WA := wA (List.mem_append_left _ (List.mem_map.mpr ⟨(yX9_endWorth, 64), lwp_75, rfl⟩)) rfl
theorem wm_6_157 : Cond.code yX9_endWorth cX9_endWorth 4 (some .int) ∈ WA := wA (tm_6 _ (List.mem_of_getElem? (i := 157) rfl)) rfl
theorem wm_3_185 : Cond.methodLink RL 81 yX8_best ∈ WA := wA (tm_3 _ (List.mem_of_getElem? (i := 185) rfl)) rfl
theorem wm_3_186 : Cond.instanceMethod yX8_best ∈ WA := wA (tm_3 _ (List.mem_of_getElem? (i := 186) rfl)) rfl
theorem wm_3_187 : Cond.selects RX8 yX8_best yX8_best ∈ WA := wA (tm_3 _ (List.mem_of_getElem? (i := 187) rfl)) rfl
theorem wm_3_188 : Cond.code yX8_best cX8_best 2 (some .int) ∈ WA := wA (tm_3 _ (List.mem_of_getElem? (i := 188) rfl)) rfl
theorem wm_3_189 : Cond.methodLink RX8 206 yX7_bestParting ∈ WA := wA (tm_3 _ (List.mem_of_getElem? (i := 189) rfl)) rfl
theorem wm_3_190 : Cond.instanceMethod yX7_bestParting ∈ WA := wA (tm_3 _ (List.mem_of_getElem? (i := 190) rfl)) rfl
theorem wm_3_191 : Cond.selects RX7 yX7_bestParting yX7_bestParting ∈ WA := wA (tm_3 _ (List.mem_of_getElem? (i := 191) rfl)) rfl
theorem wm_3_192 : Cond.code yX7_bestParting cX7_bestParting 5 (some .int) ∈ WA := wA (tm_3 _ (List.mem_of_getElem? (i := 192) rfl)) rfl
theorem wm_3_193 : Cond.methodLink RX7 113 yX7_fillMostBehind ∈ WA := wA (tm_3 _ (List.mem_of_getElem? (i := 193) rfl)) rfl
theorem wm_3_195 : Cond.instanceMethod yX7_fillMostBehind ∈ WA := wA (tm_3 _ (List.mem_of_getElem? (i := 195) rfl)) rfl
theorem wm_p_24 : Cond.selects RX7 yX7_fillMostBehind yX7_fillMostBehind ∈ WA := wA (List.mem_append_left _ (List.mem_map.mpr ⟨(yX7_fillMostBehind, 9), lwp_24, rfl⟩)) rfl
theorem wm_3_196 : Cond.code yX7_fillMostBehind cX7_fillMostBehind 6 none ∈ WA := wA (tm_3 _ (List.mem_of_getElem? (i := 196) rfl)) rfl
theorem wm_3_197 : Cond.methodLink RX7 119 yJ6_bitCount_0f7a4 ∈ WA := wA (tm_3 _ (List.mem_of_getElem? (i := 197) rfl)) rfl
theorem wm_3_198 : Cond.static yJ6_bitCount_0f7a4 ∈ WA := wA (tm_3 _ (List.mem_of_getElem? (i := 198) rfl)) rfl
theorem wm_1_14 : Cond.initialized RJ6 ∈ WA := wA (tm_1 _ (List.mem_of_getElem? (i := 14) rfl)) rfl
theorem wm_3_199 : Cond.code yJ6_bitCount_0f7a4 cJ6_bitCount_0f7a4 1 (some .int) ∈ WA := wA (tm_3 _ (List.mem_of_getElem? (i := 199) rfl)) rfl
theorem wm_3_200 : Cond.constant RJ6 265 (1431655765) ∈ WA := wA (tm_3 _ (List.mem_of_getElem? (i := 200) rfl)) rfl
theorem wm_3_201 : Cond.constant RJ6 266 (858993459) ∈ WA := wA (tm_3 _ (List.mem_of_getElem? (i := 201) rfl)) rfl
theorem wm_3_202 : Cond.constant RJ6 267 (252645135) ∈ WA := wA (tm_3 _ (List.mem_of_getElem? (i := 202) rfl)) rfl
theorem wm_3_203 : Cond.methodLink RX7 124 yX7_worthWithAllBehind ∈ WA := wA (tm_3 _ (List.mem_of_getElem? (i := 203) rfl)) rfl
theorem wm_3_205 : Cond.instanceMethod yX7_worthWithAllBehind ∈ WA := wA (tm_3 _ (List.mem_of_getElem? (i := 205) rfl)) rfl
theorem wm_p_25 : Cond.selects RX7 yX7_worthWithAllBehind yX7_worthWithAllBehind ∈ WA := wA (List.mem_append_left _ (List.mem_map.mpr ⟨(yX7_worthWithAllBehind, 9), lwp_25, rfl⟩)) rfl
theorem wm_3_206 : Cond.code yX7_worthWithAllBehind cX7_worthWithAllBehind 4 (some .int) ∈ WA := wA (tm_3 _ (List.mem_of_getElem? (i := 206) rfl)) rfl
theorem wm_3_208 : Cond.methodLink RX7 116 yX7_firstBest ∈ WA := wA (tm_3 _ (List.mem_of_getElem? (i := 208) rfl)) rfl
theorem wm_3_210 : Cond.instanceMethod yX7_firstBest ∈ WA := wA (tm_3 _ (List.mem_of_getElem? (i := 210) rfl)) rfl
theorem wm_p_26 : Cond.selects RX7 yX7_firstBest yX7_firstBest ∈ WA := wA (List.mem_append_left _ (List.mem_map.mpr ⟨(yX7_firstBest, 9), lwp_26, rfl⟩)) rfl
theorem wm_3_211 : Cond.code yX7_firstBest cX7_firstBest 4 (some .int) ∈ WA := wA (tm_3 _ (List.mem_of_getElem? (i := 211) rfl)) rfl
theorem wm_6_158 : Cond.methodLink RL 84 yX9_best ∈ WA := wA (tm_6 _ (List.mem_of_getElem? (i := 158) rfl)) rfl
theorem wm_6_159 : Cond.instanceMethod yX9_best ∈ WA := wA (tm_6 _ (List.mem_of_getElem? (i := 159) rfl)) rfl
theorem wm_6_160 : Cond.selects RX9 yX9_best yX9_best ∈ WA := wA (tm_6 _ (List.mem_of_getElem? (i := 160) rfl)) rfl
theorem wm_6_161 : Cond.code yX9_best cX9_best 2 (some .int) ∈ WA := wA (tm_6 _ (List.mem_of_getElem? (i := 161) rfl)) rfl
theorem wm_4_233 : Cond.fieldLink RX9 352 "OpenOrTakeModel" "bestSum" "I" ∈ WA := wA (tm_4 _ (List.mem_of_getElem? (i := 233) rfl)) rfl
theorem wm_6_162 : Cond.methodLink RX9 355 yX9_goParts ∈ WA := wA (tm_6 _ (List.mem_of_getElem? (i := 162) rfl)) rfl
theorem wm_6_164 : Cond.instanceMethod yX9_goParts ∈ WA := wA (tm_6 _ (List.mem_of_getElem? (i := 164) rfl)) rfl
theorem wm_p_76 : Cond.selects RX9 yX9_goParts yX9_goParts ∈ WA := wA (List.mem_append_left _ (List.mem_map.mpr ⟨(yX9_goParts, 64), lwp_76, rfl⟩)) rfl
theorem wm_6_165 : Cond.code yX9_goParts cX9_goParts 5 none ∈ WA := wA (tm_6 _ (List.mem_of_getElem? (i := 165) rfl)) rfl
theorem wm_3_212 : Cond.methodLink RL 85 yX8_pairs ∈ WA := wA (tm_3 _ (List.mem_of_getElem? (i := 212) rfl)) rfl
theorem wm_3_213 : Cond.instanceMethod yX8_pairs ∈ WA := wA (tm_3 _ (List.mem_of_getElem? (i := 213) rfl)) rfl
theorem wm_3_214 : Cond.selects RX8 yX8_pairs yX8_pairs ∈ WA := wA (tm_3 _ (List.mem_of_getElem? (i := 214) rfl)) rfl
theorem wm_3_215 : Cond.code yX8_pairs cX8_pairs 1 (some .int) ∈ WA := wA (tm_3 _ (List.mem_of_getElem? (i := 215) rfl)) rfl
theorem wm_3_216 : Cond.methodLink RX8 209 yX7_pairsWhoWouldChange ∈ WA := wA (tm_3 _ (List.mem_of_getElem? (i := 216) rfl)) rfl
theorem wm_3_217 : Cond.instanceMethod yX7_pairsWhoWouldChange ∈ WA := wA (tm_3 _ (List.mem_of_getElem? (i := 217) rfl)) rfl
theorem wm_3_218 : Cond.selects RX7 yX7_pairsWhoWouldChange yX7_pairsWhoWouldChange ∈ WA := wA (tm_3 _ (List.mem_of_getElem? (i := 218) rfl)) rfl
theorem wm_3_219 : Cond.code yX7_pairsWhoWouldChange cX7_pairsWhoWouldChange 6 (some .int) ∈ WA := wA (tm_3 _ (List.mem_of_getElem? (i := 219) rfl)) rfl
theorem wm_3_220 : Cond.methodLink RX7 133 yX7_eveningBy ∈ WA := wA (tm_3 _ (List.mem_of_getElem? (i := 220) rfl)) rfl
theorem wm_3_221 : Cond.methodLink RX7 137 yX7_envies ∈ WA := wA (tm_3 _ (List.mem_of_getElem? (i := 221) rfl)) rfl
theorem wm_3_223 : Cond.instanceMethod yX7_envies ∈ WA := wA (tm_3 _ (List.mem_of_getElem? (i := 223) rfl)) rfl
theorem wm_p_27 : Cond.selects RX7 yX7_envies yX7_envies ∈ WA := wA (List.mem_append_left _ (List.mem_map.mpr ⟨(yX7_envies, 9), lwp_27, rfl⟩)) rfl
theorem wm_3_224 : Cond.code yX7_envies cX7_envies 4 (some .boolean) ∈ WA := wA (tm_3 _ (List.mem_of_getElem? (i := 224) rfl)) rfl
theorem wm_6_166 : Cond.methodLink RL 88 yX9_pairs ∈ WA := wA (tm_6 _ (List.mem_of_getElem? (i := 166) rfl)) rfl
theorem wm_6_167 : Cond.instanceMethod yX9_pairs ∈ WA := wA (tm_6 _ (List.mem_of_getElem? (i := 167) rfl)) rfl
theorem wm_6_168 : Cond.selects RX9 yX9_pairs yX9_pairs ∈ WA := wA (tm_6 _ (List.mem_of_getElem? (i := 168) rfl)) rfl
theorem wm_6_169 : Cond.code yX9_pairs cX9_pairs 6 (some .int) ∈ WA := wA (tm_6 _ (List.mem_of_getElem? (i := 169) rfl)) rfl
theorem wm_3_225 : Cond.methodLink RL 89 yX8_face ∈ WA := wA (tm_3 _ (List.mem_of_getElem? (i := 225) rfl)) rfl
theorem wm_3_226 : Cond.instanceMethod yX8_face ∈ WA := wA (tm_3 _ (List.mem_of_getElem? (i := 226) rfl)) rfl
theorem wm_3_227 : Cond.selects RX8 yX8_face yX8_face ∈ WA := wA (tm_3 _ (List.mem_of_getElem? (i := 227) rfl)) rfl
theorem wm_3_228 : Cond.code yX8_face cX8_face 2 (some .int) ∈ WA := wA (tm_3 _ (List.mem_of_getElem? (i := 228) rfl)) rfl
theorem wm_3_229 : Cond.methodLink RX8 213 yX7_leastFace ∈ WA := wA (tm_3 _ (List.mem_of_getElem? (i := 229) rfl)) rfl
theorem wm_3_230 : Cond.instanceMethod yX7_leastFace ∈ WA := wA (tm_3 _ (List.mem_of_getElem? (i := 230) rfl)) rfl
theorem wm_3_231 : Cond.selects RX7 yX7_leastFace yX7_leastFace ∈ WA := wA (tm_3 _ (List.mem_of_getElem? (i := 231) rfl)) rfl
theorem wm_3_232 : Cond.code yX7_leastFace cX7_leastFace 5 (some .int) ∈ WA := wA (tm_3 _ (List.mem_of_getElem? (i := 232) rfl)) rfl
theorem wm_1_64 : Cond.fieldLink RX7 141 "OpenOrTake$Party" "worth" "[I" ∈ WA := wA (tm_1 _ (List.mem_of_getElem? (i := 64) rfl)) rfl
theorem wm_1_161 : Cond.fieldLink RX7 148 "OpenOrTake$Evening" "taken" "[I" ∈ WA := wA (tm_1 _ (List.mem_of_getElem? (i := 161) rfl)) rfl
theorem wm_3_233 : Cond.methodLink RX7 144 yX7_lessen ∈ WA := wA (tm_3 _ (List.mem_of_getElem? (i := 233) rfl)) rfl
theorem wm_3_235 : Cond.instanceMethod yX7_lessen ∈ WA := wA (tm_3 _ (List.mem_of_getElem? (i := 235) rfl)) rfl
theorem wm_p_28 : Cond.selects RX7 yX7_lessen yX7_lessen ∈ WA := wA (List.mem_append_left _ (List.mem_map.mpr ⟨(yX7_lessen, 9), lwp_28, rfl⟩)) rfl
theorem wm_3_236 : Cond.code yX7_lessen cX7_lessen 4 none ∈ WA := wA (tm_3 _ (List.mem_of_getElem? (i := 236) rfl)) rfl
theorem wm_6_170 : Cond.methodLink RL 92 yX9_face ∈ WA := wA (tm_6 _ (List.mem_of_getElem? (i := 170) rfl)) rfl
theorem wm_6_171 : Cond.instanceMethod yX9_face ∈ WA := wA (tm_6 _ (List.mem_of_getElem? (i := 171) rfl)) rfl
theorem wm_6_172 : Cond.selects RX9 yX9_face yX9_face ∈ WA := wA (tm_6 _ (List.mem_of_getElem? (i := 172) rfl)) rfl
theorem wm_6_173 : Cond.code yX9_face cX9_face 5 (some .int) ∈ WA := wA (tm_6 _ (List.mem_of_getElem? (i := 173) rfl)) rfl
theorem wm_3_237 : Cond.methodLink RL 93 yX8_numbers ∈ WA := wA (tm_3 _ (List.mem_of_getElem? (i := 237) rfl)) rfl
theorem wm_3_238 : Cond.instanceMethod yX8_numbers ∈ WA := wA (tm_3 _ (List.mem_of_getElem? (i := 238) rfl)) rfl
theorem wm_3_239 : Cond.selects RX8 yX8_numbers yX8_numbers ∈ WA := wA (tm_3 _ (List.mem_of_getElem? (i := 239) rfl)) rfl
theorem wm_4_0 : Cond.code yX8_numbers cX8_numbers 4 (some .int) ∈ WA := wA (tm_4 _ (List.mem_of_getElem? (i := 0) rfl)) rfl
theorem wm_1_217 : Cond.fieldLink RX8 223 "OpenOrTake$Thought" "sums" "[I" ∈ WA := wA (tm_1 _ (List.mem_of_getElem? (i := 217) rfl)) rfl
theorem wm_4_1 : Cond.methodLink RX8 216 yX7_drawNumbers ∈ WA := wA (tm_4 _ (List.mem_of_getElem? (i := 1) rfl)) rfl
theorem wm_4_2 : Cond.instanceMethod yX7_drawNumbers ∈ WA := wA (tm_4 _ (List.mem_of_getElem? (i := 2) rfl)) rfl
theorem wm_4_3 : Cond.selects RX7 yX7_drawNumbers yX7_drawNumbers ∈ WA := wA (tm_4 _ (List.mem_of_getElem? (i := 3) rfl)) rfl
theorem wm_4_4 : Cond.code yX7_drawNumbers cX7_drawNumbers 9 none ∈ WA := wA (tm_4 _ (List.mem_of_getElem? (i := 4) rfl)) rfl
theorem wm_4_6 : Cond.constant RX7 157 (1103515245) ∈ WA := wA (tm_4 _ (List.mem_of_getElem? (i := 6) rfl)) rfl
theorem wm_4_5 : Cond.methodLink RX7 151 yJ7_fill_53178 ∈ WA := wA (tm_4 _ (List.mem_of_getElem? (i := 5) rfl)) rfl
theorem wm_4_7 : Cond.methodLink RX8 220 yX7_unlike ∈ WA := wA (tm_4 _ (List.mem_of_getElem? (i := 7) rfl)) rfl
theorem wm_4_8 : Cond.instanceMethod yX7_unlike ∈ WA := wA (tm_4 _ (List.mem_of_getElem? (i := 8) rfl)) rfl
theorem wm_4_9 : Cond.selects RX7 yX7_unlike yX7_unlike ∈ WA := wA (tm_4 _ (List.mem_of_getElem? (i := 9) rfl)) rfl
theorem wm_4_10 : Cond.code yX7_unlike cX7_unlike 4 (some .int) ∈ WA := wA (tm_4 _ (List.mem_of_getElem? (i := 10) rfl)) rfl
theorem wm_6_174 : Cond.methodLink RL 96 yX9_numbers ∈ WA := wA (tm_6 _ (List.mem_of_getElem? (i := 174) rfl)) rfl
theorem wm_6_175 : Cond.instanceMethod yX9_numbers ∈ WA := wA (tm_6 _ (List.mem_of_getElem? (i := 175) rfl)) rfl
theorem wm_6_176 : Cond.selects RX9 yX9_numbers yX9_numbers ∈ WA := wA (tm_6 _ (List.mem_of_getElem? (i := 176) rfl)) rfl
theorem wm_6_177 : Cond.code yX9_numbers cX9_numbers 8 (some .int) ∈ WA := wA (tm_6 _ (List.mem_of_getElem? (i := 177) rfl)) rfl
theorem wm_6_186 : Cond.constant RX9 364 (1103515245) ∈ WA := wA (tm_6 _ (List.mem_of_getElem? (i := 186) rfl)) rfl
theorem wm_6_178 : Cond.methodLink RX9 358 yX9_keepLot ∈ WA := wA (tm_6 _ (List.mem_of_getElem? (i := 178) rfl)) rfl
theorem wm_6_180 : Cond.instanceMethod yX9_keepLot ∈ WA := wA (tm_6 _ (List.mem_of_getElem? (i := 180) rfl)) rfl
theorem wm_p_77 : Cond.selects RX9 yX9_keepLot yX9_keepLot ∈ WA := wA (List.mem_append_left _ (List.mem_map.mpr ⟨(yX9_keepLot, 64), lwp_77, rfl⟩)) rfl
theorem wm_6_181 : Cond.code yX9_keepLot cX9_keepLot 2 none ∈ WA := wA (tm_6 _ (List.mem_of_getElem? (i := 181) rfl)) rfl
theorem wm_6_182 : Cond.methodLink RX9 361 yX9_layLot ∈ WA := wA (tm_6 _ (List.mem_of_getElem? (i := 182) rfl)) rfl
theorem wm_6_184 : Cond.instanceMethod yX9_layLot ∈ WA := wA (tm_6 _ (List.mem_of_getElem? (i := 184) rfl)) rfl
theorem wm_p_78 : Cond.selects RX9 yX9_layLot yX9_layLot ∈ WA := wA (List.mem_append_left _ (List.mem_map.mpr ⟨(yX9_layLot, 64), lwp_78, rfl⟩)) rfl
theorem wm_6_185 : Cond.code yX9_layLot cX9_layLot 2 none ∈ WA := wA (tm_6 _ (List.mem_of_getElem? (i := 185) rfl)) rfl
theorem wm_4_14 : Cond.methodLink RL 97 yX8_judge ∈ WA := wA (tm_4 _ (List.mem_of_getElem? (i := 14) rfl)) rfl
theorem wm_4_15 : Cond.instanceMethod yX8_judge ∈ WA := wA (tm_4 _ (List.mem_of_getElem? (i := 15) rfl)) rfl
theorem wm_4_16 : Cond.selects RX8 yX8_judge yX8_judge ∈ WA := wA (tm_4 _ (List.mem_of_getElem? (i := 16) rfl)) rfl
theorem wm_4_17 : Cond.code yX8_judge cX8_judge 3 (some .int) ∈ WA := wA (tm_4 _ (List.mem_of_getElem? (i := 17) rfl)) rfl
theorem wm_2_35 : Cond.fieldLink RX8 230 "OpenOrTake$Shelves" "size" "[I" ∈ WA := wA (tm_2 _ (List.mem_of_getElem? (i := 35) rfl)) rfl
theorem wm_4_18 : Cond.methodLink RX8 233 yX7_hear ∈ WA := wA (tm_4 _ (List.mem_of_getElem? (i := 18) rfl)) rfl
theorem wm_4_19 : Cond.instanceMethod yX7_hear ∈ WA := wA (tm_4 _ (List.mem_of_getElem? (i := 19) rfl)) rfl
theorem wm_4_20 : Cond.selects RX7 yX7_hear yX7_hear ∈ WA := wA (tm_4 _ (List.mem_of_getElem? (i := 20) rfl)) rfl
theorem wm_4_21 : Cond.code yX7_hear cX7_hear 3 none ∈ WA := wA (tm_4 _ (List.mem_of_getElem? (i := 21) rfl)) rfl
theorem wm_4_22 : Cond.methodLink RX8 237 yX7_firstUnlikeTold ∈ WA := wA (tm_4 _ (List.mem_of_getElem? (i := 22) rfl)) rfl
theorem wm_4_23 : Cond.instanceMethod yX7_firstUnlikeTold ∈ WA := wA (tm_4 _ (List.mem_of_getElem? (i := 23) rfl)) rfl
theorem wm_4_24 : Cond.selects RX7 yX7_firstUnlikeTold yX7_firstUnlikeTold ∈ WA := wA (tm_4 _ (List.mem_of_getElem? (i := 24) rfl)) rfl
theorem wm_4_25 : Cond.code yX7_firstUnlikeTold cX7_firstUnlikeTold 3 (some .int) ∈ WA := wA (tm_4 _ (List.mem_of_getElem? (i := 25) rfl)) rfl
theorem wm_6_187 : Cond.methodLink RL 100 yX9_judge ∈ WA := wA (tm_6 _ (List.mem_of_getElem? (i := 187) rfl)) rfl
theorem wm_6_188 : Cond.instanceMethod yX9_judge ∈ WA := wA (tm_6 _ (List.mem_of_getElem? (i := 188) rfl)) rfl
theorem wm_6_189 : Cond.selects RX9 yX9_judge yX9_judge ∈ WA := wA (tm_6 _ (List.mem_of_getElem? (i := 189) rfl)) rfl
theorem wm_6_190 : Cond.code yX9_judge cX9_judge 2 (some .int) ∈ WA := wA (tm_6 _ (List.mem_of_getElem? (i := 190) rfl)) rfl
theorem wm_6_191 : Cond.methodLink RX9 365 yX9_rowFault ∈ WA := wA (tm_6 _ (List.mem_of_getElem? (i := 191) rfl)) rfl
theorem wm_6_193 : Cond.instanceMethod yX9_rowFault ∈ WA := wA (tm_6 _ (List.mem_of_getElem? (i := 193) rfl)) rfl
theorem wm_p_79 : Cond.selects RX9 yX9_rowFault yX9_rowFault ∈ WA := wA (List.mem_append_left _ (List.mem_map.mpr ⟨(yX9_rowFault, 64), lwp_79, rfl⟩)) rfl
theorem wm_6_194 : Cond.code yX9_rowFault cX9_rowFault 2 (some .int) ∈ WA := wA (tm_6 _ (List.mem_of_getElem? (i := 194) rfl)) rfl
theorem wm_6_195 : Cond.methodLink RX9 368 yX9_wrongIn ∈ WA := wA (tm_6 _ (List.mem_of_getElem? (i := 195) rfl)) rfl
theorem wm_6_197 : Cond.instanceMethod yX9_wrongIn ∈ WA := wA (tm_6 _ (List.mem_of_getElem? (i := 197) rfl)) rfl
theorem wm_p_80 : Cond.selects RX9 yX9_wrongIn yX9_wrongIn ∈ WA := wA (List.mem_append_left _ (List.mem_map.mpr ⟨(yX9_wrongIn, 64), lwp_80, rfl⟩)) rfl
theorem wm_6_198 : Cond.code yX9_wrongIn cX9_wrongIn 3 (some .int) ∈ WA := wA (tm_6 _ (List.mem_of_getElem? (i := 198) rfl)) rfl
theorem wm_4_26 : Cond.methodLink RL 101 yX8_lots ∈ WA := wA (tm_4 _ (List.mem_of_getElem? (i := 26) rfl)) rfl
theorem wm_4_27 : Cond.instanceMethod yX8_lots ∈ WA := wA (tm_4 _ (List.mem_of_getElem? (i := 27) rfl)) rfl
theorem wm_4_28 : Cond.selects RX8 yX8_lots yX8_lots ∈ WA := wA (tm_4 _ (List.mem_of_getElem? (i := 28) rfl)) rfl
theorem wm_4_29 : Cond.code yX8_lots cX8_lots 3 (some .int) ∈ WA := wA (tm_4 _ (List.mem_of_getElem? (i := 29) rfl)) rfl
theorem wm_4_30 : Cond.methodLink RX8 241 yX7_lotsAsTold ∈ WA := wA (tm_4 _ (List.mem_of_getElem? (i := 30) rfl)) rfl
theorem wm_4_31 : Cond.instanceMethod yX7_lotsAsTold ∈ WA := wA (tm_4 _ (List.mem_of_getElem? (i := 31) rfl)) rfl
theorem wm_4_32 : Cond.selects RX7 yX7_lotsAsTold yX7_lotsAsTold ∈ WA := wA (tm_4 _ (List.mem_of_getElem? (i := 32) rfl)) rfl
theorem wm_4_33 : Cond.code yX7_lotsAsTold cX7_lotsAsTold 1 (some .int) ∈ WA := wA (tm_4 _ (List.mem_of_getElem? (i := 33) rfl)) rfl
theorem wm_4_34 : Cond.methodLink RX7 161 yX2_wrapAll ∈ WA := wA (tm_4 _ (List.mem_of_getElem? (i := 34) rfl)) rfl
theorem wm_4_35 : Cond.methodLink RX7 164 yX7_lotsBehind ∈ WA := wA (tm_4 _ (List.mem_of_getElem? (i := 35) rfl)) rfl
theorem wm_4_37 : Cond.instanceMethod yX7_lotsBehind ∈ WA := wA (tm_4 _ (List.mem_of_getElem? (i := 37) rfl)) rfl
theorem wm_p_29 : Cond.selects RX7 yX7_lotsBehind yX7_lotsBehind ∈ WA := wA (List.mem_append_left _ (List.mem_map.mpr ⟨(yX7_lotsBehind, 9), lwp_29, rfl⟩)) rfl
theorem wm_4_38 : Cond.code yX7_lotsBehind cX7_lotsBehind 7 (some .int) ∈ WA := wA (tm_4 _ (List.mem_of_getElem? (i := 38) rfl)) rfl
theorem wm_1_154 : Cond.fieldLink RX7 171 "OpenOrTake$Evening" "lot" "[I" ∈ WA := wA (tm_1 _ (List.mem_of_getElem? (i := 154) rfl)) rfl
theorem wm_4_39 : Cond.methodLink RX7 167 yX7_firstUnlikeTold ∈ WA := wA (tm_4 _ (List.mem_of_getElem? (i := 39) rfl)) rfl
theorem wm_6_199 : Cond.methodLink RL 104 yX9_lots ∈ WA := wA (tm_6 _ (List.mem_of_getElem? (i := 199) rfl)) rfl
theorem wm_6_200 : Cond.instanceMethod yX9_lots ∈ WA := wA (tm_6 _ (List.mem_of_getElem? (i := 200) rfl)) rfl
theorem wm_6_201 : Cond.selects RX9 yX9_lots yX9_lots ∈ WA := wA (tm_6 _ (List.mem_of_getElem? (i := 201) rfl)) rfl
theorem wm_6_202 : Cond.code yX9_lots cX9_lots 3 (some .int) ∈ WA := wA (tm_6 _ (List.mem_of_getElem? (i := 202) rfl)) rfl
theorem wm_6_203 : Cond.methodLink RX9 371 yX9_goLots ∈ WA := wA (tm_6 _ (List.mem_of_getElem? (i := 203) rfl)) rfl
theorem wm_6_205 : Cond.instanceMethod yX9_goLots ∈ WA := wA (tm_6 _ (List.mem_of_getElem? (i := 205) rfl)) rfl
theorem wm_p_81 : Cond.selects RX9 yX9_goLots yX9_goLots ∈ WA := wA (List.mem_append_left _ (List.mem_map.mpr ⟨(yX9_goLots, 64), lwp_81, rfl⟩)) rfl
theorem wm_6_206 : Cond.code yX9_goLots cX9_goLots 6 (some .int) ∈ WA := wA (tm_6 _ (List.mem_of_getElem? (i := 206) rfl)) rfl
theorem wm_4_40 : Cond.methodLink RL 105 yX8_image ∈ WA := wA (tm_4 _ (List.mem_of_getElem? (i := 40) rfl)) rfl
theorem wm_4_41 : Cond.instanceMethod yX8_image ∈ WA := wA (tm_4 _ (List.mem_of_getElem? (i := 41) rfl)) rfl
theorem wm_4_42 : Cond.selects RX8 yX8_image yX8_image ∈ WA := wA (tm_4 _ (List.mem_of_getElem? (i := 42) rfl)) rfl
theorem wm_4_43 : Cond.code yX8_image cX8_image 1 (some .int) ∈ WA := wA (tm_4 _ (List.mem_of_getElem? (i := 43) rfl)) rfl
theorem wm_4_44 : Cond.methodLink RX8 244 yX2_become ∈ WA := wA (tm_4 _ (List.mem_of_getElem? (i := 44) rfl)) rfl
theorem wm_6_207 : Cond.methodLink RL 108 yX9_image ∈ WA := wA (tm_6 _ (List.mem_of_getElem? (i := 207) rfl)) rfl
theorem wm_6_208 : Cond.instanceMethod yX9_image ∈ WA := wA (tm_6 _ (List.mem_of_getElem? (i := 208) rfl)) rfl
theorem wm_6_209 : Cond.selects RX9 yX9_image yX9_image ∈ WA := wA (tm_6 _ (List.mem_of_getElem? (i := 209) rfl)) rfl
theorem wm_6_210 : Cond.code yX9_image cX9_image 2 (some .int) ∈ WA := wA (tm_6 _ (List.mem_of_getElem? (i := 210) rfl)) rfl
theorem wm_4_45 : Cond.methodLink RL 109 yX8_back ∈ WA := wA (tm_4 _ (List.mem_of_getElem? (i := 45) rfl)) rfl
theorem wm_4_46 : Cond.instanceMethod yX8_back ∈ WA := wA (tm_4 _ (List.mem_of_getElem? (i := 46) rfl)) rfl
theorem wm_4_47 : Cond.selects RX8 yX8_back yX8_back ∈ WA := wA (tm_4 _ (List.mem_of_getElem? (i := 47) rfl)) rfl
theorem wm_4_48 : Cond.code yX8_back cX8_back 1 (some .int) ∈ WA := wA (tm_4 _ (List.mem_of_getElem? (i := 48) rfl)) rfl
theorem wm_6_211 : Cond.methodLink RL 112 yX9_back ∈ WA := wA (tm_6 _ (List.mem_of_getElem? (i := 211) rfl)) rfl
theorem wm_6_212 : Cond.instanceMethod yX9_back ∈ WA := wA (tm_6 _ (List.mem_of_getElem? (i := 212) rfl)) rfl
theorem wm_6_213 : Cond.selects RX9 yX9_back yX9_back ∈ WA := wA (tm_6 _ (List.mem_of_getElem? (i := 213) rfl)) rfl
theorem wm_6_214 : Cond.code yX9_back cX9_back 2 (some .int) ∈ WA := wA (tm_6 _ (List.mem_of_getElem? (i := 214) rfl)) rfl
theorem wm_4_49 : Cond.methodLink RL 113 yX8_undo ∈ WA := wA (tm_4 _ (List.mem_of_getElem? (i := 49) rfl)) rfl
theorem wm_4_50 : Cond.instanceMethod yX8_undo ∈ WA := wA (tm_4 _ (List.mem_of_getElem? (i := 50) rfl)) rfl
theorem wm_4_51 : Cond.selects RX8 yX8_undo yX8_undo ∈ WA := wA (tm_4 _ (List.mem_of_getElem? (i := 51) rfl)) rfl
theorem wm_4_52 : Cond.code yX8_undo cX8_undo 1 (some .int) ∈ WA := wA (tm_4 _ (List.mem_of_getElem? (i := 52) rfl)) rfl
theorem wm_1_104 : Cond.fieldLink RX8 247 "OpenOrTake$Changes" "done" "I" ∈ WA := wA (tm_1 _ (List.mem_of_getElem? (i := 104) rfl)) rfl
theorem wm_4_53 : Cond.methodLink RX8 250 yX1_stepBack ∈ WA := wA (tm_4 _ (List.mem_of_getElem? (i := 53) rfl)) rfl
theorem wm_4_54 : Cond.instanceMethod yX1_stepBack ∈ WA := wA (tm_4 _ (List.mem_of_getElem? (i := 54) rfl)) rfl
theorem wm_4_55 : Cond.selects RX1 yX1_stepBack yX1_stepBack ∈ WA := wA (tm_4 _ (List.mem_of_getElem? (i := 55) rfl)) rfl
theorem wm_4_56 : Cond.code yX1_stepBack cX1_stepBack 2 none ∈ WA := wA (tm_4 _ (List.mem_of_getElem? (i := 56) rfl)) rfl
theorem wm_4_57 : Cond.methodLink RX1 38 yX4_become ∈ WA := wA (tm_4 _ (List.mem_of_getElem? (i := 57) rfl)) rfl
theorem wm_5_163 : Cond.methodLink RL 116 yX9_undo ∈ WA := wA (tm_5 _ (List.mem_of_getElem? (i := 163) rfl)) rfl
theorem wm_5_164 : Cond.instanceMethod yX9_undo ∈ WA := wA (tm_5 _ (List.mem_of_getElem? (i := 164) rfl)) rfl
theorem wm_5_165 : Cond.selects RX9 yX9_undo yX9_undo ∈ WA := wA (tm_5 _ (List.mem_of_getElem? (i := 165) rfl)) rfl
theorem wm_5_166 : Cond.code yX9_undo cX9_undo 1 (some .int) ∈ WA := wA (tm_5 _ (List.mem_of_getElem? (i := 166) rfl)) rfl
theorem wm_4_58 : Cond.methodLink RL 117 yX8_redo ∈ WA := wA (tm_4 _ (List.mem_of_getElem? (i := 58) rfl)) rfl
theorem wm_4_59 : Cond.instanceMethod yX8_redo ∈ WA := wA (tm_4 _ (List.mem_of_getElem? (i := 59) rfl)) rfl
theorem wm_4_60 : Cond.selects RX8 yX8_redo yX8_redo ∈ WA := wA (tm_4 _ (List.mem_of_getElem? (i := 60) rfl)) rfl
theorem wm_4_61 : Cond.code yX8_redo cX8_redo 1 (some .int) ∈ WA := wA (tm_4 _ (List.mem_of_getElem? (i := 61) rfl)) rfl
theorem wm_1_106 : Cond.fieldLink RX8 253 "OpenOrTake$Changes" "all" "I" ∈ WA := wA (tm_1 _ (List.mem_of_getElem? (i := 106) rfl)) rfl
theorem wm_4_62 : Cond.methodLink RX8 256 yX1_stepOn ∈ WA := wA (tm_4 _ (List.mem_of_getElem? (i := 62) rfl)) rfl
theorem wm_4_63 : Cond.instanceMethod yX1_stepOn ∈ WA := wA (tm_4 _ (List.mem_of_getElem? (i := 63) rfl)) rfl
theorem wm_4_64 : Cond.selects RX1 yX1_stepOn yX1_stepOn ∈ WA := wA (tm_4 _ (List.mem_of_getElem? (i := 64) rfl)) rfl
theorem wm_4_65 : Cond.code yX1_stepOn cX1_stepOn 2 none ∈ WA := wA (tm_4 _ (List.mem_of_getElem? (i := 65) rfl)) rfl
theorem wm_5_171 : Cond.methodLink RL 120 yX9_redo ∈ WA := wA (tm_5 _ (List.mem_of_getElem? (i := 171) rfl)) rfl
theorem wm_5_172 : Cond.instanceMethod yX9_redo ∈ WA := wA (tm_5 _ (List.mem_of_getElem? (i := 172) rfl)) rfl
theorem wm_5_173 : Cond.selects RX9 yX9_redo yX9_redo ∈ WA := wA (tm_5 _ (List.mem_of_getElem? (i := 173) rfl)) rfl
theorem wm_5_174 : Cond.code yX9_redo cX9_redo 1 (some .int) ∈ WA := wA (tm_5 _ (List.mem_of_getElem? (i := 174) rfl)) rfl
theorem wm_4_66 : Cond.methodLink RL 121 yX8_body ∈ WA := wA (tm_4 _ (List.mem_of_getElem? (i := 66) rfl)) rfl
theorem wm_4_67 : Cond.instanceMethod yX8_body ∈ WA := wA (tm_4 _ (List.mem_of_getElem? (i := 67) rfl)) rfl
theorem wm_4_68 : Cond.selects RX8 yX8_body yX8_body ∈ WA := wA (tm_4 _ (List.mem_of_getElem? (i := 68) rfl)) rfl
theorem wm_4_69 : Cond.code yX8_body cX8_body 2 (some .int) ∈ WA := wA (tm_4 _ (List.mem_of_getElem? (i := 69) rfl)) rfl
theorem wm_4_70 : Cond.methodLink RX8 259 yX0_add ∈ WA := wA (tm_4 _ (List.mem_of_getElem? (i := 70) rfl)) rfl
theorem wm_4_71 : Cond.instanceMethod yX0_add ∈ WA := wA (tm_4 _ (List.mem_of_getElem? (i := 71) rfl)) rfl
theorem wm_4_72 : Cond.selects RX0 yX0_add yX0_add ∈ WA := wA (tm_4 _ (List.mem_of_getElem? (i := 72) rfl)) rfl
theorem wm_4_73 : Cond.code yX0_add cX0_add 2 (some .int) ∈ WA := wA (tm_4 _ (List.mem_of_getElem? (i := 73) rfl)) rfl
theorem wm_6_219 : Cond.methodLink RL 124 yX9_body ∈ WA := wA (tm_6 _ (List.mem_of_getElem? (i := 219) rfl)) rfl
theorem wm_6_220 : Cond.instanceMethod yX9_body ∈ WA := wA (tm_6 _ (List.mem_of_getElem? (i := 220) rfl)) rfl
theorem wm_6_221 : Cond.selects RX9 yX9_body yX9_body ∈ WA := wA (tm_6 _ (List.mem_of_getElem? (i := 221) rfl)) rfl
theorem wm_6_222 : Cond.code yX9_body cX9_body 2 (some .int) ∈ WA := wA (tm_6 _ (List.mem_of_getElem? (i := 222) rfl)) rfl
theorem wm_5_2 : Cond.fieldLink RX9 374 "OpenOrTakeModel" "bodies" "I" ∈ WA := wA (tm_5 _ (List.mem_of_getElem? (i := 2) rfl)) rfl
theorem wm_4_74 : Cond.methodLink RL 125 yX8_act ∈ WA := wA (tm_4 _ (List.mem_of_getElem? (i := 74) rfl)) rfl
theorem wm_4_75 : Cond.instanceMethod yX8_act ∈ WA := wA (tm_4 _ (List.mem_of_getElem? (i := 75) rfl)) rfl
theorem wm_4_76 : Cond.selects RX8 yX8_act yX8_act ∈ WA := wA (tm_4 _ (List.mem_of_getElem? (i := 76) rfl)) rfl
theorem wm_4_77 : Cond.code yX8_act cX8_act 4 (some .int) ∈ WA := wA (tm_4 _ (List.mem_of_getElem? (i := 77) rfl)) rfl
theorem wm_4_78 : Cond.methodLink RX8 262 yX0_perform ∈ WA := wA (tm_4 _ (List.mem_of_getElem? (i := 78) rfl)) rfl
theorem wm_4_79 : Cond.instanceMethod yX0_perform ∈ WA := wA (tm_4 _ (List.mem_of_getElem? (i := 79) rfl)) rfl
theorem wm_4_80 : Cond.selects RX0 yX0_perform yX0_perform ∈ WA := wA (tm_4 _ (List.mem_of_getElem? (i := 80) rfl)) rfl
theorem wm_4_81 : Cond.code yX0_perform cX0_perform 4 (some .int) ∈ WA := wA (tm_4 _ (List.mem_of_getElem? (i := 81) rfl)) rfl
theorem wm_4_82 : Cond.methodLink RX0 28 yX0_isThere ∈ WA := wA (tm_4 _ (List.mem_of_getElem? (i := 82) rfl)) rfl
theorem wm_4_83 : Cond.instanceMethod yX0_isThere ∈ WA := wA (tm_4 _ (List.mem_of_getElem? (i := 83) rfl)) rfl
theorem wm_4_84 : Cond.selects RX0 yX0_isThere yX0_isThere ∈ WA := wA (tm_4 _ (List.mem_of_getElem? (i := 84) rfl)) rfl
theorem wm_4_85 : Cond.code yX0_isThere cX0_isThere 2 (some .boolean) ∈ WA := wA (tm_4 _ (List.mem_of_getElem? (i := 85) rfl)) rfl
theorem wm_4_86 : Cond.methodLink RX0 35 yX0_own ∈ WA := wA (tm_4 _ (List.mem_of_getElem? (i := 86) rfl)) rfl
theorem wm_4_88 : Cond.instanceMethod yX0_own ∈ WA := wA (tm_4 _ (List.mem_of_getElem? (i := 88) rfl)) rfl
theorem wm_p_30 : Cond.selects RX0 yX0_own yX0_own ∈ WA := wA (List.mem_append_left _ (List.mem_map.mpr ⟨(yX0_own, 5), lwp_30, rfl⟩)) rfl
theorem wm_4_89 : Cond.code yX0_own cX0_own 4 (some .int) ∈ WA := wA (tm_4 _ (List.mem_of_getElem? (i := 89) rfl)) rfl
theorem wm_4_90 : Cond.methodLink RX0 39 yX0_kindOf ∈ WA := wA (tm_4 _ (List.mem_of_getElem? (i := 90) rfl)) rfl
theorem wm_4_91 : Cond.instanceMethod yX0_kindOf ∈ WA := wA (tm_4 _ (List.mem_of_getElem? (i := 91) rfl)) rfl
theorem wm_4_92 : Cond.selects RX0 yX0_kindOf yX0_kindOf ∈ WA := wA (tm_4 _ (List.mem_of_getElem? (i := 92) rfl)) rfl
theorem wm_4_93 : Cond.code yX0_kindOf cX0_kindOf 2 (some .int) ∈ WA := wA (tm_4 _ (List.mem_of_getElem? (i := 93) rfl)) rfl
theorem wm_4_94 : Cond.methodLink RX0 43 yX0_from ∈ WA := wA (tm_4 _ (List.mem_of_getElem? (i := 94) rfl)) rfl
theorem wm_4_96 : Cond.instanceMethod yX0_from ∈ WA := wA (tm_4 _ (List.mem_of_getElem? (i := 96) rfl)) rfl
theorem wm_p_31 : Cond.selects RX0 yX0_from yX0_from ∈ WA := wA (List.mem_append_left _ (List.mem_map.mpr ⟨(yX0_from, 5), lwp_31, rfl⟩)) rfl
theorem wm_4_111 : Cond.code yX0_above cX0_above 5 (some .int) ∈ WA := wA (tm_4 _ (List.mem_of_getElem? (i := 111) rfl)) rfl
theorem wm_4_112 : Cond.fieldLink RX0 32 "OpenOrTake$Bodies" "ABOVE" "[I" ∈ WA := wA (tm_4 _ (List.mem_of_getElem? (i := 112) rfl)) rfl
theorem wm_4_97 : Cond.code yX0_from cX0_from 7 (some .int) ∈ WA := wA (tm_4 _ (List.mem_of_getElem? (i := 97) rfl)) rfl
theorem wm_4_98 : Cond.fieldLink RX0 47 "OpenOrTake$Bodies" "OWN" "[I" ∈ WA := wA (tm_4 _ (List.mem_of_getElem? (i := 98) rfl)) rfl
theorem wm_4_100 : Cond.methodLink RX0 50 yX0_run ∈ WA := wA (tm_4 _ (List.mem_of_getElem? (i := 100) rfl)) rfl
theorem wm_4_102 : Cond.instanceMethod yX0_run ∈ WA := wA (tm_4 _ (List.mem_of_getElem? (i := 102) rfl)) rfl
theorem wm_p_32 : Cond.selects RX0 yX0_run yX0_run ∈ WA := wA (List.mem_append_left _ (List.mem_map.mpr ⟨(yX0_run, 5), lwp_32, rfl⟩)) rfl
theorem wm_4_103 : Cond.code yX0_run cX0_run 4 (some .int) ∈ WA := wA (tm_4 _ (List.mem_of_getElem? (i := 103) rfl)) rfl
theorem wm_4_104 : Cond.methodLink RX0 53 yX0_note ∈ WA := wA (tm_4 _ (List.mem_of_getElem? (i := 104) rfl)) rfl
theorem wm_4_106 : Cond.instanceMethod yX0_note ∈ WA := wA (tm_4 _ (List.mem_of_getElem? (i := 106) rfl)) rfl
theorem wm_p_33 : Cond.selects RX0 yX0_note yX0_note ∈ WA := wA (List.mem_append_left _ (List.mem_map.mpr ⟨(yX0_note, 5), lwp_33, rfl⟩)) rfl
theorem wm_4_107 : Cond.code yX0_note cX0_note 2 none ∈ WA := wA (tm_4 _ (List.mem_of_getElem? (i := 107) rfl)) rfl
theorem wm_4_108 : Cond.methodLink RX0 57 yX0_above ∈ WA := wA (tm_4 _ (List.mem_of_getElem? (i := 108) rfl)) rfl
theorem wm_4_110 : Cond.instanceMethod yX0_above ∈ WA := wA (tm_4 _ (List.mem_of_getElem? (i := 110) rfl)) rfl
theorem wm_p_34 : Cond.selects RX0 yX0_above yX0_above ∈ WA := wA (List.mem_append_left _ (List.mem_map.mpr ⟨(yX0_above, 5), lwp_34, rfl⟩)) rfl
theorem wm_6_223 : Cond.methodLink RL 128 yX9_act ∈ WA := wA (tm_6 _ (List.mem_of_getElem? (i := 223) rfl)) rfl
theorem wm_6_224 : Cond.instanceMethod yX9_act ∈ WA := wA (tm_6 _ (List.mem_of_getElem? (i := 224) rfl)) rfl
theorem wm_6_225 : Cond.selects RX9 yX9_act yX9_act ∈ WA := wA (tm_6 _ (List.mem_of_getElem? (i := 225) rfl)) rfl
theorem wm_6_226 : Cond.code yX9_act cX9_act 4 (some .int) ∈ WA := wA (tm_6 _ (List.mem_of_getElem? (i := 226) rfl)) rfl
theorem wm_5_4 : Cond.fieldLink RX9 377 "OpenOrTakeModel" "traces" "I" ∈ WA := wA (tm_5 _ (List.mem_of_getElem? (i := 4) rfl)) rfl
theorem wm_6_227 : Cond.methodLink RX9 416 yX9_isBody ∈ WA := wA (tm_6 _ (List.mem_of_getElem? (i := 227) rfl)) rfl
theorem wm_6_229 : Cond.instanceMethod yX9_isBody ∈ WA := wA (tm_6 _ (List.mem_of_getElem? (i := 229) rfl)) rfl
theorem wm_p_82 : Cond.selects RX9 yX9_isBody yX9_isBody ∈ WA := wA (List.mem_append_left _ (List.mem_map.mpr ⟨(yX9_isBody, 64), lwp_82, rfl⟩)) rfl
theorem wm_6_230 : Cond.code yX9_isBody cX9_isBody 2 (some .boolean) ∈ WA := wA (tm_6 _ (List.mem_of_getElem? (i := 230) rfl)) rfl
theorem wm_6_231 : Cond.methodLink RX9 392 yX9_opening ∈ WA := wA (tm_6 _ (List.mem_of_getElem? (i := 231) rfl)) rfl
theorem wm_6_233 : Cond.instanceMethod yX9_opening ∈ WA := wA (tm_6 _ (List.mem_of_getElem? (i := 233) rfl)) rfl
theorem wm_p_83 : Cond.selects RX9 yX9_opening yX9_opening ∈ WA := wA (List.mem_append_left _ (List.mem_map.mpr ⟨(yX9_opening, 64), lwp_83, rfl⟩)) rfl
theorem wm_6_234 : Cond.code yX9_opening cX9_opening 3 (some .int) ∈ WA := wA (tm_6 _ (List.mem_of_getElem? (i := 234) rfl)) rfl
theorem wm_6_235 : Cond.methodLink RX9 386 yX9_isUnder ∈ WA := wA (tm_6 _ (List.mem_of_getElem? (i := 235) rfl)) rfl
theorem wm_6_236 : Cond.static yX9_isUnder ∈ WA := wA (tm_6 _ (List.mem_of_getElem? (i := 236) rfl)) rfl
theorem wm_6_237 : Cond.code yX9_isUnder cX9_isUnder 2 (some .boolean) ∈ WA := wA (tm_6 _ (List.mem_of_getElem? (i := 237) rfl)) rfl
theorem wm_6_238 : Cond.methodLink RX9 380 yX9_ran ∈ WA := wA (tm_6 _ (List.mem_of_getElem? (i := 238) rfl)) rfl
theorem wm_7_0 : Cond.instanceMethod yX9_ran ∈ WA := wA (tm_7 _ (List.mem_of_getElem? (i := 0) rfl)) rfl
theorem wm_p_84 : Cond.selects RX9 yX9_ran yX9_ran ∈ WA := wA (List.mem_append_left _ (List.mem_map.mpr ⟨(yX9_ran, 64), lwp_84, rfl⟩)) rfl
theorem wm_7_1 : Cond.code yX9_ran cX9_ran 2 none ∈ WA := wA (tm_7 _ (List.mem_of_getElem? (i := 1) rfl)) rfl
theorem wm_7_2 : Cond.methodLink RX9 383 yX9_plainOpens ∈ WA := wA (tm_7 _ (List.mem_of_getElem? (i := 2) rfl)) rfl
theorem wm_7_4 : Cond.instanceMethod yX9_plainOpens ∈ WA := wA (tm_7 _ (List.mem_of_getElem? (i := 4) rfl)) rfl
theorem wm_p_85 : Cond.selects RX9 yX9_plainOpens yX9_plainOpens ∈ WA := wA (List.mem_append_left _ (List.mem_map.mpr ⟨(yX9_plainOpens, 64), lwp_85, rfl⟩)) rfl
theorem wm_7_5 : Cond.code yX9_plainOpens cX9_plainOpens 3 (some .int) ∈ WA := wA (tm_7 _ (List.mem_of_getElem? (i := 5) rfl)) rfl
theorem wm_7_6 : Cond.methodLink RX9 389 yX9_knownOpens ∈ WA := wA (tm_7 _ (List.mem_of_getElem? (i := 6) rfl)) rfl
theorem wm_7_8 : Cond.instanceMethod yX9_knownOpens ∈ WA := wA (tm_7 _ (List.mem_of_getElem? (i := 8) rfl)) rfl
theorem wm_p_86 : Cond.selects RX9 yX9_knownOpens yX9_knownOpens ∈ WA := wA (List.mem_append_left _ (List.mem_map.mpr ⟨(yX9_knownOpens, 64), lwp_86, rfl⟩)) rfl
theorem wm_7_9 : Cond.code yX9_knownOpens cX9_knownOpens 3 (some .int) ∈ WA := wA (tm_7 _ (List.mem_of_getElem? (i := 9) rfl)) rfl
theorem wm_7_10 : Cond.methodLink RX9 410 yX9_taking ∈ WA := wA (tm_7 _ (List.mem_of_getElem? (i := 10) rfl)) rfl
theorem wm_7_12 : Cond.instanceMethod yX9_taking ∈ WA := wA (tm_7 _ (List.mem_of_getElem? (i := 12) rfl)) rfl
theorem wm_p_87 : Cond.selects RX9 yX9_taking yX9_taking ∈ WA := wA (List.mem_append_left _ (List.mem_map.mpr ⟨(yX9_taking, 64), lwp_87, rfl⟩)) rfl
theorem wm_7_13 : Cond.code yX9_taking cX9_taking 4 (some .int) ∈ WA := wA (tm_7 _ (List.mem_of_getElem? (i := 13) rfl)) rfl
theorem wm_7_14 : Cond.methodLink RX9 398 yX9_openTakes ∈ WA := wA (tm_7 _ (List.mem_of_getElem? (i := 14) rfl)) rfl
theorem wm_7_16 : Cond.instanceMethod yX9_openTakes ∈ WA := wA (tm_7 _ (List.mem_of_getElem? (i := 16) rfl)) rfl
theorem wm_p_88 : Cond.selects RX9 yX9_openTakes yX9_openTakes ∈ WA := wA (List.mem_append_left _ (List.mem_map.mpr ⟨(yX9_openTakes, 64), lwp_88, rfl⟩)) rfl
theorem wm_7_17 : Cond.code yX9_openTakes cX9_openTakes 3 (some .int) ∈ WA := wA (tm_7 _ (List.mem_of_getElem? (i := 17) rfl)) rfl
theorem wm_7_18 : Cond.methodLink RX9 395 yX9_plainTakes ∈ WA := wA (tm_7 _ (List.mem_of_getElem? (i := 18) rfl)) rfl
theorem wm_7_20 : Cond.instanceMethod yX9_plainTakes ∈ WA := wA (tm_7 _ (List.mem_of_getElem? (i := 20) rfl)) rfl
theorem wm_p_89 : Cond.selects RX9 yX9_plainTakes yX9_plainTakes ∈ WA := wA (List.mem_append_left _ (List.mem_map.mpr ⟨(yX9_plainTakes, 64), lwp_89, rfl⟩)) rfl
theorem wm_7_21 : Cond.code yX9_plainTakes cX9_plainTakes 3 (some .int) ∈ WA := wA (tm_7 _ (List.mem_of_getElem? (i := 21) rfl)) rfl
theorem wm_7_22 : Cond.methodLink RX9 401 yX9_looking ∈ WA := wA (tm_7 _ (List.mem_of_getElem? (i := 22) rfl)) rfl
theorem wm_7_24 : Cond.instanceMethod yX9_looking ∈ WA := wA (tm_7 _ (List.mem_of_getElem? (i := 24) rfl)) rfl
theorem wm_p_90 : Cond.selects RX9 yX9_looking yX9_looking ∈ WA := wA (List.mem_append_left _ (List.mem_map.mpr ⟨(yX9_looking, 64), lwp_90, rfl⟩)) rfl
theorem wm_7_25 : Cond.code yX9_looking cX9_looking 4 (some .int) ∈ WA := wA (tm_7 _ (List.mem_of_getElem? (i := 25) rfl)) rfl
theorem wm_7_26 : Cond.methodLink RX9 407 yX9_hotLooks ∈ WA := wA (tm_7 _ (List.mem_of_getElem? (i := 26) rfl)) rfl
theorem wm_7_28 : Cond.instanceMethod yX9_hotLooks ∈ WA := wA (tm_7 _ (List.mem_of_getElem? (i := 28) rfl)) rfl
theorem wm_p_91 : Cond.selects RX9 yX9_hotLooks yX9_hotLooks ∈ WA := wA (List.mem_append_left _ (List.mem_map.mpr ⟨(yX9_hotLooks, 64), lwp_91, rfl⟩)) rfl
theorem wm_7_29 : Cond.code yX9_hotLooks cX9_hotLooks 3 (some .int) ∈ WA := wA (tm_7 _ (List.mem_of_getElem? (i := 29) rfl)) rfl
theorem wm_7_30 : Cond.methodLink RX9 404 yX9_plainLooks ∈ WA := wA (tm_7 _ (List.mem_of_getElem? (i := 30) rfl)) rfl
theorem wm_7_32 : Cond.instanceMethod yX9_plainLooks ∈ WA := wA (tm_7 _ (List.mem_of_getElem? (i := 32) rfl)) rfl
theorem wm_p_92 : Cond.selects RX9 yX9_plainLooks yX9_plainLooks ∈ WA := wA (List.mem_append_left _ (List.mem_map.mpr ⟨(yX9_plainLooks, 64), lwp_92, rfl⟩)) rfl
theorem wm_7_33 : Cond.code yX9_plainLooks cX9_plainLooks 3 (some .int) ∈ WA := wA (tm_7 _ (List.mem_of_getElem? (i := 33) rfl)) rfl
theorem wm_7_34 : Cond.methodLink RX9 419 yX9_keeping ∈ WA := wA (tm_7 _ (List.mem_of_getElem? (i := 34) rfl)) rfl
theorem wm_7_36 : Cond.instanceMethod yX9_keeping ∈ WA := wA (tm_7 _ (List.mem_of_getElem? (i := 36) rfl)) rfl
theorem wm_p_93 : Cond.selects RX9 yX9_keeping yX9_keeping ∈ WA := wA (List.mem_append_left _ (List.mem_map.mpr ⟨(yX9_keeping, 64), lwp_93, rfl⟩)) rfl
theorem wm_7_37 : Cond.code yX9_keeping cX9_keeping 3 (some .int) ∈ WA := wA (tm_7 _ (List.mem_of_getElem? (i := 37) rfl)) rfl
theorem wm_7_38 : Cond.methodLink RX9 413 yX9_plainKeeps ∈ WA := wA (tm_7 _ (List.mem_of_getElem? (i := 38) rfl)) rfl
theorem wm_7_40 : Cond.instanceMethod yX9_plainKeeps ∈ WA := wA (tm_7 _ (List.mem_of_getElem? (i := 40) rfl)) rfl
theorem wm_p_94 : Cond.selects RX9 yX9_plainKeeps yX9_plainKeeps ∈ WA := wA (List.mem_append_left _ (List.mem_map.mpr ⟨(yX9_plainKeeps, 64), lwp_94, rfl⟩)) rfl
theorem wm_7_41 : Cond.code yX9_plainKeeps cX9_plainKeeps 4 (some .int) ∈ WA := wA (tm_7 _ (List.mem_of_getElem? (i := 41) rfl)) rfl
theorem wm_4_114 : Cond.methodLink RL 129 yX8_trace ∈ WA := wA (tm_4 _ (List.mem_of_getElem? (i := 114) rfl)) rfl
theorem wm_4_115 : Cond.instanceMethod yX8_trace ∈ WA := wA (tm_4 _ (List.mem_of_getElem? (i := 115) rfl)) rfl
theorem wm_4_116 : Cond.selects RX8 yX8_trace yX8_trace ∈ WA := wA (tm_4 _ (List.mem_of_getElem? (i := 116) rfl)) rfl
theorem wm_4_117 : Cond.code yX8_trace cX8_trace 2 (some .int) ∈ WA := wA (tm_4 _ (List.mem_of_getElem? (i := 117) rfl)) rfl
theorem wm_4_118 : Cond.methodLink RX8 266 yX0_traced ∈ WA := wA (tm_4 _ (List.mem_of_getElem? (i := 118) rfl)) rfl
theorem wm_4_119 : Cond.instanceMethod yX0_traced ∈ WA := wA (tm_4 _ (List.mem_of_getElem? (i := 119) rfl)) rfl
theorem wm_4_120 : Cond.selects RX0 yX0_traced yX0_traced ∈ WA := wA (tm_4 _ (List.mem_of_getElem? (i := 120) rfl)) rfl
theorem wm_4_121 : Cond.code yX0_traced cX0_traced 2 (some .int) ∈ WA := wA (tm_4 _ (List.mem_of_getElem? (i := 121) rfl)) rfl
theorem wm_6_215 : Cond.methodLink RL 132 yX9_trace ∈ WA := wA (tm_6 _ (List.mem_of_getElem? (i := 215) rfl)) rfl
theorem wm_6_216 : Cond.instanceMethod yX9_trace ∈ WA := wA (tm_6 _ (List.mem_of_getElem? (i := 216) rfl)) rfl
theorem wm_6_217 : Cond.selects RX9 yX9_trace yX9_trace ∈ WA := wA (tm_6 _ (List.mem_of_getElem? (i := 217) rfl)) rfl
theorem wm_6_218 : Cond.code yX9_trace cX9_trace 2 (some .int) ∈ WA := wA (tm_6 _ (List.mem_of_getElem? (i := 218) rfl)) rfl
theorem wm_4_122 : Cond.methodLink RL 133 yX8_keep ∈ WA := wA (tm_4 _ (List.mem_of_getElem? (i := 122) rfl)) rfl
theorem wm_4_123 : Cond.instanceMethod yX8_keep ∈ WA := wA (tm_4 _ (List.mem_of_getElem? (i := 123) rfl)) rfl
theorem wm_4_124 : Cond.selects RX8 yX8_keep yX8_keep ∈ WA := wA (tm_4 _ (List.mem_of_getElem? (i := 124) rfl)) rfl
theorem wm_4_125 : Cond.code yX8_keep cX8_keep 3 (some .int) ∈ WA := wA (tm_4 _ (List.mem_of_getElem? (i := 125) rfl)) rfl
theorem wm_4_126 : Cond.methodLink RX8 269 yX0_isThere ∈ WA := wA (tm_4 _ (List.mem_of_getElem? (i := 126) rfl)) rfl
theorem wm_4_127 : Cond.methodLink RX8 272 yX5_holdBody ∈ WA := wA (tm_4 _ (List.mem_of_getElem? (i := 127) rfl)) rfl
theorem wm_4_128 : Cond.instanceMethod yX5_holdBody ∈ WA := wA (tm_4 _ (List.mem_of_getElem? (i := 128) rfl)) rfl
theorem wm_4_129 : Cond.selects RX5 yX5_holdBody yX5_holdBody ∈ WA := wA (tm_4 _ (List.mem_of_getElem? (i := 129) rfl)) rfl
theorem wm_4_130 : Cond.code yX5_holdBody cX5_holdBody 3 none ∈ WA := wA (tm_4 _ (List.mem_of_getElem? (i := 130) rfl)) rfl
theorem wm_7_50 : Cond.methodLink RL 136 yX9_keep ∈ WA := wA (tm_7 _ (List.mem_of_getElem? (i := 50) rfl)) rfl
theorem wm_7_51 : Cond.instanceMethod yX9_keep ∈ WA := wA (tm_7 _ (List.mem_of_getElem? (i := 51) rfl)) rfl
theorem wm_7_52 : Cond.selects RX9 yX9_keep yX9_keep ∈ WA := wA (tm_7 _ (List.mem_of_getElem? (i := 52) rfl)) rfl
theorem wm_7_53 : Cond.code yX9_keep cX9_keep 3 (some .int) ∈ WA := wA (tm_7 _ (List.mem_of_getElem? (i := 53) rfl)) rfl
theorem wm_4_131 : Cond.methodLink RL 137 yX8_row ∈ WA := wA (tm_4 _ (List.mem_of_getElem? (i := 131) rfl)) rfl
theorem wm_4_132 : Cond.instanceMethod yX8_row ∈ WA := wA (tm_4 _ (List.mem_of_getElem? (i := 132) rfl)) rfl
theorem wm_4_133 : Cond.selects RX8 yX8_row yX8_row ∈ WA := wA (tm_4 _ (List.mem_of_getElem? (i := 133) rfl)) rfl
theorem wm_4_134 : Cond.code yX8_row cX8_row 4 (some .int) ∈ WA := wA (tm_4 _ (List.mem_of_getElem? (i := 134) rfl)) rfl
theorem wm_4_135 : Cond.methodLink RX8 275 yX5_holdRow ∈ WA := wA (tm_4 _ (List.mem_of_getElem? (i := 135) rfl)) rfl
theorem wm_4_136 : Cond.instanceMethod yX5_holdRow ∈ WA := wA (tm_4 _ (List.mem_of_getElem? (i := 136) rfl)) rfl
theorem wm_4_137 : Cond.selects RX5 yX5_holdRow yX5_holdRow ∈ WA := wA (tm_4 _ (List.mem_of_getElem? (i := 137) rfl)) rfl
theorem wm_4_138 : Cond.code yX5_holdRow cX5_holdRow 4 none ∈ WA := wA (tm_4 _ (List.mem_of_getElem? (i := 138) rfl)) rfl
theorem wm_4_139 : Cond.methodLink RX5 29 yJ7_fill_d0a16 ∈ WA := wA (tm_4 _ (List.mem_of_getElem? (i := 139) rfl)) rfl
theorem wm_4_140 : Cond.static yJ7_fill_d0a16 ∈ WA := wA (tm_4 _ (List.mem_of_getElem? (i := 140) rfl)) rfl
theorem wm_4_141 : Cond.code yJ7_fill_d0a16 cJ7_fill_d0a16 5 none ∈ WA := wA (tm_4 _ (List.mem_of_getElem? (i := 141) rfl)) rfl
theorem wm_7_54 : Cond.methodLink RL 140 yX9_row ∈ WA := wA (tm_7 _ (List.mem_of_getElem? (i := 54) rfl)) rfl
theorem wm_7_55 : Cond.instanceMethod yX9_row ∈ WA := wA (tm_7 _ (List.mem_of_getElem? (i := 55) rfl)) rfl
theorem wm_7_56 : Cond.selects RX9 yX9_row yX9_row ∈ WA := wA (tm_7 _ (List.mem_of_getElem? (i := 56) rfl)) rfl
theorem wm_7_57 : Cond.code yX9_row cX9_row 5 (some .int) ∈ WA := wA (tm_7 _ (List.mem_of_getElem? (i := 57) rfl)) rfl
theorem wm_4_142 : Cond.methodLink RL 143 yX8_put ∈ WA := wA (tm_4 _ (List.mem_of_getElem? (i := 142) rfl)) rfl
theorem wm_4_143 : Cond.instanceMethod yX8_put ∈ WA := wA (tm_4 _ (List.mem_of_getElem? (i := 143) rfl)) rfl
theorem wm_4_144 : Cond.selects RX8 yX8_put yX8_put ∈ WA := wA (tm_4 _ (List.mem_of_getElem? (i := 144) rfl)) rfl
theorem wm_4_145 : Cond.code yX8_put cX8_put 6 (some .int) ∈ WA := wA (tm_4 _ (List.mem_of_getElem? (i := 145) rfl)) rfl
theorem wm_2_33 : Cond.fieldLink RX8 281 "OpenOrTake$Shelves" "sort" "[I" ∈ WA := wA (tm_2 _ (List.mem_of_getElem? (i := 33) rfl)) rfl
theorem wm_4_146 : Cond.methodLink RX8 284 yX5_lowestBits ∈ WA := wA (tm_4 _ (List.mem_of_getElem? (i := 146) rfl)) rfl
theorem wm_4_147 : Cond.static yX5_lowestBits ∈ WA := wA (tm_4 _ (List.mem_of_getElem? (i := 147) rfl)) rfl
theorem wm_4_148 : Cond.code yX5_lowestBits cX5_lowestBits 3 (some .long) ∈ WA := wA (tm_4 _ (List.mem_of_getElem? (i := 148) rfl)) rfl
theorem wm_7_58 : Cond.methodLink RL 147 yX9_put ∈ WA := wA (tm_7 _ (List.mem_of_getElem? (i := 58) rfl)) rfl
theorem wm_7_59 : Cond.instanceMethod yX9_put ∈ WA := wA (tm_7 _ (List.mem_of_getElem? (i := 59) rfl)) rfl
theorem wm_7_60 : Cond.selects RX9 yX9_put yX9_put ∈ WA := wA (tm_7 _ (List.mem_of_getElem? (i := 60) rfl)) rfl
theorem wm_7_61 : Cond.code yX9_put cX9_put 7 (some .int) ∈ WA := wA (tm_7 _ (List.mem_of_getElem? (i := 61) rfl)) rfl
theorem wm_7_62 : Cond.methodLink RX9 425 yX9_whyNoPlace ∈ WA := wA (tm_7 _ (List.mem_of_getElem? (i := 62) rfl)) rfl
theorem wm_7_64 : Cond.instanceMethod yX9_whyNoPlace ∈ WA := wA (tm_7 _ (List.mem_of_getElem? (i := 64) rfl)) rfl
theorem wm_p_96 : Cond.selects RX9 yX9_whyNoPlace yX9_whyNoPlace ∈ WA := wA (List.mem_append_left _ (List.mem_map.mpr ⟨(yX9_whyNoPlace, 64), lwp_96, rfl⟩)) rfl
theorem wm_7_65 : Cond.code yX9_whyNoPlace cX9_whyNoPlace 3 (some .int) ∈ WA := wA (tm_7 _ (List.mem_of_getElem? (i := 65) rfl)) rfl
theorem wm_4_149 : Cond.methodLink RL 148 yX8_element ∈ WA := wA (tm_4 _ (List.mem_of_getElem? (i := 149) rfl)) rfl
theorem wm_4_150 : Cond.instanceMethod yX8_element ∈ WA := wA (tm_4 _ (List.mem_of_getElem? (i := 150) rfl)) rfl
theorem wm_4_151 : Cond.selects RX8 yX8_element yX8_element ∈ WA := wA (tm_4 _ (List.mem_of_getElem? (i := 151) rfl)) rfl
theorem wm_4_152 : Cond.code yX8_element cX8_element 3 (some .long) ∈ WA := wA (tm_4 _ (List.mem_of_getElem? (i := 152) rfl)) rfl
theorem wm_4_153 : Cond.constantLong RX8 290 (-9223372036854775808) ∈ WA := wA (tm_4 _ (List.mem_of_getElem? (i := 153) rfl)) rfl
theorem wm_7_66 : Cond.methodLink RL 152 yX9_element ∈ WA := wA (tm_7 _ (List.mem_of_getElem? (i := 66) rfl)) rfl
theorem wm_7_67 : Cond.instanceMethod yX9_element ∈ WA := wA (tm_7 _ (List.mem_of_getElem? (i := 67) rfl)) rfl
theorem wm_7_68 : Cond.selects RX9 yX9_element yX9_element ∈ WA := wA (tm_7 _ (List.mem_of_getElem? (i := 68) rfl)) rfl
theorem wm_7_69 : Cond.code yX9_element cX9_element 3 (some .long) ∈ WA := wA (tm_7 _ (List.mem_of_getElem? (i := 69) rfl)) rfl
theorem wm_7_70 : Cond.constantLong RX9 430 (-9223372036854775808) ∈ WA := wA (tm_7 _ (List.mem_of_getElem? (i := 70) rfl)) rfl
theorem wm_4_154 : Cond.methodLink RL 153 yX8_shift ∈ WA := wA (tm_4 _ (List.mem_of_getElem? (i := 154) rfl)) rfl
theorem wm_4_155 : Cond.instanceMethod yX8_shift ∈ WA := wA (tm_4 _ (List.mem_of_getElem? (i := 155) rfl)) rfl
theorem wm_4_156 : Cond.selects RX8 yX8_shift yX8_shift ∈ WA := wA (tm_4 _ (List.mem_of_getElem? (i := 156) rfl)) rfl
theorem wm_4_157 : Cond.code yX8_shift cX8_shift 6 (some .int) ∈ WA := wA (tm_4 _ (List.mem_of_getElem? (i := 157) rfl)) rfl
theorem wm_4_164 : Cond.methodLink RX8 302 arraycopyName ∈ WA := wA (tm_4 _ (List.mem_of_getElem? (i := 164) rfl)) rfl
theorem wm_4_158 : Cond.methodLink RX8 292 yX5_isEmpty ∈ WA := wA (tm_4 _ (List.mem_of_getElem? (i := 158) rfl)) rfl
theorem wm_4_159 : Cond.methodLink RX8 295 yX5_isRow ∈ WA := wA (tm_4 _ (List.mem_of_getElem? (i := 159) rfl)) rfl
theorem wm_4_160 : Cond.methodLink RX8 298 yX5_reaches ∈ WA := wA (tm_4 _ (List.mem_of_getElem? (i := 160) rfl)) rfl
theorem wm_4_161 : Cond.instanceMethod yX5_reaches ∈ WA := wA (tm_4 _ (List.mem_of_getElem? (i := 161) rfl)) rfl
theorem wm_4_162 : Cond.selects RX5 yX5_reaches yX5_reaches ∈ WA := wA (tm_4 _ (List.mem_of_getElem? (i := 162) rfl)) rfl
theorem wm_4_163 : Cond.code yX5_reaches cX5_reaches 4 (some .boolean) ∈ WA := wA (tm_4 _ (List.mem_of_getElem? (i := 163) rfl)) rfl
theorem wm_7_71 : Cond.methodLink RL 157 yX9_shift ∈ WA := wA (tm_7 _ (List.mem_of_getElem? (i := 71) rfl)) rfl
theorem wm_7_72 : Cond.instanceMethod yX9_shift ∈ WA := wA (tm_7 _ (List.mem_of_getElem? (i := 72) rfl)) rfl
theorem wm_7_73 : Cond.selects RX9 yX9_shift yX9_shift ∈ WA := wA (tm_7 _ (List.mem_of_getElem? (i := 73) rfl)) rfl
theorem wm_7_74 : Cond.code yX9_shift cX9_shift 7 (some .int) ∈ WA := wA (tm_7 _ (List.mem_of_getElem? (i := 74) rfl)) rfl
theorem wm_4_165 : Cond.methodLink RL 158 yX8_taken ∈ WA := wA (tm_4 _ (List.mem_of_getElem? (i := 165) rfl)) rfl
theorem wm_4_166 : Cond.instanceMethod yX8_taken ∈ WA := wA (tm_4 _ (List.mem_of_getElem? (i := 166) rfl)) rfl
theorem wm_4_167 : Cond.selects RX8 yX8_taken yX8_taken ∈ WA := wA (tm_4 _ (List.mem_of_getElem? (i := 167) rfl)) rfl
theorem wm_4_168 : Cond.code yX8_taken cX8_taken 4 (some .int) ∈ WA := wA (tm_4 _ (List.mem_of_getElem? (i := 168) rfl)) rfl
theorem wm_4_169 : Cond.methodLink RX8 308 yX0_kindOf ∈ WA := wA (tm_4 _ (List.mem_of_getElem? (i := 169) rfl)) rfl
theorem wm_4_170 : Cond.methodLink RX8 311 yX0_isUnder ∈ WA := wA (tm_4 _ (List.mem_of_getElem? (i := 170) rfl)) rfl
theorem wm_4_171 : Cond.static yX0_isUnder ∈ WA := wA (tm_4 _ (List.mem_of_getElem? (i := 171) rfl)) rfl
theorem wm_4_172 : Cond.code yX0_isUnder cX0_isUnder 4 (some .boolean) ∈ WA := wA (tm_4 _ (List.mem_of_getElem? (i := 172) rfl)) rfl
theorem wm_7_75 : Cond.methodLink RL 161 yX9_taken ∈ WA := wA (tm_7 _ (List.mem_of_getElem? (i := 75) rfl)) rfl
theorem wm_7_76 : Cond.instanceMethod yX9_taken ∈ WA := wA (tm_7 _ (List.mem_of_getElem? (i := 76) rfl)) rfl
theorem wm_7_77 : Cond.selects RX9 yX9_taken yX9_taken ∈ WA := wA (tm_7 _ (List.mem_of_getElem? (i := 77) rfl)) rfl
theorem wm_7_78 : Cond.code yX9_taken cX9_taken 3 (some .int) ∈ WA := wA (tm_7 _ (List.mem_of_getElem? (i := 78) rfl)) rfl
theorem wm_4_173 : Cond.methodLink RL 162 yX8_count ∈ WA := wA (tm_4 _ (List.mem_of_getElem? (i := 173) rfl)) rfl
theorem wm_4_174 : Cond.instanceMethod yX8_count ∈ WA := wA (tm_4 _ (List.mem_of_getElem? (i := 174) rfl)) rfl
theorem wm_4_175 : Cond.selects RX8 yX8_count yX8_count ∈ WA := wA (tm_4 _ (List.mem_of_getElem? (i := 175) rfl)) rfl
theorem wm_4_176 : Cond.code yX8_count cX8_count 2 (some .int) ∈ WA := wA (tm_4 _ (List.mem_of_getElem? (i := 176) rfl)) rfl
theorem wm_2_7 : Cond.fieldLink RX8 317 "OpenOrTake$Bodies" "count" "I" ∈ WA := wA (tm_2 _ (List.mem_of_getElem? (i := 7) rfl)) rfl
theorem wm_2_10 : Cond.fieldLink RX8 320 "OpenOrTake$Bodies" "ran" "I" ∈ WA := wA (tm_2 _ (List.mem_of_getElem? (i := 10) rfl)) rfl
theorem wm_4_177 : Cond.methodLink RX8 314 yX2_countSafe ∈ WA := wA (tm_4 _ (List.mem_of_getElem? (i := 177) rfl)) rfl
theorem wm_4_178 : Cond.instanceMethod yX2_countSafe ∈ WA := wA (tm_4 _ (List.mem_of_getElem? (i := 178) rfl)) rfl
theorem wm_4_179 : Cond.selects RX2 yX2_countSafe yX2_countSafe ∈ WA := wA (tm_4 _ (List.mem_of_getElem? (i := 179) rfl)) rfl
theorem wm_4_180 : Cond.code yX2_countSafe cX2_countSafe 4 (some .int) ∈ WA := wA (tm_4 _ (List.mem_of_getElem? (i := 180) rfl)) rfl
theorem wm_7_42 : Cond.methodLink RL 165 yX9_count ∈ WA := wA (tm_7 _ (List.mem_of_getElem? (i := 42) rfl)) rfl
theorem wm_7_43 : Cond.instanceMethod yX9_count ∈ WA := wA (tm_7 _ (List.mem_of_getElem? (i := 43) rfl)) rfl
theorem wm_7_44 : Cond.selects RX9 yX9_count yX9_count ∈ WA := wA (tm_7 _ (List.mem_of_getElem? (i := 44) rfl)) rfl
theorem wm_7_45 : Cond.code yX9_count cX9_count 2 (some .int) ∈ WA := wA (tm_7 _ (List.mem_of_getElem? (i := 45) rfl)) rfl
theorem wm_7_46 : Cond.methodLink RX9 422 yX9_safeMany ∈ WA := wA (tm_7 _ (List.mem_of_getElem? (i := 46) rfl)) rfl
theorem wm_7_48 : Cond.instanceMethod yX9_safeMany ∈ WA := wA (tm_7 _ (List.mem_of_getElem? (i := 48) rfl)) rfl
theorem wm_p_95 : Cond.selects RX9 yX9_safeMany yX9_safeMany ∈ WA := wA (List.mem_append_left _ (List.mem_map.mpr ⟨(yX9_safeMany, 64), lwp_95, rfl⟩)) rfl
theorem wm_7_49 : Cond.code yX9_safeMany cX9_safeMany 3 (some .int) ∈ WA := wA (tm_7 _ (List.mem_of_getElem? (i := 49) rfl)) rfl
theorem wm_2_55 : Cond.laysFinal "OpenOrTake" "OpenOrTake" "party" "LOpenOrTake$Party;" ∈ WA := wA (tm_2 _ (List.mem_of_getElem? (i := 55) rfl)) rfl
theorem wm_2_57 : Cond.laysFinal "OpenOrTake" "OpenOrTake" "changes" "LOpenOrTake$Changes;" ∈ WA := wA (tm_2 _ (List.mem_of_getElem? (i := 57) rfl)) rfl
theorem wm_2_59 : Cond.laysFinal "OpenOrTake" "OpenOrTake" "tape" "LOpenOrTake$Tape;" ∈ WA := wA (tm_2 _ (List.mem_of_getElem? (i := 59) rfl)) rfl
theorem wm_2_61 : Cond.laysFinal "OpenOrTake" "OpenOrTake" "deed" "LOpenOrTake$Evening;" ∈ WA := wA (tm_2 _ (List.mem_of_getElem? (i := 61) rfl)) rfl
theorem wm_2_63 : Cond.laysFinal "OpenOrTake" "OpenOrTake" "kept" "LOpenOrTake$Evening;" ∈ WA := wA (tm_2 _ (List.mem_of_getElem? (i := 63) rfl)) rfl
theorem wm_2_65 : Cond.laysFinal "OpenOrTake" "OpenOrTake" "thought" "LOpenOrTake$Thought;" ∈ WA := wA (tm_2 _ (List.mem_of_getElem? (i := 65) rfl)) rfl
theorem wm_2_67 : Cond.laysFinal "OpenOrTake" "OpenOrTake" "bodies" "LOpenOrTake$Bodies;" ∈ WA := wA (tm_2 _ (List.mem_of_getElem? (i := 67) rfl)) rfl
theorem wm_2_69 : Cond.laysFinal "OpenOrTake" "OpenOrTake" "shelves" "LOpenOrTake$Shelves;" ∈ WA := wA (tm_2 _ (List.mem_of_getElem? (i := 69) rfl)) rfl
theorem wm_2_71 : Cond.lays "OpenOrTake" "OpenOrTake" "peopleOfImage" "I" ∈ WA := wA (tm_2 _ (List.mem_of_getElem? (i := 71) rfl)) rfl
theorem wm_5_10 : Cond.lays "OpenOrTakeModel" "OpenOrTakeModel" "code" "I" ∈ WA := wA (tm_5 _ (List.mem_of_getElem? (i := 10) rfl)) rfl
theorem wm_5_12 : Cond.lays "OpenOrTakeModel" "OpenOrTakeModel" "people" "I" ∈ WA := wA (tm_5 _ (List.mem_of_getElem? (i := 12) rfl)) rfl
theorem wm_5_14 : Cond.laysFinal "OpenOrTakeModel" "OpenOrTakeModel" "worth" "[I" ∈ WA := wA (tm_5 _ (List.mem_of_getElem? (i := 14) rfl)) rfl
theorem wm_5_16 : Cond.laysFinal "OpenOrTakeModel" "OpenOrTakeModel" "like" "[I" ∈ WA := wA (tm_5 _ (List.mem_of_getElem? (i := 16) rfl)) rfl
theorem wm_5_18 : Cond.laysFinal "OpenOrTakeModel" "OpenOrTakeModel" "way" "[I" ∈ WA := wA (tm_5 _ (List.mem_of_getElem? (i := 18) rfl)) rfl
theorem wm_5_20 : Cond.lays "OpenOrTakeModel" "OpenOrTakeModel" "most" "I" ∈ WA := wA (tm_5 _ (List.mem_of_getElem? (i := 20) rfl)) rfl
theorem wm_5_22 : Cond.lays "OpenOrTakeModel" "OpenOrTakeModel" "again1" "I" ∈ WA := wA (tm_5 _ (List.mem_of_getElem? (i := 22) rfl)) rfl
theorem wm_5_24 : Cond.laysFinal "OpenOrTakeModel" "OpenOrTakeModel" "lot" "[I" ∈ WA := wA (tm_5 _ (List.mem_of_getElem? (i := 24) rfl)) rfl
theorem wm_5_26 : Cond.laysFinal "OpenOrTakeModel" "OpenOrTakeModel" "owner" "[I" ∈ WA := wA (tm_5 _ (List.mem_of_getElem? (i := 26) rfl)) rfl
theorem wm_5_28 : Cond.laysFinal "OpenOrTakeModel" "OpenOrTakeModel" "taken1" "[I" ∈ WA := wA (tm_5 _ (List.mem_of_getElem? (i := 28) rfl)) rfl
theorem wm_5_30 : Cond.laysFinal "OpenOrTakeModel" "OpenOrTakeModel" "wrapped" "[I" ∈ WA := wA (tm_5 _ (List.mem_of_getElem? (i := 30) rfl)) rfl
theorem wm_5_32 : Cond.laysFinal "OpenOrTakeModel" "OpenOrTakeModel" "whose" "[I" ∈ WA := wA (tm_5 _ (List.mem_of_getElem? (i := 32) rfl)) rfl
theorem wm_5_34 : Cond.laysFinal "OpenOrTakeModel" "OpenOrTakeModel" "nextLot" "[I" ∈ WA := wA (tm_5 _ (List.mem_of_getElem? (i := 34) rfl)) rfl
theorem wm_5_36 : Cond.laysFinal "OpenOrTakeModel" "OpenOrTakeModel" "barred" "[I" ∈ WA := wA (tm_5 _ (List.mem_of_getElem? (i := 36) rfl)) rfl
theorem wm_5_38 : Cond.laysFinal "OpenOrTakeModel" "OpenOrTakeModel" "turns1" "[I" ∈ WA := wA (tm_5 _ (List.mem_of_getElem? (i := 38) rfl)) rfl
theorem wm_5_40 : Cond.lays "OpenOrTakeModel" "OpenOrTakeModel" "begun" "I" ∈ WA := wA (tm_5 _ (List.mem_of_getElem? (i := 40) rfl)) rfl
theorem wm_5_42 : Cond.lays "OpenOrTakeModel" "OpenOrTakeModel" "wasAgain" "I" ∈ WA := wA (tm_5 _ (List.mem_of_getElem? (i := 42) rfl)) rfl
theorem wm_5_44 : Cond.lays "OpenOrTakeModel" "OpenOrTakeModel" "ledWho" "I" ∈ WA := wA (tm_5 _ (List.mem_of_getElem? (i := 44) rfl)) rfl
theorem wm_5_46 : Cond.lays "OpenOrTakeModel" "OpenOrTakeModel" "ledGot" "I" ∈ WA := wA (tm_5 _ (List.mem_of_getElem? (i := 46) rfl)) rfl
theorem wm_5_48 : Cond.lays "OpenOrTakeModel" "OpenOrTakeModel" "ledTurns" "I" ∈ WA := wA (tm_5 _ (List.mem_of_getElem? (i := 48) rfl)) rfl
theorem wm_5_50 : Cond.lays "OpenOrTakeModel" "OpenOrTakeModel" "doneMany" "I" ∈ WA := wA (tm_5 _ (List.mem_of_getElem? (i := 50) rfl)) rfl
theorem wm_5_52 : Cond.lays "OpenOrTakeModel" "OpenOrTakeModel" "undoneMany" "I" ∈ WA := wA (tm_5 _ (List.mem_of_getElem? (i := 52) rfl)) rfl
theorem wm_5_54 : Cond.laysFinal "OpenOrTakeModel" "OpenOrTakeModel" "changeOf" "[I" ∈ WA := wA (tm_5 _ (List.mem_of_getElem? (i := 54) rfl)) rfl
theorem wm_5_56 : Cond.laysFinal "OpenOrTakeModel" "OpenOrTakeModel" "changeAt" "[I" ∈ WA := wA (tm_5 _ (List.mem_of_getElem? (i := 56) rfl)) rfl
theorem wm_5_58 : Cond.laysFinal "OpenOrTakeModel" "OpenOrTakeModel" "before" "[I" ∈ WA := wA (tm_5 _ (List.mem_of_getElem? (i := 58) rfl)) rfl
theorem wm_5_60 : Cond.laysFinal "OpenOrTakeModel" "OpenOrTakeModel" "behind" "[I" ∈ WA := wA (tm_5 _ (List.mem_of_getElem? (i := 60) rfl)) rfl
theorem wm_5_62 : Cond.laysFinal "OpenOrTakeModel" "OpenOrTakeModel" "tape" "[B" ∈ WA := wA (tm_5 _ (List.mem_of_getElem? (i := 62) rfl)) rfl
theorem wm_5_64 : Cond.lays "OpenOrTakeModel" "OpenOrTakeModel" "taped" "I" ∈ WA := wA (tm_5 _ (List.mem_of_getElem? (i := 64) rfl)) rfl
theorem wm_5_66 : Cond.lays "OpenOrTakeModel" "OpenOrTakeModel" "here" "I" ∈ WA := wA (tm_5 _ (List.mem_of_getElem? (i := 66) rfl)) rfl
theorem wm_5_68 : Cond.lays "OpenOrTakeModel" "OpenOrTakeModel" "fault" "I" ∈ WA := wA (tm_5 _ (List.mem_of_getElem? (i := 68) rfl)) rfl
theorem wm_5_70 : Cond.lays "OpenOrTakeModel" "OpenOrTakeModel" "open" "I" ∈ WA := wA (tm_5 _ (List.mem_of_getElem? (i := 70) rfl)) rfl
theorem wm_5_72 : Cond.lays "OpenOrTakeModel" "OpenOrTakeModel" "laid" "I" ∈ WA := wA (tm_5 _ (List.mem_of_getElem? (i := 72) rfl)) rfl
theorem wm_5_74 : Cond.laysFinal "OpenOrTakeModel" "OpenOrTakeModel" "act" "[B" ∈ WA := wA (tm_5 _ (List.mem_of_getElem? (i := 74) rfl)) rfl
theorem wm_5_76 : Cond.laysFinal "OpenOrTakeModel" "OpenOrTakeModel" "with" "[I" ∈ WA := wA (tm_5 _ (List.mem_of_getElem? (i := 76) rfl)) rfl
theorem wm_5_78 : Cond.laysFinal "OpenOrTakeModel" "OpenOrTakeModel" "lineMany" "[I" ∈ WA := wA (tm_5 _ (List.mem_of_getElem? (i := 78) rfl)) rfl
theorem wm_5_80 : Cond.laysFinal "OpenOrTakeModel" "OpenOrTakeModel" "testEnd" "[S" ∈ WA := wA (tm_5 _ (List.mem_of_getElem? (i := 80) rfl)) rfl
theorem wm_5_82 : Cond.laysFinal "OpenOrTakeModel" "OpenOrTakeModel" "lineEnd" "[S" ∈ WA := wA (tm_5 _ (List.mem_of_getElem? (i := 82) rfl)) rfl
theorem wm_5_84 : Cond.laysFinal "OpenOrTakeModel" "OpenOrTakeModel" "facts" "[I" ∈ WA := wA (tm_5 _ (List.mem_of_getElem? (i := 84) rfl)) rfl
theorem wm_5_86 : Cond.laysFinal "OpenOrTakeModel" "OpenOrTakeModel" "pile" "[I" ∈ WA := wA (tm_5 _ (List.mem_of_getElem? (i := 86) rfl)) rfl
theorem wm_5_88 : Cond.lays "OpenOrTakeModel" "OpenOrTakeModel" "hasLaw" "Z" ∈ WA := wA (tm_5 _ (List.mem_of_getElem? (i := 88) rfl)) rfl
theorem wm_5_90 : Cond.laysFinal "OpenOrTakeModel" "OpenOrTakeModel" "keptOwner" "[I" ∈ WA := wA (tm_5 _ (List.mem_of_getElem? (i := 90) rfl)) rfl
theorem wm_5_92 : Cond.laysFinal "OpenOrTakeModel" "OpenOrTakeModel" "keptTaken" "[I" ∈ WA := wA (tm_5 _ (List.mem_of_getElem? (i := 92) rfl)) rfl
theorem wm_5_94 : Cond.laysFinal "OpenOrTakeModel" "OpenOrTakeModel" "keptRest" "[I" ∈ WA := wA (tm_5 _ (List.mem_of_getElem? (i := 94) rfl)) rfl
theorem wm_5_96 : Cond.laysFinal "OpenOrTakeModel" "OpenOrTakeModel" "endOwner" "[I" ∈ WA := wA (tm_5 _ (List.mem_of_getElem? (i := 96) rfl)) rfl
theorem wm_5_98 : Cond.laysFinal "OpenOrTakeModel" "OpenOrTakeModel" "endTurns" "[I" ∈ WA := wA (tm_5 _ (List.mem_of_getElem? (i := 98) rfl)) rfl
theorem wm_5_100 : Cond.laysFinal "OpenOrTakeModel" "OpenOrTakeModel" "given" "[I" ∈ WA := wA (tm_5 _ (List.mem_of_getElem? (i := 100) rfl)) rfl
theorem wm_5_102 : Cond.laysFinal "OpenOrTakeModel" "OpenOrTakeModel" "bestGiven" "[I" ∈ WA := wA (tm_5 _ (List.mem_of_getElem? (i := 102) rfl)) rfl
theorem wm_5_104 : Cond.lays "OpenOrTakeModel" "OpenOrTakeModel" "bestSum" "I" ∈ WA := wA (tm_5 _ (List.mem_of_getElem? (i := 104) rfl)) rfl
theorem wm_5_106 : Cond.laysFinal "OpenOrTakeModel" "OpenOrTakeModel" "keptWorth" "[I" ∈ WA := wA (tm_5 _ (List.mem_of_getElem? (i := 106) rfl)) rfl
theorem wm_5_108 : Cond.laysFinal "OpenOrTakeModel" "OpenOrTakeModel" "keptLot" "[I" ∈ WA := wA (tm_5 _ (List.mem_of_getElem? (i := 108) rfl)) rfl
theorem wm_5_110 : Cond.laysFinal "OpenOrTakeModel" "OpenOrTakeModel" "sums" "[I" ∈ WA := wA (tm_5 _ (List.mem_of_getElem? (i := 110) rfl)) rfl
theorem wm_5_112 : Cond.lays "OpenOrTakeModel" "OpenOrTakeModel" "imagePeople" "I" ∈ WA := wA (tm_5 _ (List.mem_of_getElem? (i := 112) rfl)) rfl
theorem wm_5_114 : Cond.laysFinal "OpenOrTakeModel" "OpenOrTakeModel" "imageLot" "[I" ∈ WA := wA (tm_5 _ (List.mem_of_getElem? (i := 114) rfl)) rfl
theorem wm_5_116 : Cond.laysFinal "OpenOrTakeModel" "OpenOrTakeModel" "imageOwner" "[I" ∈ WA := wA (tm_5 _ (List.mem_of_getElem? (i := 116) rfl)) rfl
theorem wm_5_118 : Cond.laysFinal "OpenOrTakeModel" "OpenOrTakeModel" "imageTaken" "[I" ∈ WA := wA (tm_5 _ (List.mem_of_getElem? (i := 118) rfl)) rfl
theorem wm_5_120 : Cond.laysFinal "OpenOrTakeModel" "OpenOrTakeModel" "imageRest" "[I" ∈ WA := wA (tm_5 _ (List.mem_of_getElem? (i := 120) rfl)) rfl
theorem wm_5_122 : Cond.lays "OpenOrTakeModel" "OpenOrTakeModel" "bodies" "I" ∈ WA := wA (tm_5 _ (List.mem_of_getElem? (i := 122) rfl)) rfl
theorem wm_5_124 : Cond.laysFinal "OpenOrTakeModel" "OpenOrTakeModel" "kind" "[I" ∈ WA := wA (tm_5 _ (List.mem_of_getElem? (i := 124) rfl)) rfl
theorem wm_5_126 : Cond.lays "OpenOrTakeModel" "OpenOrTakeModel" "traces" "I" ∈ WA := wA (tm_5 _ (List.mem_of_getElem? (i := 126) rfl)) rfl
theorem wm_5_128 : Cond.laysFinal "OpenOrTakeModel" "OpenOrTakeModel" "traced" "[I" ∈ WA := wA (tm_5 _ (List.mem_of_getElem? (i := 128) rfl)) rfl
theorem wm_5_130 : Cond.laysFinal "OpenOrTakeModel" "OpenOrTakeModel" "holds" "[I" ∈ WA := wA (tm_5 _ (List.mem_of_getElem? (i := 130) rfl)) rfl
theorem wm_5_132 : Cond.laysFinal "OpenOrTakeModel" "OpenOrTakeModel" "size" "[I" ∈ WA := wA (tm_5 _ (List.mem_of_getElem? (i := 132) rfl)) rfl
theorem wm_5_134 : Cond.laysFinal "OpenOrTakeModel" "OpenOrTakeModel" "elements" "[J" ∈ WA := wA (tm_5 _ (List.mem_of_getElem? (i := 134) rfl)) rfl
theorem wm_5_136 : Cond.laysFinal "OpenOrTakeModel" "OpenOrTakeModel" "shifted" "[J" ∈ WA := wA (tm_5 _ (List.mem_of_getElem? (i := 136) rfl)) rfl
theorem wm_1_78 : Cond.lays "OpenOrTake$Party" "OpenOrTake$Party" "people" "I" ∈ WA := wA (tm_1 _ (List.mem_of_getElem? (i := 78) rfl)) rfl
theorem wm_1_80 : Cond.laysFinal "OpenOrTake$Party" "OpenOrTake$Party" "worth" "[I" ∈ WA := wA (tm_1 _ (List.mem_of_getElem? (i := 80) rfl)) rfl
theorem wm_1_82 : Cond.laysFinal "OpenOrTake$Party" "OpenOrTake$Party" "like" "[I" ∈ WA := wA (tm_1 _ (List.mem_of_getElem? (i := 82) rfl)) rfl
theorem wm_1_84 : Cond.laysFinal "OpenOrTake$Party" "OpenOrTake$Party" "way" "[I" ∈ WA := wA (tm_1 _ (List.mem_of_getElem? (i := 84) rfl)) rfl
theorem wm_1_86 : Cond.lays "OpenOrTake$Party" "OpenOrTake$Party" "most" "I" ∈ WA := wA (tm_1 _ (List.mem_of_getElem? (i := 86) rfl)) rfl
theorem wm_1_88 : Cond.lays "OpenOrTake$Party" "OpenOrTake$Party" "again" "I" ∈ WA := wA (tm_1 _ (List.mem_of_getElem? (i := 88) rfl)) rfl
theorem wm_1_90 : Cond.lays "OpenOrTake$Party" "OpenOrTake$Party" "law" "LOpenOrTake$Law;" ∈ WA := wA (tm_1 _ (List.mem_of_getElem? (i := 90) rfl)) rfl
theorem wm_1_107 : Cond.laysFinal "OpenOrTake$Changes" "OpenOrTake$Changes" "number" "[I" ∈ WA := wA (tm_1 _ (List.mem_of_getElem? (i := 107) rfl)) rfl
theorem wm_1_109 : Cond.laysFinal "OpenOrTake$Changes" "OpenOrTake$Changes" "what" "[I" ∈ WA := wA (tm_1 _ (List.mem_of_getElem? (i := 109) rfl)) rfl
theorem wm_1_111 : Cond.laysFinal "OpenOrTake$Changes" "OpenOrTake$Changes" "before" "[I" ∈ WA := wA (tm_1 _ (List.mem_of_getElem? (i := 111) rfl)) rfl
theorem wm_1_113 : Cond.laysFinal "OpenOrTake$Changes" "OpenOrTake$Changes" "after" "[I" ∈ WA := wA (tm_1 _ (List.mem_of_getElem? (i := 113) rfl)) rfl
theorem wm_1_115 : Cond.lays "OpenOrTake$Changes" "OpenOrTake$Changes" "done" "I" ∈ WA := wA (tm_1 _ (List.mem_of_getElem? (i := 115) rfl)) rfl
theorem wm_1_117 : Cond.lays "OpenOrTake$Changes" "OpenOrTake$Changes" "all" "I" ∈ WA := wA (tm_1 _ (List.mem_of_getElem? (i := 117) rfl)) rfl
theorem wm_1_134 : Cond.laysFinal "OpenOrTake$Tape" "OpenOrTake$Tape" "bytes" "[C" ∈ WA := wA (tm_1 _ (List.mem_of_getElem? (i := 134) rfl)) rfl
theorem wm_1_136 : Cond.lays "OpenOrTake$Tape" "OpenOrTake$Tape" "length" "I" ∈ WA := wA (tm_1 _ (List.mem_of_getElem? (i := 136) rfl)) rfl
theorem wm_1_138 : Cond.lays "OpenOrTake$Tape" "OpenOrTake$Tape" "at" "I" ∈ WA := wA (tm_1 _ (List.mem_of_getElem? (i := 138) rfl)) rfl
theorem wm_1_140 : Cond.lays "OpenOrTake$Tape" "OpenOrTake$Tape" "fault" "I" ∈ WA := wA (tm_1 _ (List.mem_of_getElem? (i := 140) rfl)) rfl
theorem wm_1_142 : Cond.lays "OpenOrTake$Tape" "OpenOrTake$Tape" "draft" "LOpenOrTake$Law;" ∈ WA := wA (tm_1 _ (List.mem_of_getElem? (i := 142) rfl)) rfl
theorem wm_1_176 : Cond.laysFinal "OpenOrTake$Evening" "OpenOrTake$Evening" "lot" "[I" ∈ WA := wA (tm_1 _ (List.mem_of_getElem? (i := 176) rfl)) rfl
theorem wm_1_178 : Cond.laysFinal "OpenOrTake$Evening" "OpenOrTake$Evening" "has" "[I" ∈ WA := wA (tm_1 _ (List.mem_of_getElem? (i := 178) rfl)) rfl
theorem wm_1_180 : Cond.laysFinal "OpenOrTake$Evening" "OpenOrTake$Evening" "holder" "[I" ∈ WA := wA (tm_1 _ (List.mem_of_getElem? (i := 180) rfl)) rfl
theorem wm_1_182 : Cond.laysFinal "OpenOrTake$Evening" "OpenOrTake$Evening" "taken" "[I" ∈ WA := wA (tm_1 _ (List.mem_of_getElem? (i := 182) rfl)) rfl
theorem wm_1_184 : Cond.lays "OpenOrTake$Evening" "OpenOrTake$Evening" "opened" "I" ∈ WA := wA (tm_1 _ (List.mem_of_getElem? (i := 184) rfl)) rfl
theorem wm_1_186 : Cond.lays "OpenOrTake$Evening" "OpenOrTake$Evening" "robbed" "I" ∈ WA := wA (tm_1 _ (List.mem_of_getElem? (i := 186) rfl)) rfl
theorem wm_1_188 : Cond.lays "OpenOrTake$Evening" "OpenOrTake$Evening" "just" "I" ∈ WA := wA (tm_1 _ (List.mem_of_getElem? (i := 188) rfl)) rfl
theorem wm_1_190 : Cond.lays "OpenOrTake$Evening" "OpenOrTake$Evening" "againWas" "Z" ∈ WA := wA (tm_1 _ (List.mem_of_getElem? (i := 190) rfl)) rfl
theorem wm_1_192 : Cond.lays "OpenOrTake$Evening" "OpenOrTake$Evening" "latestWho" "I" ∈ WA := wA (tm_1 _ (List.mem_of_getElem? (i := 192) rfl)) rfl
theorem wm_1_194 : Cond.lays "OpenOrTake$Evening" "OpenOrTake$Evening" "latestGot" "I" ∈ WA := wA (tm_1 _ (List.mem_of_getElem? (i := 194) rfl)) rfl
theorem wm_1_196 : Cond.lays "OpenOrTake$Evening" "OpenOrTake$Evening" "turns" "I" ∈ WA := wA (tm_1 _ (List.mem_of_getElem? (i := 196) rfl)) rfl
theorem wm_1_220 : Cond.laysFinal "OpenOrTake$Thought" "OpenOrTake$Thought" "party" "LOpenOrTake$Party;" ∈ WA := wA (tm_1 _ (List.mem_of_getElem? (i := 220) rfl)) rfl
theorem wm_1_222 : Cond.laysFinal "OpenOrTake$Thought" "OpenOrTake$Thought" "levels" "[LOpenOrTake$Evening;" ∈ WA := wA (tm_1 _ (List.mem_of_getElem? (i := 222) rfl)) rfl
theorem wm_1_224 : Cond.laysFinal "OpenOrTake$Thought" "OpenOrTake$Thought" "ends" "[[I" ∈ WA := wA (tm_1 _ (List.mem_of_getElem? (i := 224) rfl)) rfl
theorem wm_1_226 : Cond.laysFinal "OpenOrTake$Thought" "OpenOrTake$Thought" "mostBehind" "[I" ∈ WA := wA (tm_1 _ (List.mem_of_getElem? (i := 226) rfl)) rfl
theorem wm_1_228 : Cond.laysFinal "OpenOrTake$Thought" "OpenOrTake$Thought" "trueWorth" "[I" ∈ WA := wA (tm_1 _ (List.mem_of_getElem? (i := 228) rfl)) rfl
theorem wm_1_230 : Cond.laysFinal "OpenOrTake$Thought" "OpenOrTake$Thought" "drawn" "[I" ∈ WA := wA (tm_1 _ (List.mem_of_getElem? (i := 230) rfl)) rfl
theorem wm_1_232 : Cond.laysFinal "OpenOrTake$Thought" "OpenOrTake$Thought" "sums" "[I" ∈ WA := wA (tm_1 _ (List.mem_of_getElem? (i := 232) rfl)) rfl
theorem wm_1_234 : Cond.lays "OpenOrTake$Thought" "OpenOrTake$Thought" "told" "[J" ∈ WA := wA (tm_1 _ (List.mem_of_getElem? (i := 234) rfl)) rfl
theorem wm_1_236 : Cond.lays "OpenOrTake$Thought" "OpenOrTake$Thought" "toldSize" "I" ∈ WA := wA (tm_1 _ (List.mem_of_getElem? (i := 236) rfl)) rfl
theorem wm_2_12 : Cond.laysFinal "OpenOrTake$Bodies" "OpenOrTake$Bodies" "kinds" "[I" ∈ WA := wA (tm_2 _ (List.mem_of_getElem? (i := 12) rfl)) rfl
theorem wm_2_14 : Cond.lays "OpenOrTake$Bodies" "OpenOrTake$Bodies" "count" "I" ∈ WA := wA (tm_2 _ (List.mem_of_getElem? (i := 14) rfl)) rfl
theorem wm_2_16 : Cond.laysFinal "OpenOrTake$Bodies" "OpenOrTake$Bodies" "trace" "[I" ∈ WA := wA (tm_2 _ (List.mem_of_getElem? (i := 16) rfl)) rfl
theorem wm_2_18 : Cond.lays "OpenOrTake$Bodies" "OpenOrTake$Bodies" "ran" "I" ∈ WA := wA (tm_2 _ (List.mem_of_getElem? (i := 18) rfl)) rfl
theorem wm_2_20 : Cond.lays "OpenOrTake$Bodies" "OpenOrTake$Bodies" "self" "I" ∈ WA := wA (tm_2 _ (List.mem_of_getElem? (i := 20) rfl)) rfl
theorem wm_2_38 : Cond.laysFinal "OpenOrTake$Shelves" "OpenOrTake$Shelves" "sort" "[I" ∈ WA := wA (tm_2 _ (List.mem_of_getElem? (i := 38) rfl)) rfl
theorem wm_2_40 : Cond.laysFinal "OpenOrTake$Shelves" "OpenOrTake$Shelves" "size" "[I" ∈ WA := wA (tm_2 _ (List.mem_of_getElem? (i := 40) rfl)) rfl
theorem wm_2_42 : Cond.laysFinal "OpenOrTake$Shelves" "OpenOrTake$Shelves" "rows" "[[J" ∈ WA := wA (tm_2 _ (List.mem_of_getElem? (i := 42) rfl)) rfl
theorem wm_1_41 : Cond.laysFinal "OpenOrTake$Law" "OpenOrTake$Law" "sign" "[C" ∈ WA := wA (tm_1 _ (List.mem_of_getElem? (i := 41) rfl)) rfl
theorem wm_1_43 : Cond.laysFinal "OpenOrTake$Law" "OpenOrTake$Law" "detail" "[I" ∈ WA := wA (tm_1 _ (List.mem_of_getElem? (i := 43) rfl)) rfl
theorem wm_1_45 : Cond.lays "OpenOrTake$Law" "OpenOrTake$Law" "length" "I" ∈ WA := wA (tm_1 _ (List.mem_of_getElem? (i := 45) rfl)) rfl
theorem wm_1_47 : Cond.lays "OpenOrTake$Law" "OpenOrTake$Law" "latestIf" "I" ∈ WA := wA (tm_1 _ (List.mem_of_getElem? (i := 47) rfl)) rfl
theorem wm_1_49 : Cond.laysFinal "OpenOrTake$Law" "OpenOrTake$Law" "stack" "[I" ∈ WA := wA (tm_1 _ (List.mem_of_getElem? (i := 49) rfl)) rfl
theorem wm_1_51 : Cond.laysFinal "OpenOrTake$Law" "OpenOrTake$Law" "named" "[I" ∈ WA := wA (tm_1 _ (List.mem_of_getElem? (i := 51) rfl)) rfl
theorem inX0 : ∀ w ∈ u_ws RX0 TX0 5, w ∈ WA := by
  intro w hw
  obtain ⟨k, hk, rfl⟩ := List.mem_map.mp hw
  have hk := List.mem_range.mp hk
  match k, hk with
  | 0, _ => exact wm_2_12
  | 1, _ => exact wm_2_14
  | 2, _ => exact wm_2_16
  | 3, _ => exact wm_2_18
  | 4, _ => exact wm_2_20
  | k + 5, h => exact absurd h (by omega)
theorem inX1 : ∀ w ∈ u_ws RX1 TX1 6, w ∈ WA := by
  intro w hw
  obtain ⟨k, hk, rfl⟩ := List.mem_map.mp hw
  have hk := List.mem_range.mp hk
  match k, hk with
  | 0, _ => exact wm_1_107
  | 1, _ => exact wm_1_109
  | 2, _ => exact wm_1_111
  | 3, _ => exact wm_1_113
  | 4, _ => exact wm_1_115
  | 5, _ => exact wm_1_117
  | k + 6, h => exact absurd h (by omega)
theorem inX2 : ∀ w ∈ u_ws RX2 TX2 11, w ∈ WA := by
  intro w hw
  obtain ⟨k, hk, rfl⟩ := List.mem_map.mp hw
  have hk := List.mem_range.mp hk
  match k, hk with
  | 0, _ => exact wm_1_176
  | 1, _ => exact wm_1_178
  | 2, _ => exact wm_1_180
  | 3, _ => exact wm_1_182
  | 4, _ => exact wm_1_184
  | 5, _ => exact wm_1_186
  | 6, _ => exact wm_1_188
  | 7, _ => exact wm_1_190
  | 8, _ => exact wm_1_192
  | 9, _ => exact wm_1_194
  | 10, _ => exact wm_1_196
  | k + 11, h => exact absurd h (by omega)
theorem inX3 : ∀ w ∈ u_ws RX3 TX3 6, w ∈ WA := by
  intro w hw
  obtain ⟨k, hk, rfl⟩ := List.mem_map.mp hw
  have hk := List.mem_range.mp hk
  match k, hk with
  | 0, _ => exact wm_1_41
  | 1, _ => exact wm_1_43
  | 2, _ => exact wm_1_45
  | 3, _ => exact wm_1_47
  | 4, _ => exact wm_1_49
  | 5, _ => exact wm_1_51
  | k + 6, h => exact absurd h (by omega)
theorem inX4 : ∀ w ∈ u_ws RX4 TX4 7, w ∈ WA := by
  intro w hw
  obtain ⟨k, hk, rfl⟩ := List.mem_map.mp hw
  have hk := List.mem_range.mp hk
  match k, hk with
  | 0, _ => exact wm_1_78
  | 1, _ => exact wm_1_80
  | 2, _ => exact wm_1_82
  | 3, _ => exact wm_1_84
  | 4, _ => exact wm_1_86
  | 5, _ => exact wm_1_88
  | 6, _ => exact wm_1_90
  | k + 7, h => exact absurd h (by omega)
theorem inX5 : ∀ w ∈ u_ws RX5 TX5 3, w ∈ WA := by
  intro w hw
  obtain ⟨k, hk, rfl⟩ := List.mem_map.mp hw
  have hk := List.mem_range.mp hk
  match k, hk with
  | 0, _ => exact wm_2_38
  | 1, _ => exact wm_2_40
  | 2, _ => exact wm_2_42
  | k + 3, h => exact absurd h (by omega)
theorem inX6 : ∀ w ∈ u_ws RX6 TX6 5, w ∈ WA := by
  intro w hw
  obtain ⟨k, hk, rfl⟩ := List.mem_map.mp hw
  have hk := List.mem_range.mp hk
  match k, hk with
  | 0, _ => exact wm_1_134
  | 1, _ => exact wm_1_136
  | 2, _ => exact wm_1_138
  | 3, _ => exact wm_1_140
  | 4, _ => exact wm_1_142
  | k + 5, h => exact absurd h (by omega)
theorem inX7 : ∀ w ∈ u_ws RX7 TX7 9, w ∈ WA := by
  intro w hw
  obtain ⟨k, hk, rfl⟩ := List.mem_map.mp hw
  have hk := List.mem_range.mp hk
  match k, hk with
  | 0, _ => exact wm_1_220
  | 1, _ => exact wm_1_222
  | 2, _ => exact wm_1_224
  | 3, _ => exact wm_1_226
  | 4, _ => exact wm_1_228
  | 5, _ => exact wm_1_230
  | 6, _ => exact wm_1_232
  | 7, _ => exact wm_1_234
  | 8, _ => exact wm_1_236
  | k + 9, h => exact absurd h (by omega)
theorem inX8 : ∀ w ∈ u_ws RX8 TX8 9, w ∈ WA := by
  intro w hw
  obtain ⟨k, hk, rfl⟩ := List.mem_map.mp hw
  have hk := List.mem_range.mp hk
  match k, hk with
  | 0, _ => exact wm_2_55
  | 1, _ => exact wm_2_57
  | 2, _ => exact wm_2_59
  | 3, _ => exact wm_2_61
  | 4, _ => exact wm_2_63
  | 5, _ => exact wm_2_65
  | 6, _ => exact wm_2_67
  | 7, _ => exact wm_2_69
  | 8, _ => exact wm_2_71
  | k + 9, h => exact absurd h (by omega)
theorem inX9 : ∀ w ∈ u_ws RX9 TX9 64, w ∈ WA := by
  intro w hw
  obtain ⟨k, hk, rfl⟩ := List.mem_map.mp hw
  have hk := List.mem_range.mp hk
  match k, hk with
  | 0, _ => exact wm_5_10
  | 1, _ => exact wm_5_12
  | 2, _ => exact wm_5_14
  | 3, _ => exact wm_5_16
  | 4, _ => exact wm_5_18
  | 5, _ => exact wm_5_20
  | 6, _ => exact wm_5_22
  | 7, _ => exact wm_5_24
  | 8, _ => exact wm_5_26
  | 9, _ => exact wm_5_28
  | 10, _ => exact wm_5_30
  | 11, _ => exact wm_5_32
  | 12, _ => exact wm_5_34
  | 13, _ => exact wm_5_36
  | 14, _ => exact wm_5_38
  | 15, _ => exact wm_5_40
  | 16, _ => exact wm_5_42
  | 17, _ => exact wm_5_44
  | 18, _ => exact wm_5_46
  | 19, _ => exact wm_5_48
  | 20, _ => exact wm_5_50
  | 21, _ => exact wm_5_52
  | 22, _ => exact wm_5_54
  | 23, _ => exact wm_5_56
  | 24, _ => exact wm_5_58
  | 25, _ => exact wm_5_60
  | 26, _ => exact wm_5_62
  | 27, _ => exact wm_5_64
  | 28, _ => exact wm_5_66
  | 29, _ => exact wm_5_68
  | 30, _ => exact wm_5_70
  | 31, _ => exact wm_5_72
  | 32, _ => exact wm_5_74
  | 33, _ => exact wm_5_76
  | 34, _ => exact wm_5_78
  | 35, _ => exact wm_5_80
  | 36, _ => exact wm_5_82
  | 37, _ => exact wm_5_84
  | 38, _ => exact wm_5_86
  | 39, _ => exact wm_5_88
  | 40, _ => exact wm_5_90
  | 41, _ => exact wm_5_92
  | 42, _ => exact wm_5_94
  | 43, _ => exact wm_5_96
  | 44, _ => exact wm_5_98
  | 45, _ => exact wm_5_100
  | 46, _ => exact wm_5_102
  | 47, _ => exact wm_5_104
  | 48, _ => exact wm_5_106
  | 49, _ => exact wm_5_108
  | 50, _ => exact wm_5_110
  | 51, _ => exact wm_5_112
  | 52, _ => exact wm_5_114
  | 53, _ => exact wm_5_116
  | 54, _ => exact wm_5_118
  | 55, _ => exact wm_5_120
  | 56, _ => exact wm_5_122
  | 57, _ => exact wm_5_124
  | 58, _ => exact wm_5_126
  | 59, _ => exact wm_5_128
  | 60, _ => exact wm_5_130
  | 61, _ => exact wm_5_132
  | 62, _ => exact wm_5_134
  | 63, _ => exact wm_5_136
  | k + 64, h => exact absurd h (by omega)
