def rm_X9_keeping : Room := { frames := 9, cells := 0, slots := 0, locals := 217 }
def F_X9_keeping  (x1 : Int32) (x2 : Int32) (m : Mm) : Option (Int32 × Mm) :=
  rd 50 x1 fun j1 =>
  (if (gI m 151 j1) = (iI 4) then
    bnd (F_X9_ran (iI 50) m) fun _ m10 =>
    bnd (F_X9_plainKeeps x1 x2 m10) fun v11 m12 =>
    some ((v11 ^^^ (iI 5)), m12)
  else
    rd 50 x1 fun j2 =>
    (if (gI m 151 j2) = (iI 5) then
      bnd (F_X9_ran (iI 61) m) fun _ m6 =>
      bnd (F_X9_plainKeeps x1 x2 m6) fun v7 m8 =>
      some ((v7 + (iI 1)), m8)
    else
      bnd (F_X9_plainKeeps x1 x2 m) fun v3 m4 =>
      some (v3, m4)))
set_option maxRecDepth 100000 in
set_option maxHeartbeats 4000000 in
theorem c_X9_keeping (ll : Launch) (cx : CX) (x1 : Int32) (x2 : Int32) (m : Mm) : MT ll yX9_keeping cX9_keeping 3 ((some .int)) rm_X9_keeping cx NN NN Lay cvI 0 0 [.ref (cx.2.2.1 + 113), .int x1, .int x2] m (F_X9_keeping x1 x2 m) := by
  refine MT_of (by decide) (Nat.le_of_ble_eq_true rfl) ?_
  intro pp ee ss mm aa bb me co hK hr hk hn
  have C : CM pp ss mm aa me co cX9_keeping 3 RX9 cx ((some .int)) := ⟨hK, hr, hk⟩
  show TI pp ll ee rm_X9_keeping ss mm aa bb me co 3 cx 0 [(0, .ref (cx.2.2.1 + 113)), (1, .int x1), (2, .int x2)] [] m (F_X9_keeping x1 x2 m)
  unfold F_X9_keeping
  refine T_aload_n C.1 dX9_keeping_0 0 rfl ?_
  refine T_getR (x := 151) C.1 fd_X9_133 (fun _ _ _ _ => rfl) sh113 le113 (fun _ h => h) rfl (by decide) dX9_keeping_1 ?_
  refine T_iload_n C.1 dX9_keeping_4 1 rfl ?_
  refine T_iald C.1 dX9_keeping_5 sh151 le151 (fun j1 => ?_)
  refine T_iconst C.1 dX9_keeping_6 ?_
  refine T_icmp_ne (tgt := 25) C.1 dX9_keeping_7 (by decide) ?_ ?_
  · refine T_aload_n C.1 dX9_keeping_25 0 rfl ?_
    refine T_getR (x := 151) C.1 fd_X9_133 (fun _ _ _ _ => rfl) sh113 le113 (fun _ h => h) rfl (by decide) dX9_keeping_26 ?_
    refine T_iload_n C.1 dX9_keeping_29 1 rfl ?_
    refine T_iald C.1 dX9_keeping_30 sh151 le151 (fun j2 => ?_)
    refine T_iconst C.1 dX9_keeping_31 ?_
    refine T_icmp_ne (tgt := 50) C.1 dX9_keeping_32 (by decide) ?_ ?_
    · refine T_aload_n C.1 dX9_keeping_50 0 rfl ?_
      refine T_iload_n C.1 dX9_keeping_51 1 rfl ?_
      refine T_iload_n C.1 dX9_keeping_52 2 rfl ?_
      refine T_callVI (rm := rm_X9_plainKeeps) [.int x1, .int x2] [] C.1 dX9_keeping_53 mw_X9_plainKeeps wm_7_38 wm_7_40 wm_p_94 ⟨Nat.le_of_ble_eq_true rfl, Nat.le_of_ble_eq_true rfl⟩ ⟨rfl, rfl⟩ ⟨Nat.zero_le _, Nat.zero_le _⟩ rfl rfl (Nat.le_of_ble_eq_true rfl) sh113 le113 ⟨rfl, rfl⟩ (c_X9_plainKeeps ll cx x1 x2 m) (fun v3 m4 => ?_)
      exact T_iret C.1 C.2.1 C.2.2 dX9_keeping_56
    · refine T_aload_n C.1 dX9_keeping_35 0 rfl ?_
      refine T_bipush C.1 dX9_keeping_36 rfl ?_
      refine T_callVV (rm := rm_X9_ran) [.int (iI 61)] [] C.1 dX9_keeping_38 mw_X9_ran wm_6_238 wm_7_0 wm_p_84 ⟨Nat.le_of_ble_eq_true rfl, Nat.le_of_ble_eq_true rfl⟩ ⟨rfl, rfl⟩ ⟨Nat.zero_le _, Nat.zero_le _⟩ rfl rfl (Nat.le_of_ble_eq_true rfl) sh113 le113 ⟨rfl, rfl⟩ (c_X9_ran ll cx (iI 61) m) (fun u5 m6 => ?_)
      refine T_aload_n C.1 dX9_keeping_41 0 rfl ?_
      refine T_iload_n C.1 dX9_keeping_42 1 rfl ?_
      refine T_iload_n C.1 dX9_keeping_43 2 rfl ?_
      refine T_callVI (rm := rm_X9_plainKeeps) [.int x1, .int x2] [] C.1 dX9_keeping_44 mw_X9_plainKeeps wm_7_38 wm_7_40 wm_p_94 ⟨Nat.le_of_ble_eq_true rfl, Nat.le_of_ble_eq_true rfl⟩ ⟨rfl, rfl⟩ ⟨Nat.zero_le _, Nat.zero_le _⟩ rfl rfl (Nat.le_of_ble_eq_true rfl) sh113 le113 ⟨rfl, rfl⟩ (c_X9_plainKeeps ll cx x1 x2 m6) (fun v7 m8 => ?_)
      refine T_iconst C.1 dX9_keeping_47 ?_
      refine T_iadd C.1 dX9_keeping_48 ?_
      exact T_iret C.1 C.2.1 C.2.2 dX9_keeping_49
  · refine T_aload_n C.1 dX9_keeping_10 0 rfl ?_
    refine T_bipush C.1 dX9_keeping_11 rfl ?_
    refine T_callVV (rm := rm_X9_ran) [.int (iI 50)] [] C.1 dX9_keeping_13 mw_X9_ran wm_6_238 wm_7_0 wm_p_84 ⟨Nat.le_of_ble_eq_true rfl, Nat.le_of_ble_eq_true rfl⟩ ⟨rfl, rfl⟩ ⟨Nat.zero_le _, Nat.zero_le _⟩ rfl rfl (Nat.le_of_ble_eq_true rfl) sh113 le113 ⟨rfl, rfl⟩ (c_X9_ran ll cx (iI 50) m) (fun u9 m10 => ?_)
    refine T_aload_n C.1 dX9_keeping_16 0 rfl ?_
    refine T_iload_n C.1 dX9_keeping_17 1 rfl ?_
    refine T_iload_n C.1 dX9_keeping_18 2 rfl ?_
    refine T_callVI (rm := rm_X9_plainKeeps) [.int x1, .int x2] [] C.1 dX9_keeping_19 mw_X9_plainKeeps wm_7_38 wm_7_40 wm_p_94 ⟨Nat.le_of_ble_eq_true rfl, Nat.le_of_ble_eq_true rfl⟩ ⟨rfl, rfl⟩ ⟨Nat.zero_le _, Nat.zero_le _⟩ rfl rfl (Nat.le_of_ble_eq_true rfl) sh113 le113 ⟨rfl, rfl⟩ (c_X9_plainKeeps ll cx x1 x2 m10) (fun v11 m12 => ?_)
    refine T_iconst C.1 dX9_keeping_22 ?_
    refine T_ixor C.1 dX9_keeping_23 ?_
    exact T_iret C.1 C.2.1 C.2.2 dX9_keeping_24
def rm_X9_act : Room := { frames := 10, cells := 0, slots := 0, locals := 239 }
def F_X9_act  (x1 : Int32) (x2 : Int32) (x3 : Int32) (m : Mm) : Option (Int32 × Mm) :=
  nm (pI m 113 58 (iI 0)) fun m1 =>
  bnd (F_X9_isBody x1 m1) fun v2 m3 =>
  (if v2 = iI 0 then
    some ((iI 0), m3)
  else
    bnd (F_X9_in x2 (iI 0) (iI 3) m3) fun v4 m5 =>
    (if v4 = iI 0 then
      some ((iI 0), m5)
    else
      (if x2 = iI 0 then
        bnd (F_X9_opening x1 x3 m5) fun v12 m13 =>
        some (v12, m13)
      else
        (if x2 = (iI 1) then
          bnd (F_X9_taking x1 x3 m5) fun v10 m11 =>
          some (v10, m11)
        else
          (if x2 = (iI 2) then
            bnd (F_X9_looking x1 x3 m5) fun v8 m9 =>
            some (v8, m9)
          else
            bnd (F_X9_keeping x1 x3 m5) fun v6 m7 =>
            some (v6, m7))))))
set_option maxRecDepth 100000 in
set_option maxHeartbeats 4000000 in
theorem c_X9_act (ll : Launch) (cx : CX) (x1 : Int32) (x2 : Int32) (x3 : Int32) (m : Mm) : MT ll yX9_act cX9_act 4 ((some .int)) rm_X9_act cx NN NN Lay cvI 0 0 [.ref (cx.2.2.1 + 113), .int x1, .int x2, .int x3] m (F_X9_act x1 x2 x3 m) := by
  refine MT_of (by decide) (Nat.le_of_ble_eq_true rfl) ?_
  intro pp ee ss mm aa bb me co hK hr hk hn
  have C : CM pp ss mm aa me co cX9_act 4 RX9 cx ((some .int)) := ⟨hK, hr, hk⟩
  show TI pp ll ee rm_X9_act ss mm aa bb me co 4 cx 0 [(0, .ref (cx.2.2.1 + 113)), (1, .int x1), (2, .int x2), (3, .int x3)] [] m (F_X9_act x1 x2 x3 m)
  unfold F_X9_act
  refine T_aload_n C.1 dX9_act_0 0 rfl ?_
  refine T_iconst C.1 dX9_act_1 ?_
  refine T_putI C.1 LyI_Lay fd_X9_377 sh113 le113 dX9_act_2 (fun m1 => ?_)
  refine T_aload_n C.1 dX9_act_5 0 rfl ?_
  refine T_iload_n C.1 dX9_act_6 1 rfl ?_
  refine T_callVI (rm := rm_X9_isBody) [.int x1] [] C.1 dX9_act_7 mw_X9_isBody wm_6_227 wm_6_229 wm_p_82 ⟨Nat.le_of_ble_eq_true rfl, Nat.le_of_ble_eq_true rfl⟩ ⟨rfl, rfl⟩ ⟨Nat.zero_le _, Nat.zero_le _⟩ rfl rfl (Nat.le_of_ble_eq_true rfl) sh113 le113 ⟨rfl, rfl⟩ (c_X9_isBody ll cx x1 m1) (fun v2 m3 => ?_)
  refine T_if_eq (tgt := 22) C.1 dX9_act_10 (by decide) ?_ ?_
  · refine T_iconst C.1 dX9_act_22 ?_
    exact T_iret C.1 C.2.1 C.2.2 dX9_act_23
  · refine T_iload_n C.1 dX9_act_13 2 rfl ?_
    refine T_iconst C.1 dX9_act_14 ?_
    refine T_iconst C.1 dX9_act_15 ?_
    refine T_callSI (rm := rm_X9_in) [.int x2, .int (iI 0), .int (iI 3)] [] C.1 dX9_act_16 mw_X9_in wm_5_145 wm_5_146 ⟨Nat.le_of_ble_eq_true rfl, Nat.le_of_ble_eq_true rfl⟩ ⟨rfl, rfl⟩ ⟨Nat.zero_le _, Nat.zero_le _⟩ rfl rfl (Nat.le_of_ble_eq_true rfl) (c_X9_in ll cx x2 (iI 0) (iI 3) m3) (fun v4 m5 => ?_)
    refine T_if_ne (tgt := 24) C.1 dX9_act_19 (by decide) ?_ ?_
    · refine T_iload_n C.1 dX9_act_24 2 rfl ?_
      refine T_if_ne (tgt := 37) C.1 dX9_act_25 (by decide) ?_ ?_
      · refine T_iload_n C.1 dX9_act_37 2 rfl ?_
        refine T_iconst C.1 dX9_act_38 ?_
        refine T_icmp_ne (tgt := 51) C.1 dX9_act_39 (by decide) ?_ ?_
        · refine T_iload_n C.1 dX9_act_51 2 rfl ?_
          refine T_iconst C.1 dX9_act_52 ?_
          refine T_icmp_ne (tgt := 65) C.1 dX9_act_53 (by decide) ?_ ?_
          · refine T_aload_n C.1 dX9_act_65 0 rfl ?_
            refine T_iload_n C.1 dX9_act_66 1 rfl ?_
            refine T_iload_n C.1 dX9_act_67 3 rfl ?_
            refine T_callVI (rm := rm_X9_keeping) [.int x1, .int x3] [] C.1 dX9_act_68 mw_X9_keeping wm_7_34 wm_7_36 wm_p_93 ⟨Nat.le_of_ble_eq_true rfl, Nat.le_of_ble_eq_true rfl⟩ ⟨rfl, rfl⟩ ⟨Nat.zero_le _, Nat.zero_le _⟩ rfl rfl (Nat.le_of_ble_eq_true rfl) sh113 le113 ⟨rfl, rfl⟩ (c_X9_keeping ll cx x1 x3 m5) (fun v6 m7 => ?_)
            exact T_iret C.1 C.2.1 C.2.2 dX9_act_71
          · refine T_aload_n C.1 dX9_act_56 0 rfl ?_
            refine T_iload_n C.1 dX9_act_57 1 rfl ?_
            refine T_iload_n C.1 dX9_act_58 3 rfl ?_
            refine T_callVI (rm := rm_X9_looking) [.int x1, .int x3] [] C.1 dX9_act_59 mw_X9_looking wm_7_22 wm_7_24 wm_p_90 ⟨Nat.le_of_ble_eq_true rfl, Nat.le_of_ble_eq_true rfl⟩ ⟨rfl, rfl⟩ ⟨Nat.zero_le _, Nat.zero_le _⟩ rfl rfl (Nat.le_of_ble_eq_true rfl) sh113 le113 ⟨rfl, rfl⟩ (c_X9_looking ll cx x1 x3 m5) (fun v8 m9 => ?_)
            refine T_goto (tgt := 71) C.1 dX9_act_62 (by decide) ?_
            exact T_iret C.1 C.2.1 C.2.2 dX9_act_71
        · refine T_aload_n C.1 dX9_act_42 0 rfl ?_
          refine T_iload_n C.1 dX9_act_43 1 rfl ?_
          refine T_iload_n C.1 dX9_act_44 3 rfl ?_
          refine T_callVI (rm := rm_X9_taking) [.int x1, .int x3] [] C.1 dX9_act_45 mw_X9_taking wm_7_10 wm_7_12 wm_p_87 ⟨Nat.le_of_ble_eq_true rfl, Nat.le_of_ble_eq_true rfl⟩ ⟨rfl, rfl⟩ ⟨Nat.zero_le _, Nat.zero_le _⟩ rfl rfl (Nat.le_of_ble_eq_true rfl) sh113 le113 ⟨rfl, rfl⟩ (c_X9_taking ll cx x1 x3 m5) (fun v10 m11 => ?_)
          refine T_goto (tgt := 71) C.1 dX9_act_48 (by decide) ?_
          exact T_iret C.1 C.2.1 C.2.2 dX9_act_71
      · refine T_aload_n C.1 dX9_act_28 0 rfl ?_
        refine T_iload_n C.1 dX9_act_29 1 rfl ?_
        refine T_iload_n C.1 dX9_act_30 3 rfl ?_
        refine T_callVI (rm := rm_X9_opening) [.int x1, .int x3] [] C.1 dX9_act_31 mw_X9_opening wm_6_231 wm_6_233 wm_p_83 ⟨Nat.le_of_ble_eq_true rfl, Nat.le_of_ble_eq_true rfl⟩ ⟨rfl, rfl⟩ ⟨Nat.zero_le _, Nat.zero_le _⟩ rfl rfl (Nat.le_of_ble_eq_true rfl) sh113 le113 ⟨rfl, rfl⟩ (c_X9_opening ll cx x1 x3 m5) (fun v12 m13 => ?_)
        refine T_goto (tgt := 71) C.1 dX9_act_34 (by decide) ?_
        exact T_iret C.1 C.2.1 C.2.2 dX9_act_71
    · refine T_iconst C.1 dX9_act_22 ?_
      exact T_iret C.1 C.2.1 C.2.2 dX9_act_23
def rm_X9_count : Room := { frames := 2, cells := 0, slots := 0, locals := 62 }
def F_X9_count  (x1 : Int32) (m : Mm) : Option (Int32 × Mm) :=
  tsw x1 (0) [(some ((gI m 113 1), m)),
   (rd 2 (iI 0) fun j1 =>
  bnd (F_X9_bitsOf (gI m 120 j1) m) fun v2 m3 =>
  some (v2, m3)),
   (bnd (F_X9_safeMany m) fun v4 m5 =>
  some (v4, m5)),
   (some ((gI m 113 27), m)),
   (some ((gI m 113 20), m)),
   (some ((gI m 113 56), m)),
   (some ((gI m 113 58), m))] (some ((iI (-1)), m))
set_option maxRecDepth 100000 in
set_option maxHeartbeats 4000000 in
theorem c_X9_count (ll : Launch) (cx : CX) (x1 : Int32) (m : Mm) : MT ll yX9_count cX9_count 2 ((some .int)) rm_X9_count cx NN NN Lay cvI 0 0 [.ref (cx.2.2.1 + 113), .int x1] m (F_X9_count x1 m) := by
  refine MT_of (by decide) (Nat.le_of_ble_eq_true rfl) ?_
  intro pp ee ss mm aa bb me co hK hr hk hn
  have C : CM pp ss mm aa me co cX9_count 2 RX9 cx ((some .int)) := ⟨hK, hr, hk⟩
  show TI pp ll ee rm_X9_count ss mm aa bb me co 2 cx 0 [(0, .ref (cx.2.2.1 + 113)), (1, .int x1)] [] m (F_X9_count x1 m)
  unfold F_X9_count
  refine T_iload_n C.1 dX9_count_0 1 rfl ?_
  refine T_tsw (lo := (0)) (os := [43, 48, 58, 63, 68, 73, 78]) C.1 dX9_count_1 rfl (by decide) (tgd := 84) (by decide) ⟨⟨44, by decide, ?_⟩, ⟨49, by decide, ?_⟩, ⟨59, by decide, ?_⟩, ⟨64, by decide, ?_⟩, ⟨69, by decide, ?_⟩, ⟨74, by decide, ?_⟩, ⟨79, by decide, ?_⟩, trivial⟩ ?_
  · show TI pp ll ee rm_X9_count ss mm aa bb me co 2 cx _ _ _ _ _
    refine T_aload_n C.1 dX9_count_44 0 rfl ?_
    refine T_getI C.1 fd_X9_155 (fun _ _ _ _ => rfl) sh113 le113 dX9_count_45 ?_
    exact T_iret C.1 C.2.1 C.2.2 dX9_count_48
  · show TI pp ll ee rm_X9_count ss mm aa bb me co 2 cx _ _ _ _ _
    refine T_aload_n C.1 dX9_count_49 0 rfl ?_
    refine T_getR (x := 120) C.1 fd_X9_32 (fun _ _ _ _ => rfl) sh113 le113 (fun _ h => h) rfl (by decide) dX9_count_50 ?_
    refine T_iconst C.1 dX9_count_53 ?_
    refine T_iald C.1 dX9_count_54 sh120 le120 (fun j1 => ?_)
    refine T_callSI (rm := rm_X9_bitsOf) [.int (gI m 120 j1)] [] C.1 dX9_count_55 mw_X9_bitsOf wm_6_92 wm_6_93 ⟨Nat.le_of_ble_eq_true rfl, Nat.le_of_ble_eq_true rfl⟩ ⟨rfl, rfl⟩ ⟨Nat.zero_le _, Nat.zero_le _⟩ rfl rfl (Nat.le_of_ble_eq_true rfl) (c_X9_bitsOf ll cx (gI m 120 j1) m) (fun v2 m3 => ?_)
    exact T_iret C.1 C.2.1 C.2.2 dX9_count_58
  · show TI pp ll ee rm_X9_count ss mm aa bb me co 2 cx _ _ _ _ _
    refine T_aload_n C.1 dX9_count_59 0 rfl ?_
    refine T_callVI (rm := rm_X9_safeMany) [] [] C.1 dX9_count_60 mw_X9_safeMany wm_7_46 wm_7_48 wm_p_95 ⟨Nat.le_of_ble_eq_true rfl, Nat.le_of_ble_eq_true rfl⟩ ⟨rfl, rfl⟩ ⟨Nat.zero_le _, Nat.zero_le _⟩ rfl rfl (Nat.le_of_ble_eq_true rfl) sh113 le113 ⟨rfl, rfl⟩ (c_X9_safeMany ll cx m) (fun v4 m5 => ?_)
    exact T_iret C.1 C.2.1 C.2.2 dX9_count_63
  · show TI pp ll ee rm_X9_count ss mm aa bb me co 2 cx _ _ _ _ _
    refine T_aload_n C.1 dX9_count_64 0 rfl ?_
    refine T_getI C.1 fd_X9_217 (fun _ _ _ _ => rfl) sh113 le113 dX9_count_65 ?_
    exact T_iret C.1 C.2.1 C.2.2 dX9_count_68
  · show TI pp ll ee rm_X9_count ss mm aa bb me co 2 cx _ _ _ _ _
    refine T_aload_n C.1 dX9_count_69 0 rfl ?_
    refine T_getI C.1 fd_X9_187 (fun _ _ _ _ => rfl) sh113 le113 dX9_count_70 ?_
    exact T_iret C.1 C.2.1 C.2.2 dX9_count_73
  · show TI pp ll ee rm_X9_count ss mm aa bb me co 2 cx _ _ _ _ _
    refine T_aload_n C.1 dX9_count_74 0 rfl ?_
    refine T_getI C.1 fd_X9_374 (fun _ _ _ _ => rfl) sh113 le113 dX9_count_75 ?_
    exact T_iret C.1 C.2.1 C.2.2 dX9_count_78
  · show TI pp ll ee rm_X9_count ss mm aa bb me co 2 cx _ _ _ _ _
    refine T_aload_n C.1 dX9_count_79 0 rfl ?_
    refine T_getI C.1 fd_X9_377 (fun _ _ _ _ => rfl) sh113 le113 dX9_count_80 ?_
    exact T_iret C.1 C.2.1 C.2.2 dX9_count_83
  · show TI pp ll ee rm_X9_count ss mm aa bb me co 2 cx _ _ _ _ _
    refine T_iconst C.1 dX9_count_84 ?_
    exact T_iret C.1 C.2.1 C.2.2 dX9_count_85
def rm_X9_keep : Room := { frames := 3, cells := 0, slots := 0, locals := 83 }
def F_X9_keep_22  (a1 : Int32) (a2 : Int32) (m : Mm) : Option (Int32 × Mm) :=
  wrI 6 m 153 a1 a2 fun m1 =>
  some ((iI 1), m1)
set_option maxRecDepth 100000 in
set_option maxHeartbeats 4000000 in
theorem t_X9_keep_22 {pp : Program} {ll : Launch} {ee : Env} {ss : State} {mm : MethodId} {aa : Array Value} {bb : List Frame} {me : Method} {co : Code} {cx : CX}     (C : CM pp ss mm aa me co cX9_keep 3 RX9 cx ((some .int)))    (a1 : Int32) (a2 : Int32) (m : Mm) : TI pp ll ee rm_X9_keep ss mm aa bb me co 3 cx 22 [(0, .ref (cx.2.2.1 + 113)), (1, .int a1), (2, .int a2)] [] m (F_X9_keep_22  a1 a2 m) := by
  unfold F_X9_keep_22
  refine T_aload_n C.1 dX9_keep_22 0 rfl ?_
  refine T_getR (x := 153) C.1 fd_X9_139 (fun _ _ _ _ => rfl) sh113 le113 (fun _ h => h) rfl (by decide) dX9_keep_23 ?_
  refine T_iload_n C.1 dX9_keep_26 1 rfl ?_
  refine T_iload_n C.1 dX9_keep_27 2 rfl ?_
  refine T_iast C.1 LyI_Lay sh153 le153 dX9_keep_28 (fun m1 => ?_)
  refine T_iconst C.1 dX9_keep_29 ?_
  exact T_iret C.1 C.2.1 C.2.2 dX9_keep_30
def F_X9_keep  (x1 : Int32) (x2 : Int32) (m : Mm) : Option (Int32 × Mm) :=
  bnd (F_X9_isShelf x1 m) fun v1 m2 =>
  (if v1 = iI 0 then
    some ((iI (-1)), m2)
  else
    (if x2 = (iI (-1)) then
      F_X9_keep_22 x1 x2 m2
    else
      bnd (F_X9_isBody x2 m2) fun v3 m4 =>
      (if v3 = iI 0 then
        some ((iI (-1)), m4)
      else
        F_X9_keep_22 x1 x2 m4)))
set_option maxRecDepth 100000 in
set_option maxHeartbeats 4000000 in
theorem c_X9_keep (ll : Launch) (cx : CX) (x1 : Int32) (x2 : Int32) (m : Mm) : MT ll yX9_keep cX9_keep 3 ((some .int)) rm_X9_keep cx NN NN Lay cvI 0 0 [.ref (cx.2.2.1 + 113), .int x1, .int x2] m (F_X9_keep x1 x2 m) := by
  refine MT_of (by decide) (Nat.le_of_ble_eq_true rfl) ?_
  intro pp ee ss mm aa bb me co hK hr hk hn
  have C : CM pp ss mm aa me co cX9_keep 3 RX9 cx ((some .int)) := ⟨hK, hr, hk⟩
  show TI pp ll ee rm_X9_keep ss mm aa bb me co 3 cx 0 [(0, .ref (cx.2.2.1 + 113)), (1, .int x1), (2, .int x2)] [] m (F_X9_keep x1 x2 m)
  unfold F_X9_keep
  refine T_iload_n C.1 dX9_keep_0 1 rfl ?_
  refine T_callSI (rm := rm_X9_isShelf) [.int x1] [] C.1 dX9_keep_1 mw_X9_isShelf wm_5_160 wm_5_161 ⟨Nat.le_of_ble_eq_true rfl, Nat.le_of_ble_eq_true rfl⟩ ⟨rfl, rfl⟩ ⟨Nat.zero_le _, Nat.zero_le _⟩ rfl rfl (Nat.le_of_ble_eq_true rfl) (c_X9_isShelf ll cx x1 m) (fun v1 m2 => ?_)
  refine T_if_eq (tgt := 20) C.1 dX9_keep_4 (by decide) ?_ ?_
  · refine T_iconst C.1 dX9_keep_20 ?_
    exact T_iret C.1 C.2.1 C.2.2 dX9_keep_21
  · refine T_iload_n C.1 dX9_keep_7 2 rfl ?_
    refine T_iconst C.1 dX9_keep_8 ?_
    refine T_icmp_eq (tgt := 22) C.1 dX9_keep_9 (by decide) ?_ ?_
    · exact T_sub [0, 1, 2] rfl (t_X9_keep_22 C x1 x2 m2)
    · refine T_aload_n C.1 dX9_keep_12 0 rfl ?_
      refine T_iload_n C.1 dX9_keep_13 2 rfl ?_
      refine T_callVI (rm := rm_X9_isBody) [.int x2] [] C.1 dX9_keep_14 mw_X9_isBody wm_6_227 wm_6_229 wm_p_82 ⟨Nat.le_of_ble_eq_true rfl, Nat.le_of_ble_eq_true rfl⟩ ⟨rfl, rfl⟩ ⟨Nat.zero_le _, Nat.zero_le _⟩ rfl rfl (Nat.le_of_ble_eq_true rfl) sh113 le113 ⟨rfl, rfl⟩ (c_X9_isBody ll cx x2 m2) (fun v3 m4 => ?_)
      refine T_if_ne (tgt := 22) C.1 dX9_keep_17 (by decide) ?_ ?_
      · exact T_sub [0, 1, 2] rfl (t_X9_keep_22 C x1 x2 m4)
      · refine T_iconst C.1 dX9_keep_20 ?_
        exact T_iret C.1 C.2.1 C.2.2 dX9_keep_21
def rm_X9_row : Room := { frames := 3, cells := 0, slots := 0, locals := 82 }
def F_X9_row_54  : Nat → Int32 → Int32 → Mm → Option (Int32 × Mm)
  | 0, _, _, _ => none
  | f + 1, a1, a2, m =>
    (if (((iI 60) * a1) + (iI 60)) ≤ a2 then
      some ((iI 1), m)
    else
      wrL 360 m 155 a2 (iL 0) fun m1 =>
      nm (a2 + (iI 1)) fun v2 =>
      F_X9_row_54  f a1 v2 m1)
set_option maxRecDepth 100000 in
set_option maxHeartbeats 4000000 in
theorem t_X9_row_54 {pp : Program} {ll : Launch} {ee : Env} {ss : State} {mm : MethodId} {aa : Array Value} {bb : List Frame} {me : Method} {co : Code} {cx : CX}     (C : CM pp ss mm aa me co cX9_row 5 RX9 cx ((some .int)))    : ∀ (f : Nat) (a1 : Int32) (a2 : Int32) (m : Mm), TI pp ll ee rm_X9_row ss mm aa bb me co 5 cx 54 [(0, .ref (cx.2.2.1 + 113)), (1, .int a1), (4, .int a2)] [] m (F_X9_row_54  f a1 a2 m) := by
  intro f
  induction f with
  | zero => exact fun _ _ _ => T_none
  | succ f ih =>
    intro a1 a2 m
    unfold F_X9_row_54
    refine T_iload C.1 dX9_row_54 2 rfl ?_
    refine T_bipush C.1 dX9_row_56 rfl ?_
    refine T_iload_n C.1 dX9_row_58 1 rfl ?_
    refine T_imul C.1 dX9_row_59 ?_
    refine T_bipush C.1 dX9_row_60 rfl ?_
    refine T_iadd C.1 dX9_row_62 ?_
    refine T_icmp_ge (tgt := 80) C.1 dX9_row_63 (by decide) ?_ ?_
    · refine T_iconst C.1 dX9_row_80 ?_
      exact T_iret C.1 C.2.1 C.2.2 dX9_row_81
    · refine T_aload_n C.1 dX9_row_66 0 rfl ?_
      refine T_getR (x := 155) C.1 fd_X9_145 (fun _ _ _ _ => rfl) sh113 le113 (fun _ h => h) rfl (by decide) dX9_row_67 ?_
      refine T_iload C.1 dX9_row_70 2 rfl ?_
      refine T_lconst (x := iL 0) C.1 dX9_row_72 rfl ?_
      refine T_last C.1 LyI_Lay sh155 le155 dX9_row_73 (fun m1 => ?_)
      refine T_iincN C.1 (fun v2 => [(4, .int v2), (0, .ref (cx.2.2.1 + 113)), (1, .int a1)]) dX9_row_74 2 rfl (by decide) (fun _ => rfl) (fun v2 => ?_)
      refine T_goto (tgt := 54) C.1 dX9_row_77 (by decide) ?_
      exact T_sub [1, 2, 0] rfl (ih a1 v2 m1)
def F_X9_row  (x1 : Int32) (x2 : Int32) (x3 : Int32) (m : Mm) : Option (Int32 × Mm) :=
  bnd (F_X9_isShelf x1 m) fun v1 m2 =>
  (if v1 = iI 0 then
    some ((iI (-1)), m2)
  else
    bnd (F_X9_in x2 (iI 0) (iI 4) m2) fun v3 m4 =>
    (if v3 = iI 0 then
      some ((iI (-1)), m4)
    else
      (if x3 ≤ (iI 60) then
        (if iI 0 ≤ x3 then
          wrI 6 m4 153 x1 ((iI (-2)) - x2) fun m5 =>
          wrI 6 m5 154 x1 x3 fun m6 =>
          nm ((iI 60) * x1) fun v7 =>
          F_X9_row_54 FU x1 v7 m6
        else
          some ((iI (-14)), m4))
      else
        some ((iI (-1)), m4))))
set_option maxRecDepth 100000 in
set_option maxHeartbeats 4000000 in
theorem c_X9_row (ll : Launch) (cx : CX) (x1 : Int32) (x2 : Int32) (x3 : Int32) (m : Mm) : MT ll yX9_row cX9_row 5 ((some .int)) rm_X9_row cx NN NN Lay cvI 0 0 [.ref (cx.2.2.1 + 113), .int x1, .int x2, .int x3] m (F_X9_row x1 x2 x3 m) := by
  refine MT_of (by decide) (Nat.le_of_ble_eq_true rfl) ?_
  intro pp ee ss mm aa bb me co hK hr hk hn
  have C : CM pp ss mm aa me co cX9_row 5 RX9 cx ((some .int)) := ⟨hK, hr, hk⟩
  show TI pp ll ee rm_X9_row ss mm aa bb me co 5 cx 0 [(0, .ref (cx.2.2.1 + 113)), (1, .int x1), (2, .int x2), (3, .int x3)] [] m (F_X9_row x1 x2 x3 m)
  unfold F_X9_row
  refine T_iload_n C.1 dX9_row_0 1 rfl ?_
  refine T_callSI (rm := rm_X9_isShelf) [.int x1] [] C.1 dX9_row_1 mw_X9_isShelf wm_5_160 wm_5_161 ⟨Nat.le_of_ble_eq_true rfl, Nat.le_of_ble_eq_true rfl⟩ ⟨rfl, rfl⟩ ⟨Nat.zero_le _, Nat.zero_le _⟩ rfl rfl (Nat.le_of_ble_eq_true rfl) (c_X9_isShelf ll cx x1 m) (fun v1 m2 => ?_)
  refine T_if_eq (tgt := 22) C.1 dX9_row_4 (by decide) ?_ ?_
  · refine T_iconst C.1 dX9_row_22 ?_
    exact T_iret C.1 C.2.1 C.2.2 dX9_row_23
  · refine T_iload_n C.1 dX9_row_7 2 rfl ?_
    refine T_iconst C.1 dX9_row_8 ?_
    refine T_iconst C.1 dX9_row_9 ?_
    refine T_callSI (rm := rm_X9_in) [.int x2, .int (iI 0), .int (iI 4)] [] C.1 dX9_row_10 mw_X9_in wm_5_145 wm_5_146 ⟨Nat.le_of_ble_eq_true rfl, Nat.le_of_ble_eq_true rfl⟩ ⟨rfl, rfl⟩ ⟨Nat.zero_le _, Nat.zero_le _⟩ rfl rfl (Nat.le_of_ble_eq_true rfl) (c_X9_in ll cx x2 (iI 0) (iI 4) m2) (fun v3 m4 => ?_)
    refine T_if_eq (tgt := 22) C.1 dX9_row_13 (by decide) ?_ ?_
    · refine T_iconst C.1 dX9_row_22 ?_
      exact T_iret C.1 C.2.1 C.2.2 dX9_row_23
    · refine T_iload_n C.1 dX9_row_16 3 rfl ?_
      refine T_bipush C.1 dX9_row_17 rfl ?_
      refine T_icmp_le (tgt := 24) C.1 dX9_row_19 (by decide) ?_ ?_
      · refine T_iload_n C.1 dX9_row_24 3 rfl ?_
        refine T_if_ge (tgt := 31) C.1 dX9_row_25 (by decide) ?_ ?_
        · refine T_aload_n C.1 dX9_row_31 0 rfl ?_
          refine T_getR (x := 153) C.1 fd_X9_139 (fun _ _ _ _ => rfl) sh113 le113 (fun _ h => h) rfl (by decide) dX9_row_32 ?_
          refine T_iload_n C.1 dX9_row_35 1 rfl ?_
          refine T_bipush C.1 dX9_row_36 rfl ?_
          refine T_iload_n C.1 dX9_row_38 2 rfl ?_
          refine T_isub C.1 dX9_row_39 ?_
          refine T_iast C.1 LyI_Lay sh153 le153 dX9_row_40 (fun m5 => ?_)
          refine T_aload_n C.1 dX9_row_41 0 rfl ?_
          refine T_getR (x := 154) C.1 fd_X9_142 (fun _ _ _ _ => rfl) sh113 le113 (fun _ h => h) rfl (by decide) dX9_row_42 ?_
          refine T_iload_n C.1 dX9_row_45 1 rfl ?_
          refine T_iload_n C.1 dX9_row_46 3 rfl ?_
          refine T_iast C.1 LyI_Lay sh154 le154 dX9_row_47 (fun m6 => ?_)
          refine T_bipush C.1 dX9_row_48 rfl ?_
          refine T_iload_n C.1 dX9_row_50 1 rfl ?_
          refine T_imul C.1 dX9_row_51 ?_
          refine T_istoreN C.1 (fun v7 => [(4, .int v7), (0, .ref (cx.2.2.1 + 113)), (1, .int x1), (2, .int x2), (3, .int x3)]) dX9_row_52 (by decide) (fun _ => rfl) (fun v7 => ?_)
          exact T_sub [1, 2, 0] rfl (t_X9_row_54 C FU x1 v7 m6)
        · refine T_bipush C.1 dX9_row_28 rfl ?_
          exact T_iret C.1 C.2.1 C.2.2 dX9_row_30
      · refine T_iconst C.1 dX9_row_22 ?_
        exact T_iret C.1 C.2.1 C.2.2 dX9_row_23
def rm_X9_whyNoPlace : Room := { frames := 3, cells := 0, slots := 0, locals := 82 }
def F_X9_whyNoPlace  (x1 : Int32) (x2 : Int32) (m : Mm) : Option (Int32 × Mm) :=
  bnd (F_X9_isShelf x1 m) fun v1 m2 =>
  (if v1 = iI 0 then
    some ((iI (-1)), m2)
  else
    rd 6 x1 fun j3 =>
    (if (gI m2 153 j3) = (iI (-1)) then
      some ((iI (-11)), m2)
    else
      rd 6 x1 fun j4 =>
      (if (gI m2 153 j4) < iI 0 then
        rd 6 x1 fun j5 =>
        bnd (F_X9_in x2 (iI 0) ((gI m2 154 j5) - (iI 1)) m2) fun v6 m7 =>
        (if v6 = iI 0 then
          some ((iI (-13)), m7)
        else
          some ((iI 0), m7))
      else
        some ((iI (-12)), m2))))
set_option maxRecDepth 100000 in
set_option maxHeartbeats 4000000 in
theorem c_X9_whyNoPlace (ll : Launch) (cx : CX) (x1 : Int32) (x2 : Int32) (m : Mm) : MT ll yX9_whyNoPlace cX9_whyNoPlace 3 ((some .int)) rm_X9_whyNoPlace cx NN NN Lay cvI 0 0 [.ref (cx.2.2.1 + 113), .int x1, .int x2] m (F_X9_whyNoPlace x1 x2 m) := by
  refine MT_of (by decide) (Nat.le_of_ble_eq_true rfl) ?_
  intro pp ee ss mm aa bb me co hK hr hk hn
  have C : CM pp ss mm aa me co cX9_whyNoPlace 3 RX9 cx ((some .int)) := ⟨hK, hr, hk⟩
  show TI pp ll ee rm_X9_whyNoPlace ss mm aa bb me co 3 cx 0 [(0, .ref (cx.2.2.1 + 113)), (1, .int x1), (2, .int x2)] [] m (F_X9_whyNoPlace x1 x2 m)
  unfold F_X9_whyNoPlace
  refine T_iload_n C.1 dX9_whyNoPlace_0 1 rfl ?_
  refine T_callSI (rm := rm_X9_isShelf) [.int x1] [] C.1 dX9_whyNoPlace_1 mw_X9_isShelf wm_5_160 wm_5_161 ⟨Nat.le_of_ble_eq_true rfl, Nat.le_of_ble_eq_true rfl⟩ ⟨rfl, rfl⟩ ⟨Nat.zero_le _, Nat.zero_le _⟩ rfl rfl (Nat.le_of_ble_eq_true rfl) (c_X9_isShelf ll cx x1 m) (fun v1 m2 => ?_)
  refine T_if_ne (tgt := 9) C.1 dX9_whyNoPlace_4 (by decide) ?_ ?_
  · refine T_aload_n C.1 dX9_whyNoPlace_9 0 rfl ?_
    refine T_getR (x := 153) C.1 fd_X9_139 (fun _ _ _ _ => rfl) sh113 le113 (fun _ h => h) rfl (by decide) dX9_whyNoPlace_10 ?_
    refine T_iload_n C.1 dX9_whyNoPlace_13 1 rfl ?_
    refine T_iald C.1 dX9_whyNoPlace_14 sh153 le153 (fun j3 => ?_)
    refine T_iconst C.1 dX9_whyNoPlace_15 ?_
    refine T_icmp_ne (tgt := 22) C.1 dX9_whyNoPlace_16 (by decide) ?_ ?_
    · refine T_aload_n C.1 dX9_whyNoPlace_22 0 rfl ?_
      refine T_getR (x := 153) C.1 fd_X9_139 (fun _ _ _ _ => rfl) sh113 le113 (fun _ h => h) rfl (by decide) dX9_whyNoPlace_23 ?_
      refine T_iload_n C.1 dX9_whyNoPlace_26 1 rfl ?_
      refine T_iald C.1 dX9_whyNoPlace_27 sh153 le153 (fun j4 => ?_)
      refine T_if_lt (tgt := 34) C.1 dX9_whyNoPlace_28 (by decide) ?_ ?_
      · refine T_iload_n C.1 dX9_whyNoPlace_34 2 rfl ?_
        refine T_iconst C.1 dX9_whyNoPlace_35 ?_
        refine T_aload_n C.1 dX9_whyNoPlace_36 0 rfl ?_
        refine T_getR (x := 154) C.1 fd_X9_142 (fun _ _ _ _ => rfl) sh113 le113 (fun _ h => h) rfl (by decide) dX9_whyNoPlace_37 ?_
        refine T_iload_n C.1 dX9_whyNoPlace_40 1 rfl ?_
        refine T_iald C.1 dX9_whyNoPlace_41 sh154 le154 (fun j5 => ?_)
        refine T_iconst C.1 dX9_whyNoPlace_42 ?_
        refine T_isub C.1 dX9_whyNoPlace_43 ?_
        refine T_callSI (rm := rm_X9_in) [.int x2, .int (iI 0), .int ((gI m2 154 j5) - (iI 1))] [] C.1 dX9_whyNoPlace_44 mw_X9_in wm_5_145 wm_5_146 ⟨Nat.le_of_ble_eq_true rfl, Nat.le_of_ble_eq_true rfl⟩ ⟨rfl, rfl⟩ ⟨Nat.zero_le _, Nat.zero_le _⟩ rfl rfl (Nat.le_of_ble_eq_true rfl) (c_X9_in ll cx x2 (iI 0) ((gI m2 154 j5) - (iI 1)) m2) (fun v6 m7 => ?_)
        refine T_if_eq (tgt := 54) C.1 dX9_whyNoPlace_47 (by decide) ?_ ?_
        · refine T_bipush C.1 dX9_whyNoPlace_54 rfl ?_
          exact T_iret C.1 C.2.1 C.2.2 dX9_whyNoPlace_56
        · refine T_iconst C.1 dX9_whyNoPlace_50 ?_
          refine T_goto (tgt := 56) C.1 dX9_whyNoPlace_51 (by decide) ?_
          exact T_iret C.1 C.2.1 C.2.2 dX9_whyNoPlace_56
      · refine T_bipush C.1 dX9_whyNoPlace_31 rfl ?_
        exact T_iret C.1 C.2.1 C.2.2 dX9_whyNoPlace_33
    · refine T_bipush C.1 dX9_whyNoPlace_19 rfl ?_
      exact T_iret C.1 C.2.1 C.2.2 dX9_whyNoPlace_21
  · refine T_iconst C.1 dX9_whyNoPlace_7 ?_
    exact T_iret C.1 C.2.1 C.2.2 dX9_whyNoPlace_8
def rm_X9_put : Room := { frames := 4, cells := 0, slots := 0, locals := 104 }
def F_X9_put  (x1 : Int32) (x2 : Int32) (y3 : Int64) (m : Mm) : Option (Int32 × Mm) :=
  bnd (F_X9_whyNoPlace x1 x2 m) fun v1 m2 =>
  (if iI 0 ≤ v1 then
    rd 6 x1 fun j3 =>
    nm ((iI (-2)) - (gI m2 153 j3)) fun v4 =>
    (if v4 = iI 0 then
      wrL 360 m2 155 (((iI 60) * x1) + x2) (((y3.toInt32).toInt8.toInt32).toInt64) fun m10 =>
      some ((iI 1), m10)
    else
      (if v4 = (iI 1) then
        wrL 360 m2 155 (((iI 60) * x1) + x2) (((y3.toInt32).toInt16.toInt32).toInt64) fun m9 =>
        some ((iI 1), m9)
      else
        (if v4 = (iI 2) then
          wrL 360 m2 155 (((iI 60) * x1) + x2) ((y3.toInt32).toInt64) fun m8 =>
          some ((iI 1), m8)
        else
          (if v4 = (iI 3) then
            wrL 360 m2 155 (((iI 60) * x1) + x2) y3 fun m7 =>
            some ((iI 1), m7)
          else
            (if (lg_cmp y3 (iL 0)) = iI 0 then
              wrL 360 m2 155 (((iI 60) * x1) + x2) (iL 0) fun m5 =>
              some ((iI 1), m5)
            else
              wrL 360 m2 155 (((iI 60) * x1) + x2) (iL 1) fun m6 =>
              some ((iI 1), m6))))))
  else
    some (v1, m2))
set_option maxRecDepth 100000 in
set_option maxHeartbeats 4000000 in
theorem c_X9_put (ll : Launch) (cx : CX) (x1 : Int32) (x2 : Int32) (y3 : Int64) (m : Mm) : MT ll yX9_put cX9_put 7 ((some .int)) rm_X9_put cx NN NN Lay cvI 0 0 [.ref (cx.2.2.1 + 113), .int x1, .int x2, .long y3] m (F_X9_put x1 x2 y3 m) := by
  refine MT_of (by decide) (Nat.le_of_ble_eq_true rfl) ?_
  intro pp ee ss mm aa bb me co hK hr hk hn
  have C : CM pp ss mm aa me co cX9_put 7 RX9 cx ((some .int)) := ⟨hK, hr, hk⟩
  show TI pp ll ee rm_X9_put ss mm aa bb me co 7 cx 0 [(0, .ref (cx.2.2.1 + 113)), (1, .int x1), (2, .int x2), (3, .long y3)] [] m (F_X9_put x1 x2 y3 m)
  unfold F_X9_put
  refine T_aload_n C.1 dX9_put_0 0 rfl ?_
  refine T_iload_n C.1 dX9_put_1 1 rfl ?_
  refine T_iload_n C.1 dX9_put_2 2 rfl ?_
  refine T_callVI (rm := rm_X9_whyNoPlace) [.int x1, .int x2] [] C.1 dX9_put_3 mw_X9_whyNoPlace wm_7_62 wm_7_64 wm_p_96 ⟨Nat.le_of_ble_eq_true rfl, Nat.le_of_ble_eq_true rfl⟩ ⟨rfl, rfl⟩ ⟨Nat.zero_le _, Nat.zero_le _⟩ rfl rfl (Nat.le_of_ble_eq_true rfl) sh113 le113 ⟨rfl, rfl⟩ (c_X9_whyNoPlace ll cx x1 x2 m) (fun v1 m2 => ?_)
  refine T_istore (lv' := [(5, .int v1), (0, .ref (cx.2.2.1 + 113)), (1, .int x1), (2, .int x2), (3, .long y3)]) C.1 dX9_put_6 (by decide) rfl ?_
  refine T_iload C.1 dX9_put_8 0 rfl ?_
  refine T_if_ge (tgt := 16) C.1 dX9_put_10 (by decide) ?_ ?_
  · refine T_bipush C.1 dX9_put_16 rfl ?_
    refine T_aload_n C.1 dX9_put_18 1 rfl ?_
    refine T_getR (x := 153) C.1 fd_X9_139 (fun _ _ _ _ => rfl) sh113 le113 (fun _ h => h) rfl (by decide) dX9_put_19 ?_
    refine T_iload_n C.1 dX9_put_22 2 rfl ?_
    refine T_iald C.1 dX9_put_23 sh153 le153 (fun j3 => ?_)
    refine T_isub C.1 dX9_put_24 ?_
    refine T_istoreN C.1 (fun v4 => [(6, .int v4), (5, .int v1), (0, .ref (cx.2.2.1 + 113)), (1, .int x1), (2, .int x2), (3, .long y3)]) dX9_put_25 (by decide) (fun _ => rfl) (fun v4 => ?_)
    refine T_aload_n C.1 dX9_put_27 2 rfl ?_
    refine T_getR (x := 155) C.1 fd_X9_145 (fun _ _ _ _ => rfl) sh113 le113 (fun _ h => h) rfl (by decide) dX9_put_28 ?_
    refine T_bipush C.1 dX9_put_31 rfl ?_
    refine T_iload_n C.1 dX9_put_33 3 rfl ?_
    refine T_imul C.1 dX9_put_34 ?_
    refine T_iload_n C.1 dX9_put_35 4 rfl ?_
    refine T_iadd C.1 dX9_put_36 ?_
    refine T_iload C.1 dX9_put_37 0 rfl ?_
    refine T_if_ne (tgt := 49) C.1 dX9_put_39 (by decide) ?_ ?_
    · refine T_iload C.1 dX9_put_49 0 rfl ?_
      refine T_iconst C.1 dX9_put_51 ?_
      refine T_icmp_ne (tgt := 62) C.1 dX9_put_52 (by decide) ?_ ?_
      · refine T_iload C.1 dX9_put_62 0 rfl ?_
        refine T_iconst C.1 dX9_put_64 ?_
        refine T_icmp_ne (tgt := 74) C.1 dX9_put_65 (by decide) ?_ ?_
        · refine T_iload C.1 dX9_put_74 0 rfl ?_
          refine T_iconst C.1 dX9_put_76 ?_
          refine T_icmp_ne (tgt := 84) C.1 dX9_put_77 (by decide) ?_ ?_
          · refine T_lload_n C.1 dX9_put_84 5 rfl ?_
            refine T_lconst (x := iL 0) C.1 dX9_put_85 rfl ?_
            refine T_lcmp C.1 dX9_put_86 ?_
            refine T_if_eq (tgt := 94) C.1 dX9_put_87 (by decide) ?_ ?_
            · refine T_lconst (x := iL 0) C.1 dX9_put_94 rfl ?_
              refine T_last C.1 LyI_Lay sh155 le155 dX9_put_95 (fun m5 => ?_)
              refine T_iconst C.1 dX9_put_96 ?_
              exact T_iret C.1 C.2.1 C.2.2 dX9_put_97
            · refine T_lconst (x := iL 1) C.1 dX9_put_90 rfl ?_
              refine T_goto (tgt := 95) C.1 dX9_put_91 (by decide) ?_
              refine T_last C.1 LyI_Lay sh155 le155 dX9_put_95 (fun m6 => ?_)
              refine T_iconst C.1 dX9_put_96 ?_
              exact T_iret C.1 C.2.1 C.2.2 dX9_put_97
          · refine T_lload_n C.1 dX9_put_80 5 rfl ?_
            refine T_goto (tgt := 95) C.1 dX9_put_81 (by decide) ?_
            refine T_last C.1 LyI_Lay sh155 le155 dX9_put_95 (fun m7 => ?_)
            refine T_iconst C.1 dX9_put_96 ?_
            exact T_iret C.1 C.2.1 C.2.2 dX9_put_97
        · refine T_lload_n C.1 dX9_put_68 5 rfl ?_
          refine T_l2i C.1 dX9_put_69 ?_
          refine T_i2l C.1 dX9_put_70 ?_
          refine T_goto (tgt := 95) C.1 dX9_put_71 (by decide) ?_
          refine T_last C.1 LyI_Lay sh155 le155 dX9_put_95 (fun m8 => ?_)
          refine T_iconst C.1 dX9_put_96 ?_
          exact T_iret C.1 C.2.1 C.2.2 dX9_put_97
      · refine T_lload_n C.1 dX9_put_55 5 rfl ?_
        refine T_l2i C.1 dX9_put_56 ?_
        refine T_i2s C.1 dX9_put_57 ?_
        refine T_i2l C.1 dX9_put_58 ?_
        refine T_goto (tgt := 95) C.1 dX9_put_59 (by decide) ?_
        refine T_last C.1 LyI_Lay sh155 le155 dX9_put_95 (fun m9 => ?_)
        refine T_iconst C.1 dX9_put_96 ?_
        exact T_iret C.1 C.2.1 C.2.2 dX9_put_97
    · refine T_lload_n C.1 dX9_put_42 5 rfl ?_
      refine T_l2i C.1 dX9_put_43 ?_
      refine T_i2b C.1 dX9_put_44 ?_
      refine T_i2l C.1 dX9_put_45 ?_
      refine T_goto (tgt := 95) C.1 dX9_put_46 (by decide) ?_
      refine T_last C.1 LyI_Lay sh155 le155 dX9_put_95 (fun m10 => ?_)
      refine T_iconst C.1 dX9_put_96 ?_
      exact T_iret C.1 C.2.1 C.2.2 dX9_put_97
  · refine T_iload C.1 dX9_put_13 0 rfl ?_
    exact T_iret C.1 C.2.1 C.2.2 dX9_put_15
def rm_X9_element : Room := { frames := 4, cells := 0, slots := 0, locals := 104 }
def F_X9_element  (x1 : Int32) (x2 : Int32) (m : Mm) : Option (Int64 × Mm) :=
  bnd (F_X9_whyNoPlace x1 x2 m) fun v1 m2 =>
  (if iI 0 ≤ v1 then
    rd 360 (((iI 60) * x1) + x2) fun j3 =>
    some ((gL m2 155 j3), m2)
  else
    some ((iL (-9223372036854775808)), m2))
set_option maxRecDepth 100000 in
set_option maxHeartbeats 4000000 in
theorem c_X9_element (ll : Launch) (cx : CX) (x1 : Int32) (x2 : Int32) (m : Mm) : MT ll yX9_element cX9_element 3 ((some .long)) rm_X9_element cx NN NN Lay cvL 0 0 [.ref (cx.2.2.1 + 113), .int x1, .int x2] m (F_X9_element x1 x2 m) := by
  refine MT_of (by decide) (Nat.le_of_ble_eq_true rfl) ?_
  intro pp ee ss mm aa bb me co hK hr hk hn
  have C : CM pp ss mm aa me co cX9_element 3 RX9 cx ((some .long)) := ⟨hK, hr, hk⟩
  show TL pp ll ee rm_X9_element ss mm aa bb me co 3 cx 0 [(0, .ref (cx.2.2.1 + 113)), (1, .int x1), (2, .int x2)] [] m (F_X9_element x1 x2 m)
  unfold F_X9_element
  refine T_aload_n C.1 dX9_element_0 0 rfl ?_
  refine T_iload_n C.1 dX9_element_1 1 rfl ?_
  refine T_iload_n C.1 dX9_element_2 2 rfl ?_
  refine T_callVI (rm := rm_X9_whyNoPlace) [.int x1, .int x2] [] C.1 dX9_element_3 mw_X9_whyNoPlace wm_7_62 wm_7_64 wm_p_96 ⟨Nat.le_of_ble_eq_true rfl, Nat.le_of_ble_eq_true rfl⟩ ⟨rfl, rfl⟩ ⟨Nat.zero_le _, Nat.zero_le _⟩ rfl rfl (Nat.le_of_ble_eq_true rfl) sh113 le113 ⟨rfl, rfl⟩ (c_X9_whyNoPlace ll cx x1 x2 m) (fun v1 m2 => ?_)
  refine T_if_ge (tgt := 15) C.1 dX9_element_6 (by decide) ?_ ?_
  · refine T_aload_n C.1 dX9_element_15 0 rfl ?_
    refine T_getR (x := 155) C.1 fd_X9_145 (fun _ _ _ _ => rfl) sh113 le113 (fun _ h => h) rfl (by decide) dX9_element_16 ?_
    refine T_bipush C.1 dX9_element_19 rfl ?_
    refine T_iload_n C.1 dX9_element_21 1 rfl ?_
    refine T_imul C.1 dX9_element_22 ?_
    refine T_iload_n C.1 dX9_element_23 2 rfl ?_
    refine T_iadd C.1 dX9_element_24 ?_
    refine T_lald C.1 dX9_element_25 sh155 le155 (fun j3 => ?_)
    exact T_lret C.1 C.2.1 C.2.2 dX9_element_26
  · refine T_ldc2 C.1 dX9_element_9 wc_X9_430 ?_
    refine T_goto (tgt := 26) C.1 dX9_element_12 (by decide) ?_
    exact T_lret C.1 C.2.1 C.2.2 dX9_element_26
def rm_X9_shift : Room := { frames := 3, cells := 0, slots := 0, locals := 82 }
def F_X9_shift_150  : Nat → Int32 → Int32 → Int32 → Int32 → Mm → Option (Int32 × Mm)
  | 0, _, _, _, _, _ => none
  | f + 1, a1, a2, a3, a4, m =>
    (if a3 ≤ a4 then
      some (a3, m)
    else
      rd 60 a4 fun j1 =>
      wrL 360 m 155 ((((iI 60) * a1) + a2) + a4) (gL m 156 j1) fun m2 =>
      nm (a4 + (iI 1)) fun v3 =>
      F_X9_shift_150  f a1 a2 a3 v3 m2)
set_option maxRecDepth 100000 in
set_option maxHeartbeats 4000000 in
theorem t_X9_shift_150 {pp : Program} {ll : Launch} {ee : Env} {ss : State} {mm : MethodId} {aa : Array Value} {bb : List Frame} {me : Method} {co : Code} {cx : CX}     (C : CM pp ss mm aa me co cX9_shift 7 RX9 cx ((some .int)))    : ∀ (f : Nat) (a1 : Int32) (a2 : Int32) (a3 : Int32) (a4 : Int32) (m : Mm), TI pp ll ee rm_X9_shift ss mm aa bb me co 7 cx 150 [(0, .ref (cx.2.2.1 + 113)), (3, .int a1), (4, .int a2), (5, .int a3), (6, .int a4)] [] m (F_X9_shift_150  f a1 a2 a3 a4 m) := by
  intro f
  induction f with
  | zero => exact fun _ _ _ _ _ => T_none
  | succ f ih =>
    intro a1 a2 a3 a4 m
    unfold F_X9_shift_150
    refine T_iload C.1 dX9_shift_150 4 rfl ?_
    refine T_iload C.1 dX9_shift_152 3 rfl ?_
    refine T_icmp_ge (tgt := 185) C.1 dX9_shift_154 (by decide) ?_ ?_
    · refine T_iload C.1 dX9_shift_185 3 rfl ?_
      exact T_iret C.1 C.2.1 C.2.2 dX9_shift_187
    · refine T_aload_n C.1 dX9_shift_157 0 rfl ?_
      refine T_getR (x := 155) C.1 fd_X9_145 (fun _ _ _ _ => rfl) sh113 le113 (fun _ h => h) rfl (by decide) dX9_shift_158 ?_
      refine T_bipush C.1 dX9_shift_161 rfl ?_
      refine T_iload_n C.1 dX9_shift_163 1 rfl ?_
      refine T_imul C.1 dX9_shift_164 ?_
      refine T_iload C.1 dX9_shift_165 2 rfl ?_
      refine T_iadd C.1 dX9_shift_167 ?_
      refine T_iload C.1 dX9_shift_168 4 rfl ?_
      refine T_iadd C.1 dX9_shift_170 ?_
      refine T_aload_n C.1 dX9_shift_171 0 rfl ?_
      refine T_getR (x := 156) C.1 fd_X9_149 (fun _ _ _ _ => rfl) sh113 le113 (fun _ h => h) rfl (by decide) dX9_shift_172 ?_
      refine T_iload C.1 dX9_shift_175 4 rfl ?_
      refine T_lald C.1 dX9_shift_177 sh156 le156 (fun j1 => ?_)
      refine T_last C.1 LyI_Lay sh155 le155 dX9_shift_178 (fun m2 => ?_)
      refine T_iincN C.1 (fun v3 => [(6, .int v3), (0, .ref (cx.2.2.1 + 113)), (3, .int a1), (4, .int a2), (5, .int a3)]) dX9_shift_179 4 rfl (by decide) (fun _ => rfl) (fun v3 => ?_)
      refine T_goto (tgt := 150) C.1 dX9_shift_182 (by decide) ?_
      exact T_sub [1, 2, 3, 4, 0] rfl (ih a1 a2 a3 v3 m2)
def F_X9_shift_113  : Nat → Int32 → Int32 → Int32 → Int32 → Int32 → Int32 → Mm → Option (Int32 × Mm)
  | 0, _, _, _, _, _, _, _ => none
  | f + 1, a1, a2, a3, a4, a5, a6, m =>
    (if a5 ≤ a6 then
      F_X9_shift_150 FU a3 a4 a5 (iI 0) m
    else
      rd 360 ((((iI 60) * a1) + a2) + a6) fun j1 =>
      wrL 60 m 156 a6 (gL m 155 j1) fun m2 =>
      nm (a6 + (iI 1)) fun v3 =>
      F_X9_shift_113  f a1 a2 a3 a4 a5 v3 m2)
set_option maxRecDepth 100000 in
set_option maxHeartbeats 4000000 in
theorem t_X9_shift_113 {pp : Program} {ll : Launch} {ee : Env} {ss : State} {mm : MethodId} {aa : Array Value} {bb : List Frame} {me : Method} {co : Code} {cx : CX}     (C : CM pp ss mm aa me co cX9_shift 7 RX9 cx ((some .int)))    : ∀ (f : Nat) (a1 : Int32) (a2 : Int32) (a3 : Int32) (a4 : Int32) (a5 : Int32) (a6 : Int32) (m : Mm), TI pp ll ee rm_X9_shift ss mm aa bb me co 7 cx 113 [(0, .ref (cx.2.2.1 + 113)), (1, .int a1), (2, .int a2), (3, .int a3), (4, .int a4), (5, .int a5), (6, .int a6)] [] m (F_X9_shift_113  f a1 a2 a3 a4 a5 a6 m) := by
  intro f
  induction f with
  | zero => exact fun _ _ _ _ _ _ _ => T_none
  | succ f ih =>
    intro a1 a2 a3 a4 a5 a6 m
    unfold F_X9_shift_113
    refine T_iload C.1 dX9_shift_113 6 rfl ?_
    refine T_iload C.1 dX9_shift_115 5 rfl ?_
    refine T_icmp_ge (tgt := 147) C.1 dX9_shift_117 (by decide) ?_ ?_
    · refine T_iconst C.1 dX9_shift_147 ?_
      refine T_istore (lv' := [(6, .int (iI 0)), (0, .ref (cx.2.2.1 + 113)), (1, .int a1), (2, .int a2), (3, .int a3), (4, .int a4), (5, .int a5)]) C.1 dX9_shift_148 (by decide) rfl ?_
      exact T_sub [1, 4, 5, 6, 0] rfl (t_X9_shift_150 C FU a3 a4 a5 (iI 0) m)
    · refine T_aload_n C.1 dX9_shift_120 0 rfl ?_
      refine T_getR (x := 156) C.1 fd_X9_149 (fun _ _ _ _ => rfl) sh113 le113 (fun _ h => h) rfl (by decide) dX9_shift_121 ?_
      refine T_iload C.1 dX9_shift_124 6 rfl ?_
      refine T_aload_n C.1 dX9_shift_126 0 rfl ?_
      refine T_getR (x := 155) C.1 fd_X9_145 (fun _ _ _ _ => rfl) sh113 le113 (fun _ h => h) rfl (by decide) dX9_shift_127 ?_
      refine T_bipush C.1 dX9_shift_130 rfl ?_
      refine T_iload_n C.1 dX9_shift_132 1 rfl ?_
      refine T_imul C.1 dX9_shift_133 ?_
      refine T_iload_n C.1 dX9_shift_134 2 rfl ?_
      refine T_iadd C.1 dX9_shift_135 ?_
      refine T_iload C.1 dX9_shift_136 6 rfl ?_
      refine T_iadd C.1 dX9_shift_138 ?_
      refine T_lald C.1 dX9_shift_139 sh155 le155 (fun j1 => ?_)
      refine T_last C.1 LyI_Lay sh156 le156 dX9_shift_140 (fun m2 => ?_)
      refine T_iincN C.1 (fun v3 => [(6, .int v3), (0, .ref (cx.2.2.1 + 113)), (1, .int a1), (2, .int a2), (3, .int a3), (4, .int a4), (5, .int a5)]) dX9_shift_141 6 rfl (by decide) (fun _ => rfl) (fun v3 => ?_)
      refine T_goto (tgt := 113) C.1 dX9_shift_144 (by decide) ?_
      exact T_sub [1, 2, 3, 4, 5, 6, 0] rfl (ih a1 a2 a3 a4 a5 v3 m2)
def F_X9_shift  (x1 : Int32) (x2 : Int32) (x3 : Int32) (x4 : Int32) (x5 : Int32) (m : Mm) : Option (Int32 × Mm) :=
  bnd (F_X9_isShelf x1 m) fun v1 m2 =>
  (if v1 = iI 0 then
    some ((iI (-1)), m2)
  else
    bnd (F_X9_isShelf x3 m2) fun v3 m4 =>
    (if v3 = iI 0 then
      some ((iI (-1)), m4)
    else
      rd 6 x1 fun j5 =>
      (if (gI m4 153 j5) = (iI (-1)) then
        some ((iI (-11)), m4)
      else
        rd 6 x3 fun j6 =>
        (if (gI m4 153 j6) = (iI (-1)) then
          some ((iI (-11)), m4)
        else
          rd 6 x1 fun j7 =>
          (if iI 0 ≤ (gI m4 153 j7) then
            some ((iI (-12)), m4)
          else
            rd 6 x1 fun j8 =>
            rd 6 x3 fun j9 =>
            (if (gI m4 153 j8) = (gI m4 153 j9) then
              (if x5 < iI 0 then
                some ((iI (-13)), m4)
              else
                (if x2 < iI 0 then
                  some ((iI (-13)), m4)
                else
                  (if x4 < iI 0 then
                    some ((iI (-13)), m4)
                  else
                    rd 6 x1 fun j10 =>
                    (if ((gI m4 154 j10) - x5) < x2 then
                      some ((iI (-13)), m4)
                    else
                      rd 6 x3 fun j11 =>
                      (if x4 ≤ ((gI m4 154 j11) - x5) then
                        F_X9_shift_113 FU x1 x2 x3 x4 x5 (iI 0) m4
                      else
                        some ((iI (-13)), m4))))))
            else
              some ((iI (-12)), m4)))))))
set_option maxRecDepth 100000 in
set_option maxHeartbeats 4000000 in
theorem c_X9_shift (ll : Launch) (cx : CX) (x1 : Int32) (x2 : Int32) (x3 : Int32) (x4 : Int32) (x5 : Int32) (m : Mm) : MT ll yX9_shift cX9_shift 7 ((some .int)) rm_X9_shift cx NN NN Lay cvI 0 0 [.ref (cx.2.2.1 + 113), .int x1, .int x2, .int x3, .int x4, .int x5] m (F_X9_shift x1 x2 x3 x4 x5 m) := by
  refine MT_of (by decide) (Nat.le_of_ble_eq_true rfl) ?_
  intro pp ee ss mm aa bb me co hK hr hk hn
  have C : CM pp ss mm aa me co cX9_shift 7 RX9 cx ((some .int)) := ⟨hK, hr, hk⟩
  show TI pp ll ee rm_X9_shift ss mm aa bb me co 7 cx 0 [(0, .ref (cx.2.2.1 + 113)), (1, .int x1), (2, .int x2), (3, .int x3), (4, .int x4), (5, .int x5)] [] m (F_X9_shift x1 x2 x3 x4 x5 m)
  unfold F_X9_shift
  refine T_iload_n C.1 dX9_shift_0 1 rfl ?_
  refine T_callSI (rm := rm_X9_isShelf) [.int x1] [] C.1 dX9_shift_1 mw_X9_isShelf wm_5_160 wm_5_161 ⟨Nat.le_of_ble_eq_true rfl, Nat.le_of_ble_eq_true rfl⟩ ⟨rfl, rfl⟩ ⟨Nat.zero_le _, Nat.zero_le _⟩ rfl rfl (Nat.le_of_ble_eq_true rfl) (c_X9_isShelf ll cx x1 m) (fun v1 m2 => ?_)
  refine T_if_eq (tgt := 14) C.1 dX9_shift_4 (by decide) ?_ ?_
  · refine T_iconst C.1 dX9_shift_14 ?_
    exact T_iret C.1 C.2.1 C.2.2 dX9_shift_15
  · refine T_iload_n C.1 dX9_shift_7 3 rfl ?_
    refine T_callSI (rm := rm_X9_isShelf) [.int x3] [] C.1 dX9_shift_8 mw_X9_isShelf wm_5_160 wm_5_161 ⟨Nat.le_of_ble_eq_true rfl, Nat.le_of_ble_eq_true rfl⟩ ⟨rfl, rfl⟩ ⟨Nat.zero_le _, Nat.zero_le _⟩ rfl rfl (Nat.le_of_ble_eq_true rfl) (c_X9_isShelf ll cx x3 m2) (fun v3 m4 => ?_)
    refine T_if_ne (tgt := 16) C.1 dX9_shift_11 (by decide) ?_ ?_
    · refine T_aload_n C.1 dX9_shift_16 0 rfl ?_
      refine T_getR (x := 153) C.1 fd_X9_139 (fun _ _ _ _ => rfl) sh113 le113 (fun _ h => h) rfl (by decide) dX9_shift_17 ?_
      refine T_iload_n C.1 dX9_shift_20 1 rfl ?_
      refine T_iald C.1 dX9_shift_21 sh153 le153 (fun j5 => ?_)
      refine T_iconst C.1 dX9_shift_22 ?_
      refine T_icmp_eq (tgt := 36) C.1 dX9_shift_23 (by decide) ?_ ?_
      · refine T_bipush C.1 dX9_shift_36 rfl ?_
        exact T_iret C.1 C.2.1 C.2.2 dX9_shift_38
      · refine T_aload_n C.1 dX9_shift_26 0 rfl ?_
        refine T_getR (x := 153) C.1 fd_X9_139 (fun _ _ _ _ => rfl) sh113 le113 (fun _ h => h) rfl (by decide) dX9_shift_27 ?_
        refine T_iload_n C.1 dX9_shift_30 3 rfl ?_
        refine T_iald C.1 dX9_shift_31 sh153 le153 (fun j6 => ?_)
        refine T_iconst C.1 dX9_shift_32 ?_
        refine T_icmp_ne (tgt := 39) C.1 dX9_shift_33 (by decide) ?_ ?_
        · refine T_aload_n C.1 dX9_shift_39 0 rfl ?_
          refine T_getR (x := 153) C.1 fd_X9_139 (fun _ _ _ _ => rfl) sh113 le113 (fun _ h => h) rfl (by decide) dX9_shift_40 ?_
          refine T_iload_n C.1 dX9_shift_43 1 rfl ?_
          refine T_iald C.1 dX9_shift_44 sh153 le153 (fun j7 => ?_)
          refine T_if_ge (tgt := 63) C.1 dX9_shift_45 (by decide) ?_ ?_
          · refine T_bipush C.1 dX9_shift_63 rfl ?_
            exact T_iret C.1 C.2.1 C.2.2 dX9_shift_65
          · refine T_aload_n C.1 dX9_shift_48 0 rfl ?_
            refine T_getR (x := 153) C.1 fd_X9_139 (fun _ _ _ _ => rfl) sh113 le113 (fun _ h => h) rfl (by decide) dX9_shift_49 ?_
            refine T_iload_n C.1 dX9_shift_52 1 rfl ?_
            refine T_iald C.1 dX9_shift_53 sh153 le153 (fun j8 => ?_)
            refine T_aload_n C.1 dX9_shift_54 0 rfl ?_
            refine T_getR (x := 153) C.1 fd_X9_139 (fun _ _ _ _ => rfl) sh113 le113 (fun _ h => h) rfl (by decide) dX9_shift_55 ?_
            refine T_iload_n C.1 dX9_shift_58 3 rfl ?_
            refine T_iald C.1 dX9_shift_59 sh153 le153 (fun j9 => ?_)
            refine T_icmp_eq (tgt := 66) C.1 dX9_shift_60 (by decide) ?_ ?_
            · refine T_iload C.1 dX9_shift_66 5 rfl ?_
              refine T_if_lt (tgt := 107) C.1 dX9_shift_68 (by decide) ?_ ?_
              · refine T_bipush C.1 dX9_shift_107 rfl ?_
                exact T_iret C.1 C.2.1 C.2.2 dX9_shift_109
              · refine T_iload_n C.1 dX9_shift_71 2 rfl ?_
                refine T_if_lt (tgt := 107) C.1 dX9_shift_72 (by decide) ?_ ?_
                · refine T_bipush C.1 dX9_shift_107 rfl ?_
                  exact T_iret C.1 C.2.1 C.2.2 dX9_shift_109
                · refine T_iload C.1 dX9_shift_75 4 rfl ?_
                  refine T_if_lt (tgt := 107) C.1 dX9_shift_77 (by decide) ?_ ?_
                  · refine T_bipush C.1 dX9_shift_107 rfl ?_
                    exact T_iret C.1 C.2.1 C.2.2 dX9_shift_109
                  · refine T_iload_n C.1 dX9_shift_80 2 rfl ?_
                    refine T_aload_n C.1 dX9_shift_81 0 rfl ?_
                    refine T_getR (x := 154) C.1 fd_X9_142 (fun _ _ _ _ => rfl) sh113 le113 (fun _ h => h) rfl (by decide) dX9_shift_82 ?_
                    refine T_iload_n C.1 dX9_shift_85 1 rfl ?_
                    refine T_iald C.1 dX9_shift_86 sh154 le154 (fun j10 => ?_)
                    refine T_iload C.1 dX9_shift_87 5 rfl ?_
                    refine T_isub C.1 dX9_shift_89 ?_
                    refine T_icmp_gt (tgt := 107) C.1 dX9_shift_90 (by decide) ?_ ?_
                    · refine T_bipush C.1 dX9_shift_107 rfl ?_
                      exact T_iret C.1 C.2.1 C.2.2 dX9_shift_109
                    · refine T_iload C.1 dX9_shift_93 4 rfl ?_
                      refine T_aload_n C.1 dX9_shift_95 0 rfl ?_
                      refine T_getR (x := 154) C.1 fd_X9_142 (fun _ _ _ _ => rfl) sh113 le113 (fun _ h => h) rfl (by decide) dX9_shift_96 ?_
                      refine T_iload_n C.1 dX9_shift_99 3 rfl ?_
                      refine T_iald C.1 dX9_shift_100 sh154 le154 (fun j11 => ?_)
                      refine T_iload C.1 dX9_shift_101 5 rfl ?_
                      refine T_isub C.1 dX9_shift_103 ?_
                      refine T_icmp_le (tgt := 110) C.1 dX9_shift_104 (by decide) ?_ ?_
                      · refine T_iconst C.1 dX9_shift_110 ?_
                        refine T_istore (lv' := [(6, .int (iI 0)), (0, .ref (cx.2.2.1 + 113)), (1, .int x1), (2, .int x2), (3, .int x3), (4, .int x4), (5, .int x5)]) C.1 dX9_shift_111 (by decide) rfl ?_
                        exact T_sub [1, 2, 3, 4, 5, 6, 0] rfl (t_X9_shift_113 C FU x1 x2 x3 x4 x5 (iI 0) m4)
                      · refine T_bipush C.1 dX9_shift_107 rfl ?_
                        exact T_iret C.1 C.2.1 C.2.2 dX9_shift_109
            · refine T_bipush C.1 dX9_shift_63 rfl ?_
              exact T_iret C.1 C.2.1 C.2.2 dX9_shift_65
        · refine T_bipush C.1 dX9_shift_36 rfl ?_
          exact T_iret C.1 C.2.1 C.2.2 dX9_shift_38
    · refine T_iconst C.1 dX9_shift_14 ?_
      exact T_iret C.1 C.2.1 C.2.2 dX9_shift_15
def rm_X9_taken : Room := { frames := 3, cells := 0, slots := 0, locals := 82 }
def F_X9_taken  (x1 : Int32) (x2 : Int32) (m : Mm) : Option (Int32 × Mm) :=
  bnd (F_X9_isShelf x1 m) fun v1 m2 =>
  (if v1 = iI 0 then
    some ((iI (-1)), m2)
  else
    bnd (F_X9_in x2 (iI 0) (iI 7) m2) fun v3 m4 =>
    (if v3 = iI 0 then
      some ((iI (-1)), m4)
    else
      rd 6 x1 fun j5 =>
      (if (gI m4 153 j5) = (iI (-1)) then
        some ((iI (-11)), m4)
      else
        rd 6 x1 fun j6 =>
        (if (gI m4 153 j6) < iI 0 then
          some ((iI (-12)), m4)
        else
          rd 6 x1 fun j7 =>
          rd 50 (gI m4 153 j7) fun j8 =>
          bnd (F_X9_isUnder (gI m4 151 j8) x2 m4) fun v9 m10 =>
          (if v9 = iI 0 then
            some ((iI (-12)), m10)
          else
            rd 6 x1 fun j11 =>
            rd 50 (gI m10 153 j11) fun j12 =>
            some ((gI m10 151 j12), m10))))))
set_option maxRecDepth 100000 in
set_option maxHeartbeats 4000000 in
theorem c_X9_taken (ll : Launch) (cx : CX) (x1 : Int32) (x2 : Int32) (m : Mm) : MT ll yX9_taken cX9_taken 3 ((some .int)) rm_X9_taken cx NN NN Lay cvI 0 0 [.ref (cx.2.2.1 + 113), .int x1, .int x2] m (F_X9_taken x1 x2 m) := by
  refine MT_of (by decide) (Nat.le_of_ble_eq_true rfl) ?_
  intro pp ee ss mm aa bb me co hK hr hk hn
  have C : CM pp ss mm aa me co cX9_taken 3 RX9 cx ((some .int)) := ⟨hK, hr, hk⟩
  show TI pp ll ee rm_X9_taken ss mm aa bb me co 3 cx 0 [(0, .ref (cx.2.2.1 + 113)), (1, .int x1), (2, .int x2)] [] m (F_X9_taken x1 x2 m)
  unfold F_X9_taken
  refine T_iload_n C.1 dX9_taken_0 1 rfl ?_
  refine T_callSI (rm := rm_X9_isShelf) [.int x1] [] C.1 dX9_taken_1 mw_X9_isShelf wm_5_160 wm_5_161 ⟨Nat.le_of_ble_eq_true rfl, Nat.le_of_ble_eq_true rfl⟩ ⟨rfl, rfl⟩ ⟨Nat.zero_le _, Nat.zero_le _⟩ rfl rfl (Nat.le_of_ble_eq_true rfl) (c_X9_isShelf ll cx x1 m) (fun v1 m2 => ?_)
  refine T_if_eq (tgt := 17) C.1 dX9_taken_4 (by decide) ?_ ?_
  · refine T_iconst C.1 dX9_taken_17 ?_
    exact T_iret C.1 C.2.1 C.2.2 dX9_taken_18
  · refine T_iload_n C.1 dX9_taken_7 2 rfl ?_
    refine T_iconst C.1 dX9_taken_8 ?_
    refine T_bipush C.1 dX9_taken_9 rfl ?_
    refine T_callSI (rm := rm_X9_in) [.int x2, .int (iI 0), .int (iI 7)] [] C.1 dX9_taken_11 mw_X9_in wm_5_145 wm_5_146 ⟨Nat.le_of_ble_eq_true rfl, Nat.le_of_ble_eq_true rfl⟩ ⟨rfl, rfl⟩ ⟨Nat.zero_le _, Nat.zero_le _⟩ rfl rfl (Nat.le_of_ble_eq_true rfl) (c_X9_in ll cx x2 (iI 0) (iI 7) m2) (fun v3 m4 => ?_)
    refine T_if_ne (tgt := 19) C.1 dX9_taken_14 (by decide) ?_ ?_
    · refine T_aload_n C.1 dX9_taken_19 0 rfl ?_
      refine T_getR (x := 153) C.1 fd_X9_139 (fun _ _ _ _ => rfl) sh113 le113 (fun _ h => h) rfl (by decide) dX9_taken_20 ?_
      refine T_iload_n C.1 dX9_taken_23 1 rfl ?_
      refine T_iald C.1 dX9_taken_24 sh153 le153 (fun j5 => ?_)
      refine T_iconst C.1 dX9_taken_25 ?_
      refine T_icmp_ne (tgt := 32) C.1 dX9_taken_26 (by decide) ?_ ?_
      · refine T_aload_n C.1 dX9_taken_32 0 rfl ?_
        refine T_getR (x := 153) C.1 fd_X9_139 (fun _ _ _ _ => rfl) sh113 le113 (fun _ h => h) rfl (by decide) dX9_taken_33 ?_
        refine T_iload_n C.1 dX9_taken_36 1 rfl ?_
        refine T_iald C.1 dX9_taken_37 sh153 le153 (fun j6 => ?_)
        refine T_if_lt (tgt := 73) C.1 dX9_taken_38 (by decide) ?_ ?_
        · refine T_bipush C.1 dX9_taken_73 rfl ?_
          exact T_iret C.1 C.2.1 C.2.2 dX9_taken_75
        · refine T_aload_n C.1 dX9_taken_41 0 rfl ?_
          refine T_getR (x := 151) C.1 fd_X9_133 (fun _ _ _ _ => rfl) sh113 le113 (fun _ h => h) rfl (by decide) dX9_taken_42 ?_
          refine T_aload_n C.1 dX9_taken_45 0 rfl ?_
          refine T_getR (x := 153) C.1 fd_X9_139 (fun _ _ _ _ => rfl) sh113 le113 (fun _ h => h) rfl (by decide) dX9_taken_46 ?_
          refine T_iload_n C.1 dX9_taken_49 1 rfl ?_
          refine T_iald C.1 dX9_taken_50 sh153 le153 (fun j7 => ?_)
          refine T_iald C.1 dX9_taken_51 sh151 le151 (fun j8 => ?_)
          refine T_iload_n C.1 dX9_taken_52 2 rfl ?_
          refine T_callSI (rm := rm_X9_isUnder) [.int (gI m4 151 j8), .int x2] [] C.1 dX9_taken_53 mw_X9_isUnder wm_6_235 wm_6_236 ⟨Nat.le_of_ble_eq_true rfl, Nat.le_of_ble_eq_true rfl⟩ ⟨rfl, rfl⟩ ⟨Nat.zero_le _, Nat.zero_le _⟩ rfl rfl (Nat.le_of_ble_eq_true rfl) (c_X9_isUnder ll cx (gI m4 151 j8) x2 m4) (fun v9 m10 => ?_)
          refine T_if_eq (tgt := 73) C.1 dX9_taken_56 (by decide) ?_ ?_
          · refine T_bipush C.1 dX9_taken_73 rfl ?_
            exact T_iret C.1 C.2.1 C.2.2 dX9_taken_75
          · refine T_aload_n C.1 dX9_taken_59 0 rfl ?_
            refine T_getR (x := 151) C.1 fd_X9_133 (fun _ _ _ _ => rfl) sh113 le113 (fun _ h => h) rfl (by decide) dX9_taken_60 ?_
            refine T_aload_n C.1 dX9_taken_63 0 rfl ?_
            refine T_getR (x := 153) C.1 fd_X9_139 (fun _ _ _ _ => rfl) sh113 le113 (fun _ h => h) rfl (by decide) dX9_taken_64 ?_
            refine T_iload_n C.1 dX9_taken_67 1 rfl ?_
            refine T_iald C.1 dX9_taken_68 sh153 le153 (fun j11 => ?_)
            refine T_iald C.1 dX9_taken_69 sh151 le151 (fun j12 => ?_)
            refine T_goto (tgt := 75) C.1 dX9_taken_70 (by decide) ?_
            exact T_iret C.1 C.2.1 C.2.2 dX9_taken_75
      · refine T_bipush C.1 dX9_taken_29 rfl ?_
        exact T_iret C.1 C.2.1 C.2.2 dX9_taken_31
    · refine T_iconst C.1 dX9_taken_17 ?_
      exact T_iret C.1 C.2.1 C.2.2 dX9_taken_18
