def rm_X8_turn : Room := { frames := 2, cells := 0, slots := 0, locals := 61 }
def F_X8_turn   (m : Mm) : Option (Int32 × Mm) :=
  bnd (F_X2_whoseTurn 23 m) fun v1 m2 =>
  some (v1, m2)
set_option maxRecDepth 100000 in
set_option maxHeartbeats 4000000 in
theorem c_X8_turn {wn : Nat} (hn : NN ≤ wn) (ll : Launch) (cx : CX)  (m : Mm) : MT ll yX8_turn cX8_turn 1 ((some .int)) rm_X8_turn cx wn wn Lay cvI 0 0 [.ref (cx.2.2.1 + 1)] m (F_X8_turn  m) := by
  refine MT_of (by decide) (Nat.le_of_ble_eq_true rfl) ?_
  intro pp ee ss mm aa bb me co hK hr hk hn0
  have C : CM pp ss mm aa me co cX8_turn 1 RX8 cx ((some .int)) := ⟨hK, hr, hk⟩
  show TI pp ll ee rm_X8_turn ss mm aa bb me co 1 cx wn 0 [(0, .ref (cx.2.2.1 + 1))] [] m (F_X8_turn  m)
  unfold F_X8_turn
  refine T_aload_n C.1 dX8_turn_0 0 rfl ?_
  refine T_getR (x := 23) C.1 fd_X8_33 (fun _ _ _ _ => rfl) sh1 (Nat.le_trans le1 hn) (fun _ h => h) rfl (by decide) dX8_turn_1 ?_
  refine T_aload_n C.1 dX8_turn_4 0 rfl ?_
  refine T_getR (x := 2) C.1 fd_X8_10 (fun _ _ _ _ => rfl) sh1 (Nat.le_trans le1 hn) (fun _ h => h) rfl (by decide) dX8_turn_5 ?_
  refine T_callVI (rm := rm_X2_whoseTurn) [.ref (cx.2.2.1 + 2)] [] C.1 dX8_turn_8 mw_X2_whoseTurn wm_2_98 wm_2_99 wm_2_100 ⟨Nat.le_of_ble_eq_true rfl, Nat.le_of_ble_eq_true rfl⟩ ⟨rfl, rfl⟩ ⟨Nat.zero_le _, Nat.zero_le _⟩ rfl rfl (Nat.le_of_ble_eq_true rfl) sh23 (Nat.le_trans le23 hn) ⟨rfl, rfl⟩ (c_X2_whoseTurn hn ll cx 23 m) (fun v1 m2 => ?_)
  exact T_iret C.1 C.2.1 C.2.2 dX8_turn_11
def rm_X8_open : Room := { frames := 3, cells := 0, slots := 0, locals := 84 }
def F_X8_open   (m : Mm) : Option (Int32 × Mm) :=
  bnd (F_X2_whoseTurn 23 m) fun v1 m2 =>
  (if iI 0 ≤ v1 then
    bnd (F_X2_unwrap 23 v1 m2) fun v3 m4 =>
    some (v3, m4)
  else
    some ((iI (-5)), m2))
set_option maxRecDepth 100000 in
set_option maxHeartbeats 4000000 in
theorem c_X8_open {wn : Nat} (hn : NN ≤ wn) (ll : Launch) (cx : CX)  (m : Mm) : MT ll yX8_open cX8_open 2 ((some .int)) rm_X8_open cx wn wn Lay cvI 0 0 [.ref (cx.2.2.1 + 1)] m (F_X8_open  m) := by
  refine MT_of (by decide) (Nat.le_of_ble_eq_true rfl) ?_
  intro pp ee ss mm aa bb me co hK hr hk hn0
  have C : CM pp ss mm aa me co cX8_open 2 RX8 cx ((some .int)) := ⟨hK, hr, hk⟩
  show TI pp ll ee rm_X8_open ss mm aa bb me co 2 cx wn 0 [(0, .ref (cx.2.2.1 + 1))] [] m (F_X8_open  m)
  unfold F_X8_open
  refine T_aload_n C.1 dX8_open_0 0 rfl ?_
  refine T_getR (x := 23) C.1 fd_X8_33 (fun _ _ _ _ => rfl) sh1 (Nat.le_trans le1 hn) (fun _ h => h) rfl (by decide) dX8_open_1 ?_
  refine T_aload_n C.1 dX8_open_4 0 rfl ?_
  refine T_getR (x := 2) C.1 fd_X8_10 (fun _ _ _ _ => rfl) sh1 (Nat.le_trans le1 hn) (fun _ h => h) rfl (by decide) dX8_open_5 ?_
  refine T_callVI (rm := rm_X2_whoseTurn) [.ref (cx.2.2.1 + 2)] [] C.1 dX8_open_8 mw_X2_whoseTurn wm_2_98 wm_2_99 wm_2_100 ⟨Nat.le_of_ble_eq_true rfl, Nat.le_of_ble_eq_true rfl⟩ ⟨rfl, rfl⟩ ⟨Nat.zero_le _, Nat.zero_le _⟩ rfl rfl (Nat.le_of_ble_eq_true rfl) sh23 (Nat.le_trans le23 hn) ⟨rfl, rfl⟩ (c_X2_whoseTurn hn ll cx 23 m) (fun v1 m2 => ?_)
  refine T_istore_n (lv' := [(1, .int v1), (0, .ref (cx.2.2.1 + 1))]) C.1 dX8_open_11 (by decide) rfl ?_
  refine T_iload_n C.1 dX8_open_12 0 rfl ?_
  refine T_if_ge (tgt := 21) C.1 dX8_open_13 (by decide) ?_ ?_
  · refine T_aload_n C.1 dX8_open_21 1 rfl ?_
    refine T_getR (x := 23) C.1 fd_X8_33 (fun _ _ _ _ => rfl) sh1 (Nat.le_trans le1 hn) (fun _ h => h) rfl (by decide) dX8_open_22 ?_
    refine T_iload_n C.1 dX8_open_25 0 rfl ?_
    refine T_callVI (rm := rm_X2_unwrap) [.int v1] [] C.1 dX8_open_26 mw_X2_unwrap wm_2_106 wm_2_107 wm_2_108 ⟨Nat.le_of_ble_eq_true rfl, Nat.le_of_ble_eq_true rfl⟩ ⟨rfl, rfl⟩ ⟨Nat.zero_le _, Nat.zero_le _⟩ rfl rfl (Nat.le_of_ble_eq_true rfl) sh23 (Nat.le_trans le23 hn) ⟨rfl, rfl⟩ (c_X2_unwrap hn ll cx 23 v1 m2) (fun v3 m4 => ?_)
    exact T_iret C.1 C.2.1 C.2.2 dX8_open_29
  · refine T_bipush C.1 dX8_open_16 rfl ?_
    refine T_goto (tgt := 29) C.1 dX8_open_18 (by decide) ?_
    exact T_iret C.1 C.2.1 C.2.2 dX8_open_29
def rm_X8_goOn : Room := { frames := 5, cells := 0, slots := 0, locals := 145 }
def F_X8_goOn   (m : Mm) : Option (Int32 × Mm) :=
  bnd (F_X2_playTill 23 (gI m 2 0) m) fun v1 m2 =>
  some (v1, m2)
set_option maxRecDepth 100000 in
set_option maxHeartbeats 4000000 in
theorem c_X8_goOn {wn : Nat} (hn : NN ≤ wn) (ll : Launch) (cx : CX)  (m : Mm) : MT ll yX8_goOn cX8_goOn 1 ((some .int)) rm_X8_goOn cx wn wn Lay cvI 0 0 [.ref (cx.2.2.1 + 1)] m (F_X8_goOn  m) := by
  refine MT_of (by decide) (Nat.le_of_ble_eq_true rfl) ?_
  intro pp ee ss mm aa bb me co hK hr hk hn0
  have C : CM pp ss mm aa me co cX8_goOn 1 RX8 cx ((some .int)) := ⟨hK, hr, hk⟩
  show TI pp ll ee rm_X8_goOn ss mm aa bb me co 1 cx wn 0 [(0, .ref (cx.2.2.1 + 1))] [] m (F_X8_goOn  m)
  unfold F_X8_goOn
  refine T_aload_n C.1 dX8_goOn_0 0 rfl ?_
  refine T_getR (x := 23) C.1 fd_X8_33 (fun _ _ _ _ => rfl) sh1 (Nat.le_trans le1 hn) (fun _ h => h) rfl (by decide) dX8_goOn_1 ?_
  refine T_aload_n C.1 dX8_goOn_4 0 rfl ?_
  refine T_getR (x := 2) C.1 fd_X8_10 (fun _ _ _ _ => rfl) sh1 (Nat.le_trans le1 hn) (fun _ h => h) rfl (by decide) dX8_goOn_5 ?_
  refine T_getI C.1 fd_X8_71 (fun _ _ _ _ => rfl) sh2 (Nat.le_trans le2 hn) dX8_goOn_8 ?_
  refine T_aload_n C.1 dX8_goOn_11 0 rfl ?_
  refine T_getR (x := 2) C.1 fd_X8_10 (fun _ _ _ _ => rfl) sh1 (Nat.le_trans le1 hn) (fun _ h => h) rfl (by decide) dX8_goOn_12 ?_
  refine T_callVI (rm := rm_X2_playTill) [.int (gI m 2 0), .ref (cx.2.2.1 + 2)] [] C.1 dX8_goOn_15 mw_X2_playTill wm_2_118 wm_2_119 wm_2_120 ⟨Nat.le_of_ble_eq_true rfl, Nat.le_of_ble_eq_true rfl⟩ ⟨rfl, rfl⟩ ⟨Nat.zero_le _, Nat.zero_le _⟩ rfl rfl (Nat.le_of_ble_eq_true rfl) sh23 (Nat.le_trans le23 hn) ⟨rfl, rfl⟩ (c_X2_playTill hn ll cx 23 (gI m 2 0) m) (fun v1 m2 => ?_)
  exact T_iret C.1 C.2.1 C.2.2 dX8_goOn_18
def rm_X8_again : Room := { frames := 4, cells := 0, slots := 0, locals := 112 }
def F_X8_again   (m : Mm) : Option (Int32 × Mm) :=
  (if (gI m 2 5) = iI 0 then
    some ((iI (-5)), m)
  else
    (if (gI m 23 7) = iI 0 then
      bnd (F_X2_hasEnded 23 m) fun v1 m2 =>
      (if v1 = iI 0 then
        some ((iI (-5)), m2)
      else
        bnd (F_X2_chooseOnceMore 23 m2) fun _ m4 =>
        rd 7 (iI 0) fun j5 =>
        rd 7 (gI m4 24 j5) fun j6 =>
        some ((gI m4 25 j6), m4))
    else
      some ((iI (-5)), m)))
set_option maxRecDepth 100000 in
set_option maxHeartbeats 4000000 in
theorem c_X8_again {wn : Nat} (hn : NN ≤ wn) (ll : Launch) (cx : CX)  (m : Mm) : MT ll yX8_again cX8_again 1 ((some .int)) rm_X8_again cx wn wn Lay cvI 0 0 [.ref (cx.2.2.1 + 1)] m (F_X8_again  m) := by
  refine MT_of (by decide) (Nat.le_of_ble_eq_true rfl) ?_
  intro pp ee ss mm aa bb me co hK hr hk hn0
  have C : CM pp ss mm aa me co cX8_again 1 RX8 cx ((some .int)) := ⟨hK, hr, hk⟩
  show TI pp ll ee rm_X8_again ss mm aa bb me co 1 cx wn 0 [(0, .ref (cx.2.2.1 + 1))] [] m (F_X8_again  m)
  unfold F_X8_again
  refine T_aload_n C.1 dX8_again_0 0 rfl ?_
  refine T_getR (x := 2) C.1 fd_X8_10 (fun _ _ _ _ => rfl) sh1 (Nat.le_trans le1 hn) (fun _ h => h) rfl (by decide) dX8_again_1 ?_
  refine T_getI C.1 fd_X8_166 (fun _ _ _ _ => rfl) sh2 (Nat.le_trans le2 hn) dX8_again_4 ?_
  refine T_if_eq (tgt := 34) C.1 dX8_again_7 (by decide) ?_ ?_
  · refine T_bipush C.1 dX8_again_34 rfl ?_
    exact T_iret C.1 C.2.1 C.2.2 dX8_again_36
  · refine T_aload_n C.1 dX8_again_10 0 rfl ?_
    refine T_getR (x := 23) C.1 fd_X8_33 (fun _ _ _ _ => rfl) sh1 (Nat.le_trans le1 hn) (fun _ h => h) rfl (by decide) dX8_again_11 ?_
    refine T_getI C.1 fd_X8_169 (fun _ _ _ _ => rfl) sh23 (Nat.le_trans le23 hn) dX8_again_14 ?_
    refine T_if_ne (tgt := 34) C.1 dX8_again_17 (by decide) ?_ ?_
    · refine T_bipush C.1 dX8_again_34 rfl ?_
      exact T_iret C.1 C.2.1 C.2.2 dX8_again_36
    · refine T_aload_n C.1 dX8_again_20 0 rfl ?_
      refine T_getR (x := 23) C.1 fd_X8_33 (fun _ _ _ _ => rfl) sh1 (Nat.le_trans le1 hn) (fun _ h => h) rfl (by decide) dX8_again_21 ?_
      refine T_aload_n C.1 dX8_again_24 0 rfl ?_
      refine T_getR (x := 2) C.1 fd_X8_10 (fun _ _ _ _ => rfl) sh1 (Nat.le_trans le1 hn) (fun _ h => h) rfl (by decide) dX8_again_25 ?_
      refine T_callVI (rm := rm_X2_hasEnded) [.ref (cx.2.2.1 + 2)] [] C.1 dX8_again_28 mw_X2_hasEnded wm_2_174 wm_2_175 wm_2_176 ⟨Nat.le_of_ble_eq_true rfl, Nat.le_of_ble_eq_true rfl⟩ ⟨rfl, rfl⟩ ⟨Nat.zero_le _, Nat.zero_le _⟩ rfl rfl (Nat.le_of_ble_eq_true rfl) sh23 (Nat.le_trans le23 hn) ⟨rfl, rfl⟩ (c_X2_hasEnded hn ll cx 23 m) (fun v1 m2 => ?_)
      refine T_if_ne (tgt := 37) C.1 dX8_again_31 (by decide) ?_ ?_
      · refine T_aload_n C.1 dX8_again_37 0 rfl ?_
        refine T_getR (x := 23) C.1 fd_X8_33 (fun _ _ _ _ => rfl) sh1 (Nat.le_trans le1 hn) (fun _ h => h) rfl (by decide) dX8_again_38 ?_
        refine T_aload_n C.1 dX8_again_41 0 rfl ?_
        refine T_getR (x := 2) C.1 fd_X8_10 (fun _ _ _ _ => rfl) sh1 (Nat.le_trans le1 hn) (fun _ h => h) rfl (by decide) dX8_again_42 ?_
        refine T_callVV (rm := rm_X2_chooseOnceMore) [.ref (cx.2.2.1 + 2)] [] C.1 dX8_again_45 mw_X2_chooseOnceMore wm_2_182 wm_2_183 wm_2_184 ⟨Nat.le_of_ble_eq_true rfl, Nat.le_of_ble_eq_true rfl⟩ ⟨rfl, rfl⟩ ⟨Nat.zero_le _, Nat.zero_le _⟩ rfl rfl (Nat.le_of_ble_eq_true rfl) sh23 (Nat.le_trans le23 hn) ⟨rfl, rfl⟩ (c_X2_chooseOnceMore hn ll cx 23 m2) (fun u3 m4 => ?_)
        refine T_aload_n C.1 dX8_again_48 0 rfl ?_
        refine T_getR (x := 23) C.1 fd_X8_33 (fun _ _ _ _ => rfl) sh1 (Nat.le_trans le1 hn) (fun _ h => h) rfl (by decide) dX8_again_49 ?_
        refine T_getR (x := 25) C.1 fd_X8_114 (fun _ _ _ _ => rfl) sh23 (Nat.le_trans le23 hn) (fun _ h => h) rfl (by decide) dX8_again_52 ?_
        refine T_aload_n C.1 dX8_again_55 0 rfl ?_
        refine T_getR (x := 23) C.1 fd_X8_33 (fun _ _ _ _ => rfl) sh1 (Nat.le_trans le1 hn) (fun _ h => h) rfl (by decide) dX8_again_56 ?_
        refine T_getR (x := 24) C.1 fd_X8_110 (fun _ _ _ _ => rfl) sh23 (Nat.le_trans le23 hn) (fun _ h => h) rfl (by decide) dX8_again_59 ?_
        refine T_iconst C.1 dX8_again_62 ?_
        refine T_iald C.1 dX8_again_63 sh24 (Nat.le_trans le24 hn) (fun j5 => ?_)
        refine T_iald C.1 dX8_again_64 sh25 (Nat.le_trans le25 hn) (fun j6 => ?_)
        exact T_iret C.1 C.2.1 C.2.2 dX8_again_65
      · refine T_bipush C.1 dX8_again_34 rfl ?_
        exact T_iret C.1 C.2.1 C.2.2 dX8_again_36
def rm_X8_anew : Room := { frames := 3, cells := 0, slots := 0, locals := 83 }
def F_X8_anew   (m : Mm) : Option (Int32 × Mm) :=
  bnd (F_X2_wrapAll 23 m) fun _ m2 =>
  some ((gI m2 2 0), m2)
set_option maxRecDepth 100000 in
set_option maxHeartbeats 4000000 in
theorem c_X8_anew {wn : Nat} (hn : NN ≤ wn) (ll : Launch) (cx : CX)  (m : Mm) : MT ll yX8_anew cX8_anew 1 ((some .int)) rm_X8_anew cx wn wn Lay cvI 0 0 [.ref (cx.2.2.1 + 1)] m (F_X8_anew  m) := by
  refine MT_of (by decide) (Nat.le_of_ble_eq_true rfl) ?_
  intro pp ee ss mm aa bb me co hK hr hk hn0
  have C : CM pp ss mm aa me co cX8_anew 1 RX8 cx ((some .int)) := ⟨hK, hr, hk⟩
  show TI pp ll ee rm_X8_anew ss mm aa bb me co 1 cx wn 0 [(0, .ref (cx.2.2.1 + 1))] [] m (F_X8_anew  m)
  unfold F_X8_anew
  refine T_aload_n C.1 dX8_anew_0 0 rfl ?_
  refine T_getR (x := 23) C.1 fd_X8_33 (fun _ _ _ _ => rfl) sh1 (Nat.le_trans le1 hn) (fun _ h => h) rfl (by decide) dX8_anew_1 ?_
  refine T_callVV (rm := rm_X2_wrapAll) [] [] C.1 dX8_anew_4 mw_X2_wrapAll wm_2_194 wm_2_195 wm_2_196 ⟨Nat.le_of_ble_eq_true rfl, Nat.le_of_ble_eq_true rfl⟩ ⟨rfl, rfl⟩ ⟨Nat.zero_le _, Nat.zero_le _⟩ rfl rfl (Nat.le_of_ble_eq_true rfl) sh23 (Nat.le_trans le23 hn) ⟨rfl, rfl⟩ (c_X2_wrapAll hn ll cx 23 m) (fun u1 m2 => ?_)
  refine T_aload_n C.1 dX8_anew_7 0 rfl ?_
  refine T_getR (x := 2) C.1 fd_X8_10 (fun _ _ _ _ => rfl) sh1 (Nat.le_trans le1 hn) (fun _ h => h) rfl (by decide) dX8_anew_8 ?_
  refine T_getI C.1 fd_X8_71 (fun _ _ _ _ => rfl) sh2 (Nat.le_trans le2 hn) dX8_anew_11 ?_
  exact T_iret C.1 C.2.1 C.2.2 dX8_anew_14
def rm_X8_led : Room := { frames := 1, cells := 0, slots := 0, locals := 40 }
def F_X8_led  (x1 : Int32) (m : Mm) : Option (Int32 × Mm) :=
  (if x1 < iI 0 then
    some ((iI (-1)), m)
  else
    (if x1 ≤ (iI 2) then
      (if x1 = (iI 2) then
        some ((gI m 23 10), m)
      else
        (if (gI m 23 10) = iI 0 then
          some ((iI (-5)), m)
        else
          (if x1 = iI 0 then
            some ((gI m 23 8), m)
          else
            some ((gI m 23 9), m))))
    else
      some ((iI (-1)), m)))
set_option maxRecDepth 100000 in
set_option maxHeartbeats 4000000 in
theorem c_X8_led {wn : Nat} (hn : NN ≤ wn) (ll : Launch) (cx : CX) (x1 : Int32) (m : Mm) : MT ll yX8_led cX8_led 2 ((some .int)) rm_X8_led cx wn wn Lay cvI 0 0 [.ref (cx.2.2.1 + 1), .int x1] m (F_X8_led x1 m) := by
  refine MT_of (by decide) (Nat.le_of_ble_eq_true rfl) ?_
  intro pp ee ss mm aa bb me co hK hr hk hn0
  have C : CM pp ss mm aa me co cX8_led 2 RX8 cx ((some .int)) := ⟨hK, hr, hk⟩
  show TI pp ll ee rm_X8_led ss mm aa bb me co 2 cx wn 0 [(0, .ref (cx.2.2.1 + 1)), (1, .int x1)] [] m (F_X8_led x1 m)
  unfold F_X8_led
  refine T_iload_n C.1 dX8_led_0 1 rfl ?_
  refine T_if_lt (tgt := 9) C.1 dX8_led_1 (by decide) ?_ ?_
  · refine T_iconst C.1 dX8_led_9 ?_
    exact T_iret C.1 C.2.1 C.2.2 dX8_led_10
  · refine T_iload_n C.1 dX8_led_4 1 rfl ?_
    refine T_iconst C.1 dX8_led_5 ?_
    refine T_icmp_le (tgt := 11) C.1 dX8_led_6 (by decide) ?_ ?_
    · refine T_iload_n C.1 dX8_led_11 1 rfl ?_
      refine T_iconst C.1 dX8_led_12 ?_
      refine T_icmp_ne (tgt := 24) C.1 dX8_led_13 (by decide) ?_ ?_
      · refine T_aload_n C.1 dX8_led_24 0 rfl ?_
        refine T_getR (x := 23) C.1 fd_X8_33 (fun _ _ _ _ => rfl) sh1 (Nat.le_trans le1 hn) (fun _ h => h) rfl (by decide) dX8_led_25 ?_
        refine T_getI C.1 fd_X8_183 (fun _ _ _ _ => rfl) sh23 (Nat.le_trans le23 hn) dX8_led_28 ?_
        refine T_if_ne (tgt := 37) C.1 dX8_led_31 (by decide) ?_ ?_
        · refine T_iload_n C.1 dX8_led_37 1 rfl ?_
          refine T_if_ne (tgt := 51) C.1 dX8_led_38 (by decide) ?_ ?_
          · refine T_aload_n C.1 dX8_led_51 0 rfl ?_
            refine T_getR (x := 23) C.1 fd_X8_33 (fun _ _ _ _ => rfl) sh1 (Nat.le_trans le1 hn) (fun _ h => h) rfl (by decide) dX8_led_52 ?_
            refine T_getI C.1 fd_X8_189 (fun _ _ _ _ => rfl) sh23 (Nat.le_trans le23 hn) dX8_led_55 ?_
            exact T_iret C.1 C.2.1 C.2.2 dX8_led_58
          · refine T_aload_n C.1 dX8_led_41 0 rfl ?_
            refine T_getR (x := 23) C.1 fd_X8_33 (fun _ _ _ _ => rfl) sh1 (Nat.le_trans le1 hn) (fun _ h => h) rfl (by decide) dX8_led_42 ?_
            refine T_getI C.1 fd_X8_186 (fun _ _ _ _ => rfl) sh23 (Nat.le_trans le23 hn) dX8_led_45 ?_
            refine T_goto (tgt := 58) C.1 dX8_led_48 (by decide) ?_
            exact T_iret C.1 C.2.1 C.2.2 dX8_led_58
        · refine T_bipush C.1 dX8_led_34 rfl ?_
          exact T_iret C.1 C.2.1 C.2.2 dX8_led_36
      · refine T_aload_n C.1 dX8_led_16 0 rfl ?_
        refine T_getR (x := 23) C.1 fd_X8_33 (fun _ _ _ _ => rfl) sh1 (Nat.le_trans le1 hn) (fun _ h => h) rfl (by decide) dX8_led_17 ?_
        refine T_getI C.1 fd_X8_183 (fun _ _ _ _ => rfl) sh23 (Nat.le_trans le23 hn) dX8_led_20 ?_
        exact T_iret C.1 C.2.1 C.2.2 dX8_led_23
    · refine T_iconst C.1 dX8_led_9 ?_
      exact T_iret C.1 C.2.1 C.2.2 dX8_led_10
def rm_X8_evening : Room := { frames := 6, cells := 0, slots := 0, locals := 167 }
def F_X8_evening_48  (a1 : Int32) (a2 : Int32) (m : Mm) : Option (Int32 × Mm) :=
  bnd (F_X7_eveningBy 24 m) fun q1 m2 =>
  gdS (9, 2) q1 fun q1 =>
  tsw a2 (0) [(rd 7 a1 fun j3 =>
  some ((gI m2 (q1 + 2) j3), m2)),
   (some ((gI m2 q1 10), m2)),
   (bnd (F_X2_worths q1 m2) fun v4 m5 =>
  some (v4, m5))] (rd 7 a1 fun j6 =>
  some ((gI m2 (q1 + 4) j6), m2))
set_option maxRecDepth 100000 in
set_option maxHeartbeats 4000000 in
theorem t_X8_evening_48 {wn : Nat} (hn : NN ≤ wn) {pp : Program} {ll : Launch} {ee : Env} {ss : State} {mm : MethodId} {aa : Array Value} {bb : List Frame} {me : Method} {co : Code} {cx : CX}     (C : CM pp ss mm aa me co cX8_evening 5 RX8 cx ((some .int)))    (a1 : Int32) (a2 : Int32) (m : Mm) : TI pp ll ee rm_X8_evening ss mm aa bb me co 5 cx wn 48 [(0, .ref (cx.2.2.1 + 1)), (1, .int a1), (2, .int a2)] [] m (F_X8_evening_48  a1 a2 m) := by
  unfold F_X8_evening_48
  refine T_aload_n C.1 dX8_evening_48 0 rfl ?_
  refine T_getR (x := 33) C.1 fd_X8_45 (fun _ _ _ _ => rfl) sh1 (Nat.le_trans le1 hn) (fun _ h => h) rfl (by decide) dX8_evening_49 ?_
  refine T_aload_n C.1 dX8_evening_52 0 rfl ?_
  refine T_getR (x := 23) C.1 fd_X8_33 (fun _ _ _ _ => rfl) sh1 (Nat.le_trans le1 hn) (fun _ h => h) rfl (by decide) dX8_evening_53 ?_
  refine T_getR (x := 24) C.1 fd_X8_110 (fun _ _ _ _ => rfl) sh23 (Nat.le_trans le23 hn) (fun _ h => h) rfl (by decide) dX8_evening_56 ?_
  refine T_callVR (rm := rm_X7_eveningBy) [.ref (cx.2.2.1 + 24)] [] C.1 dX8_evening_59 mw_X7_eveningBy wm_2_206 wm_2_207 wm_2_208 ⟨Nat.le_of_ble_eq_true rfl, Nat.le_of_ble_eq_true rfl⟩ ⟨rfl, rfl⟩ ⟨Nat.zero_le _, Nat.zero_le _⟩ rfl rfl (Nat.le_of_ble_eq_true rfl) sh33 (Nat.le_trans le33 hn) ⟨rfl, rfl⟩ (c_X7_eveningBy hn ll cx 24 m) (fun q1 m2 => ?_)
  refine T_gdS (fun hq1 => ?_)
  refine T_astore (lv' := [(4, .ref (cx.2.2.1 + q1)), (0, .ref (cx.2.2.1 + 1)), (1, .int a1), (2, .int a2)]) C.1 dX8_evening_62 (by decide) rfl ?_
  refine T_iload_n C.1 dX8_evening_64 3 rfl ?_
  refine T_tsw (lo := (0)) (os := [27, 35, 41]) C.1 dX8_evening_65 rfl (by decide) (tgd := 116) (by decide) ⟨⟨92, by decide, ?_⟩, ⟨100, by decide, ?_⟩, ⟨106, by decide, ?_⟩, trivial⟩ ?_
  · show TI pp ll ee rm_X8_evening ss mm aa bb me co 5 cx wn _ _ _ _ _
    refine T_aload C.1 dX8_evening_92 0 rfl ?_
    refine T_getR (x := (q1 + 2)) C.1 fd_X8_114 (fun _ _ _ _ => rfl) hq1 (Nat.le_trans (shp_le hq1 (by decide)) hn) (fun _ h => h) rfl (Nat.succ_ne_zero _) dX8_evening_94 ?_
    refine T_iload_n C.1 dX8_evening_97 2 rfl ?_
    refine T_iald C.1 dX8_evening_98 (shr_2_2 hq1) (Nat.le_trans (shp_le (shr_2_2 hq1) (by decide)) hn) (fun j3 => ?_)
    exact T_iret C.1 C.2.1 C.2.2 dX8_evening_99
  · show TI pp ll ee rm_X8_evening ss mm aa bb me co 5 cx wn _ _ _ _ _
    refine T_aload C.1 dX8_evening_100 0 rfl ?_
    refine T_getI C.1 fd_X8_183 (fun _ _ _ _ => rfl) hq1 (Nat.le_trans (shp_le hq1 (by decide)) hn) dX8_evening_102 ?_
    exact T_iret C.1 C.2.1 C.2.2 dX8_evening_105
  · show TI pp ll ee rm_X8_evening ss mm aa bb me co 5 cx wn _ _ _ _ _
    refine T_aload C.1 dX8_evening_106 0 rfl ?_
    refine T_aload_n C.1 dX8_evening_108 1 rfl ?_
    refine T_getR (x := 2) C.1 fd_X8_10 (fun _ _ _ _ => rfl) sh1 (Nat.le_trans le1 hn) (fun _ h => h) rfl (by decide) dX8_evening_109 ?_
    refine T_callVI (rm := rm_X2_worths) [.ref (cx.2.2.1 + 2)] [] C.1 dX8_evening_112 mw_X2_worths wm_2_225 wm_2_226 wm_2_227 ⟨Nat.le_of_ble_eq_true rfl, Nat.le_of_ble_eq_true rfl⟩ ⟨rfl, rfl⟩ ⟨Nat.zero_le _, Nat.zero_le _⟩ rfl rfl (Nat.le_of_ble_eq_true rfl) hq1 (Nat.le_trans (shp_le hq1 (by decide)) hn) ⟨rfl, rfl⟩ (c_X2_worths hn ll cx q1 m2) (fun v4 m5 => ?_)
    exact T_iret C.1 C.2.1 C.2.2 dX8_evening_115
  · show TI pp ll ee rm_X8_evening ss mm aa bb me co 5 cx wn _ _ _ _ _
    refine T_aload C.1 dX8_evening_116 0 rfl ?_
    refine T_getR (x := (q1 + 4)) C.1 fd_X8_117 (fun _ _ _ _ => rfl) hq1 (Nat.le_trans (shp_le hq1 (by decide)) hn) (fun _ h => h) rfl (Nat.succ_ne_zero _) dX8_evening_118 ?_
    refine T_iload_n C.1 dX8_evening_121 2 rfl ?_
    refine T_iald C.1 dX8_evening_122 (shr_2_4 hq1) (Nat.le_trans (shp_le (shr_2_4 hq1) (by decide)) hn) (fun j6 => ?_)
    exact T_iret C.1 C.2.1 C.2.2 dX8_evening_123
def F_X8_evening_14  (a1 : Int32) (a2 : Int32) (a3 : Int32) (m : Mm) : Option (Int32 × Mm) :=
  (if a2 < iI 0 then
    some ((iI (-1)), m)
  else
    (if (iI 3) < a2 then
      some ((iI (-1)), m)
    else
      (if a3 = iI 0 then
        (if a1 = iI 0 then
          F_X8_evening_48 a1 a2 m
        else
          some ((iI (-1)), m))
      else
        bnd (F_X4_isOne a1 m) fun v1 m2 =>
        (if v1 = iI 0 then
          some ((iI (-1)), m2)
        else
          F_X8_evening_48 a1 a2 m2))))
set_option maxRecDepth 100000 in
set_option maxHeartbeats 4000000 in
theorem t_X8_evening_14 {wn : Nat} (hn : NN ≤ wn) {pp : Program} {ll : Launch} {ee : Env} {ss : State} {mm : MethodId} {aa : Array Value} {bb : List Frame} {me : Method} {co : Code} {cx : CX}     (C : CM pp ss mm aa me co cX8_evening 5 RX8 cx ((some .int)))    (a1 : Int32) (a2 : Int32) (a3 : Int32) (m : Mm) : TI pp ll ee rm_X8_evening ss mm aa bb me co 5 cx wn 14 [(0, .ref (cx.2.2.1 + 1)), (1, .int a1), (2, .int a2)] [.int a3] m (F_X8_evening_14  a1 a2 a3 m) := by
  unfold F_X8_evening_14
  refine T_istore_n (lv' := [(3, .int a3), (0, .ref (cx.2.2.1 + 1)), (1, .int a1), (2, .int a2)]) C.1 dX8_evening_14 (by decide) rfl ?_
  refine T_iload_n C.1 dX8_evening_15 3 rfl ?_
  refine T_if_lt (tgt := 46) C.1 dX8_evening_16 (by decide) ?_ ?_
  · refine T_iconst C.1 dX8_evening_46 ?_
    exact T_iret C.1 C.2.1 C.2.2 dX8_evening_47
  · refine T_iload_n C.1 dX8_evening_19 3 rfl ?_
    refine T_iconst C.1 dX8_evening_20 ?_
    refine T_icmp_gt (tgt := 46) C.1 dX8_evening_21 (by decide) ?_ ?_
    · refine T_iconst C.1 dX8_evening_46 ?_
      exact T_iret C.1 C.2.1 C.2.2 dX8_evening_47
    · refine T_iload_n C.1 dX8_evening_24 0 rfl ?_
      refine T_if_eq (tgt := 42) C.1 dX8_evening_25 (by decide) ?_ ?_
      · refine T_iload_n C.1 dX8_evening_42 2 rfl ?_
        refine T_if_eq (tgt := 48) C.1 dX8_evening_43 (by decide) ?_ ?_
        · exact T_sub [1, 2, 3] rfl (t_X8_evening_48 hn C a1 a2 m)
        · refine T_iconst C.1 dX8_evening_46 ?_
          exact T_iret C.1 C.2.1 C.2.2 dX8_evening_47
      · refine T_aload_n C.1 dX8_evening_28 1 rfl ?_
        refine T_getR (x := 2) C.1 fd_X8_10 (fun _ _ _ _ => rfl) sh1 (Nat.le_trans le1 hn) (fun _ h => h) rfl (by decide) dX8_evening_29 ?_
        refine T_iload_n C.1 dX8_evening_32 2 rfl ?_
        refine T_callVI (rm := rm_X4_isOne) [.int a1] [] C.1 dX8_evening_33 mw_X4_isOne wm_2_93 wm_2_85 wm_2_86 ⟨Nat.le_of_ble_eq_true rfl, Nat.le_of_ble_eq_true rfl⟩ ⟨rfl, rfl⟩ ⟨Nat.zero_le _, Nat.zero_le _⟩ rfl rfl (Nat.le_of_ble_eq_true rfl) sh2 (Nat.le_trans le2 hn) ⟨rfl, rfl⟩ (c_X4_isOne hn ll cx a1 m) (fun v1 m2 => ?_)
        refine T_if_ne (tgt := 48) C.1 dX8_evening_36 (by decide) ?_ ?_
        · exact T_sub [1, 2, 3] rfl (t_X8_evening_48 hn C a1 a2 m2)
        · refine T_goto (tgt := 46) C.1 dX8_evening_39 (by decide) ?_
          refine T_iconst C.1 dX8_evening_46 ?_
          exact T_iret C.1 C.2.1 C.2.2 dX8_evening_47
def F_X8_evening_9  (a1 : Int32) (a2 : Int32) (m : Mm) : Option (Int32 × Mm) :=
  F_X8_evening_14 a1 a2 (iI 1) m
set_option maxRecDepth 100000 in
set_option maxHeartbeats 4000000 in
theorem t_X8_evening_9 {wn : Nat} (hn : NN ≤ wn) {pp : Program} {ll : Launch} {ee : Env} {ss : State} {mm : MethodId} {aa : Array Value} {bb : List Frame} {me : Method} {co : Code} {cx : CX}     (C : CM pp ss mm aa me co cX8_evening 5 RX8 cx ((some .int)))    (a1 : Int32) (a2 : Int32) (m : Mm) : TI pp ll ee rm_X8_evening ss mm aa bb me co 5 cx wn 9 [(0, .ref (cx.2.2.1 + 1)), (1, .int a1), (2, .int a2)] [] m (F_X8_evening_9  a1 a2 m) := by
  unfold F_X8_evening_9
  refine T_iconst C.1 dX8_evening_9 ?_
  refine T_goto (tgt := 14) C.1 dX8_evening_10 (by decide) ?_
  exact T_sub [0, 1, 2] rfl (t_X8_evening_14 hn C a1 a2 (iI 1) m)
def F_X8_evening  (x1 : Int32) (x2 : Int32) (m : Mm) : Option (Int32 × Mm) :=
  (if x2 = iI 0 then
    F_X8_evening_9 x1 x2 m
  else
    (if x2 = (iI 3) then
      F_X8_evening_9 x1 x2 m
    else
      F_X8_evening_14 x1 x2 (iI 0) m))
set_option maxRecDepth 100000 in
set_option maxHeartbeats 4000000 in
theorem c_X8_evening {wn : Nat} (hn : NN ≤ wn) (ll : Launch) (cx : CX) (x1 : Int32) (x2 : Int32) (m : Mm) : MT ll yX8_evening cX8_evening 5 ((some .int)) rm_X8_evening cx wn wn Lay cvI 0 0 [.ref (cx.2.2.1 + 1), .int x1, .int x2] m (F_X8_evening x1 x2 m) := by
  refine MT_of (by decide) (Nat.le_of_ble_eq_true rfl) ?_
  intro pp ee ss mm aa bb me co hK hr hk hn0
  have C : CM pp ss mm aa me co cX8_evening 5 RX8 cx ((some .int)) := ⟨hK, hr, hk⟩
  show TI pp ll ee rm_X8_evening ss mm aa bb me co 5 cx wn 0 [(0, .ref (cx.2.2.1 + 1)), (1, .int x1), (2, .int x2)] [] m (F_X8_evening x1 x2 m)
  unfold F_X8_evening
  refine T_iload_n C.1 dX8_evening_0 2 rfl ?_
  refine T_if_eq (tgt := 9) C.1 dX8_evening_1 (by decide) ?_ ?_
  · exact T_sub [0, 1, 2] rfl (t_X8_evening_9 hn C x1 x2 m)
  · refine T_iload_n C.1 dX8_evening_4 2 rfl ?_
    refine T_iconst C.1 dX8_evening_5 ?_
    refine T_icmp_ne (tgt := 13) C.1 dX8_evening_6 (by decide) ?_ ?_
    · refine T_iconst C.1 dX8_evening_13 ?_
      exact T_sub [0, 1, 2] rfl (t_X8_evening_14 hn C x1 x2 (iI 0) m)
    · exact T_sub [0, 1, 2] rfl (t_X8_evening_9 hn C x1 x2 m)
def rm_X8_exact : Room := { frames := 45, cells := 0, slots := 0, locals := 1132 }
def F_X8_exact_18  (a1 : Int32) (m : Mm) : Option (Int32 × Mm) :=
  (if (iI 3) < (gI m 2 0) then
    some ((iI (-5)), m)
  else
    (if (gI m 2 4) ≤ (iI 2) then
      bnd (F_X7_eachForItself 24 a1 m) fun v1 m2 =>
      some (v1, m2)
    else
      some ((iI (-5)), m)))
set_option maxRecDepth 100000 in
set_option maxHeartbeats 4000000 in
theorem t_X8_exact_18 {wn : Nat} (hn : NN ≤ wn) {pp : Program} {ll : Launch} {ee : Env} {ss : State} {mm : MethodId} {aa : Array Value} {bb : List Frame} {me : Method} {co : Code} {cx : CX}     (C : CM pp ss mm aa me co cX8_exact 2 RX8 cx ((some .int)))    (a1 : Int32) (m : Mm) : TI pp ll ee rm_X8_exact ss mm aa bb me co 2 cx wn 18 [(0, .ref (cx.2.2.1 + 1)), (1, .int a1)] [] m (F_X8_exact_18  a1 m) := by
  unfold F_X8_exact_18
  refine T_aload_n C.1 dX8_exact_18 0 rfl ?_
  refine T_getR (x := 2) C.1 fd_X8_10 (fun _ _ _ _ => rfl) sh1 (Nat.le_trans le1 hn) (fun _ h => h) rfl (by decide) dX8_exact_19 ?_
  refine T_getI C.1 fd_X8_71 (fun _ _ _ _ => rfl) sh2 (Nat.le_trans le2 hn) dX8_exact_22 ?_
  refine T_iconst C.1 dX8_exact_25 ?_
  refine T_icmp_gt (tgt := 40) C.1 dX8_exact_26 (by decide) ?_ ?_
  · refine T_bipush C.1 dX8_exact_40 rfl ?_
    exact T_iret C.1 C.2.1 C.2.2 dX8_exact_42
  · refine T_aload_n C.1 dX8_exact_29 0 rfl ?_
    refine T_getR (x := 2) C.1 fd_X8_10 (fun _ _ _ _ => rfl) sh1 (Nat.le_trans le1 hn) (fun _ h => h) rfl (by decide) dX8_exact_30 ?_
    refine T_getI C.1 fd_X8_199 (fun _ _ _ _ => rfl) sh2 (Nat.le_trans le2 hn) dX8_exact_33 ?_
    refine T_iconst C.1 dX8_exact_36 ?_
    refine T_icmp_le (tgt := 43) C.1 dX8_exact_37 (by decide) ?_ ?_
    · refine T_aload_n C.1 dX8_exact_43 0 rfl ?_
      refine T_getR (x := 33) C.1 fd_X8_45 (fun _ _ _ _ => rfl) sh1 (Nat.le_trans le1 hn) (fun _ h => h) rfl (by decide) dX8_exact_44 ?_
      refine T_aload_n C.1 dX8_exact_47 0 rfl ?_
      refine T_getR (x := 23) C.1 fd_X8_33 (fun _ _ _ _ => rfl) sh1 (Nat.le_trans le1 hn) (fun _ h => h) rfl (by decide) dX8_exact_48 ?_
      refine T_getR (x := 24) C.1 fd_X8_110 (fun _ _ _ _ => rfl) sh23 (Nat.le_trans le23 hn) (fun _ h => h) rfl (by decide) dX8_exact_51 ?_
      refine T_iload_n C.1 dX8_exact_54 1 rfl ?_
      refine T_callVI (rm := rm_X7_eachForItself) [.ref (cx.2.2.1 + 24), .int a1] [] C.1 dX8_exact_55 mw_X7_eachForItself wm_2_233 wm_2_234 wm_2_235 ⟨Nat.le_of_ble_eq_true rfl, Nat.le_of_ble_eq_true rfl⟩ ⟨rfl, rfl⟩ ⟨Nat.zero_le _, Nat.zero_le _⟩ rfl rfl (Nat.le_of_ble_eq_true rfl) sh33 (Nat.le_trans le33 hn) ⟨rfl, rfl⟩ (c_X7_eachForItself hn ll cx 24 a1 m) (fun v1 m2 => ?_)
      exact T_iret C.1 C.2.1 C.2.2 dX8_exact_58
    · refine T_bipush C.1 dX8_exact_40 rfl ?_
      exact T_iret C.1 C.2.1 C.2.2 dX8_exact_42
def F_X8_exact  (x1 : Int32) (m : Mm) : Option (Int32 × Mm) :=
  (if x1 = (iI (-1)) then
    F_X8_exact_18 x1 m
  else
    bnd (F_X4_isOne x1 m) fun v1 m2 =>
    (if v1 = iI 0 then
      some ((iI (-1)), m2)
    else
      F_X8_exact_18 x1 m2))
set_option maxRecDepth 100000 in
set_option maxHeartbeats 4000000 in
theorem c_X8_exact {wn : Nat} (hn : NN ≤ wn) (ll : Launch) (cx : CX) (x1 : Int32) (m : Mm) : MT ll yX8_exact cX8_exact 2 ((some .int)) rm_X8_exact cx wn wn Lay cvI 0 0 [.ref (cx.2.2.1 + 1), .int x1] m (F_X8_exact x1 m) := by
  refine MT_of (by decide) (Nat.le_of_ble_eq_true rfl) ?_
  intro pp ee ss mm aa bb me co hK hr hk hn0
  have C : CM pp ss mm aa me co cX8_exact 2 RX8 cx ((some .int)) := ⟨hK, hr, hk⟩
  show TI pp ll ee rm_X8_exact ss mm aa bb me co 2 cx wn 0 [(0, .ref (cx.2.2.1 + 1)), (1, .int x1)] [] m (F_X8_exact x1 m)
  unfold F_X8_exact
  refine T_iload_n C.1 dX8_exact_0 1 rfl ?_
  refine T_iconst C.1 dX8_exact_1 ?_
  refine T_icmp_eq (tgt := 18) C.1 dX8_exact_2 (by decide) ?_ ?_
  · exact T_sub [0, 1] rfl (t_X8_exact_18 hn C x1 m)
  · refine T_aload_n C.1 dX8_exact_5 0 rfl ?_
    refine T_getR (x := 2) C.1 fd_X8_10 (fun _ _ _ _ => rfl) sh1 (Nat.le_trans le1 hn) (fun _ h => h) rfl (by decide) dX8_exact_6 ?_
    refine T_iload_n C.1 dX8_exact_9 1 rfl ?_
    refine T_callVI (rm := rm_X4_isOne) [.int x1] [] C.1 dX8_exact_10 mw_X4_isOne wm_2_93 wm_2_85 wm_2_86 ⟨Nat.le_of_ble_eq_true rfl, Nat.le_of_ble_eq_true rfl⟩ ⟨rfl, rfl⟩ ⟨Nat.zero_le _, Nat.zero_le _⟩ rfl rfl (Nat.le_of_ble_eq_true rfl) sh2 (Nat.le_trans le2 hn) ⟨rfl, rfl⟩ (c_X4_isOne hn ll cx x1 m) (fun v1 m2 => ?_)
    refine T_if_ne (tgt := 18) C.1 dX8_exact_13 (by decide) ?_ ?_
    · exact T_sub [0, 1] rfl (t_X8_exact_18 hn C x1 m2)
    · refine T_iconst C.1 dX8_exact_16 ?_
      exact T_iret C.1 C.2.1 C.2.2 dX8_exact_17
def rm_X8_best : Room := { frames := 5, cells := 0, slots := 0, locals := 135 }
def F_X8_best_18  (a1 : Int32) (m : Mm) : Option (Int32 × Mm) :=
  bnd (F_X7_bestParting a1 m) fun v1 m2 =>
  some (v1, m2)
set_option maxRecDepth 100000 in
set_option maxHeartbeats 4000000 in
theorem t_X8_best_18 {wn : Nat} (hn : NN ≤ wn) {pp : Program} {ll : Launch} {ee : Env} {ss : State} {mm : MethodId} {aa : Array Value} {bb : List Frame} {me : Method} {co : Code} {cx : CX}     (C : CM pp ss mm aa me co cX8_best 2 RX8 cx ((some .int)))    (a1 : Int32) (m : Mm) : TI pp ll ee rm_X8_best ss mm aa bb me co 2 cx wn 18 [(0, .ref (cx.2.2.1 + 1)), (1, .int a1)] [] m (F_X8_best_18  a1 m) := by
  unfold F_X8_best_18
  refine T_aload_n C.1 dX8_best_18 0 rfl ?_
  refine T_getR (x := 33) C.1 fd_X8_45 (fun _ _ _ _ => rfl) sh1 (Nat.le_trans le1 hn) (fun _ h => h) rfl (by decide) dX8_best_19 ?_
  refine T_iload_n C.1 dX8_best_22 1 rfl ?_
  refine T_callVI (rm := rm_X7_bestParting) [.int a1] [] C.1 dX8_best_23 mw_X7_bestParting wm_3_23 wm_3_24 wm_3_25 ⟨Nat.le_of_ble_eq_true rfl, Nat.le_of_ble_eq_true rfl⟩ ⟨rfl, rfl⟩ ⟨Nat.zero_le _, Nat.zero_le _⟩ rfl rfl (Nat.le_of_ble_eq_true rfl) sh33 (Nat.le_trans le33 hn) ⟨rfl, rfl⟩ (c_X7_bestParting hn ll cx a1 m) (fun v1 m2 => ?_)
  exact T_iret C.1 C.2.1 C.2.2 dX8_best_26
def F_X8_best  (x1 : Int32) (m : Mm) : Option (Int32 × Mm) :=
  (if x1 = (iI (-1)) then
    F_X8_best_18 x1 m
  else
    bnd (F_X4_isOne x1 m) fun v1 m2 =>
    (if v1 = iI 0 then
      some ((iI (-1)), m2)
    else
      F_X8_best_18 x1 m2))
set_option maxRecDepth 100000 in
set_option maxHeartbeats 4000000 in
theorem c_X8_best {wn : Nat} (hn : NN ≤ wn) (ll : Launch) (cx : CX) (x1 : Int32) (m : Mm) : MT ll yX8_best cX8_best 2 ((some .int)) rm_X8_best cx wn wn Lay cvI 0 0 [.ref (cx.2.2.1 + 1), .int x1] m (F_X8_best x1 m) := by
  refine MT_of (by decide) (Nat.le_of_ble_eq_true rfl) ?_
  intro pp ee ss mm aa bb me co hK hr hk hn0
  have C : CM pp ss mm aa me co cX8_best 2 RX8 cx ((some .int)) := ⟨hK, hr, hk⟩
  show TI pp ll ee rm_X8_best ss mm aa bb me co 2 cx wn 0 [(0, .ref (cx.2.2.1 + 1)), (1, .int x1)] [] m (F_X8_best x1 m)
  unfold F_X8_best
  refine T_iload_n C.1 dX8_best_0 1 rfl ?_
  refine T_iconst C.1 dX8_best_1 ?_
  refine T_icmp_eq (tgt := 18) C.1 dX8_best_2 (by decide) ?_ ?_
  · exact T_sub [0, 1] rfl (t_X8_best_18 hn C x1 m)
  · refine T_aload_n C.1 dX8_best_5 0 rfl ?_
    refine T_getR (x := 2) C.1 fd_X8_10 (fun _ _ _ _ => rfl) sh1 (Nat.le_trans le1 hn) (fun _ h => h) rfl (by decide) dX8_best_6 ?_
    refine T_iload_n C.1 dX8_best_9 1 rfl ?_
    refine T_callVI (rm := rm_X4_isOne) [.int x1] [] C.1 dX8_best_10 mw_X4_isOne wm_2_93 wm_2_85 wm_2_86 ⟨Nat.le_of_ble_eq_true rfl, Nat.le_of_ble_eq_true rfl⟩ ⟨rfl, rfl⟩ ⟨Nat.zero_le _, Nat.zero_le _⟩ rfl rfl (Nat.le_of_ble_eq_true rfl) sh2 (Nat.le_trans le2 hn) ⟨rfl, rfl⟩ (c_X4_isOne hn ll cx x1 m) (fun v1 m2 => ?_)
    refine T_if_ne (tgt := 18) C.1 dX8_best_13 (by decide) ?_ ?_
    · exact T_sub [0, 1] rfl (t_X8_best_18 hn C x1 m2)
    · refine T_iconst C.1 dX8_best_16 ?_
      exact T_iret C.1 C.2.1 C.2.2 dX8_best_17
def rm_X8_pairs : Room := { frames := 7, cells := 0, slots := 0, locals := 192 }
def F_X8_pairs   (m : Mm) : Option (Int32 × Mm) :=
  bnd (F_X7_pairsWhoWouldChange 24 m) fun v1 m2 =>
  some (v1, m2)
set_option maxRecDepth 100000 in
set_option maxHeartbeats 4000000 in
theorem c_X8_pairs {wn : Nat} (hn : NN ≤ wn) (ll : Launch) (cx : CX)  (m : Mm) : MT ll yX8_pairs cX8_pairs 1 ((some .int)) rm_X8_pairs cx wn wn Lay cvI 0 0 [.ref (cx.2.2.1 + 1)] m (F_X8_pairs  m) := by
  refine MT_of (by decide) (Nat.le_of_ble_eq_true rfl) ?_
  intro pp ee ss mm aa bb me co hK hr hk hn0
  have C : CM pp ss mm aa me co cX8_pairs 1 RX8 cx ((some .int)) := ⟨hK, hr, hk⟩
  show TI pp ll ee rm_X8_pairs ss mm aa bb me co 1 cx wn 0 [(0, .ref (cx.2.2.1 + 1))] [] m (F_X8_pairs  m)
  unfold F_X8_pairs
  refine T_aload_n C.1 dX8_pairs_0 0 rfl ?_
  refine T_getR (x := 33) C.1 fd_X8_45 (fun _ _ _ _ => rfl) sh1 (Nat.le_trans le1 hn) (fun _ h => h) rfl (by decide) dX8_pairs_1 ?_
  refine T_aload_n C.1 dX8_pairs_4 0 rfl ?_
  refine T_getR (x := 23) C.1 fd_X8_33 (fun _ _ _ _ => rfl) sh1 (Nat.le_trans le1 hn) (fun _ h => h) rfl (by decide) dX8_pairs_5 ?_
  refine T_getR (x := 24) C.1 fd_X8_110 (fun _ _ _ _ => rfl) sh23 (Nat.le_trans le23 hn) (fun _ h => h) rfl (by decide) dX8_pairs_8 ?_
  refine T_callVI (rm := rm_X7_pairsWhoWouldChange) [.ref (cx.2.2.1 + 24)] [] C.1 dX8_pairs_11 mw_X7_pairsWhoWouldChange wm_3_50 wm_3_51 wm_3_52 ⟨Nat.le_of_ble_eq_true rfl, Nat.le_of_ble_eq_true rfl⟩ ⟨rfl, rfl⟩ ⟨Nat.zero_le _, Nat.zero_le _⟩ rfl rfl (Nat.le_of_ble_eq_true rfl) sh33 (Nat.le_trans le33 hn) ⟨rfl, rfl⟩ (c_X7_pairsWhoWouldChange hn ll cx 24 m) (fun v1 m2 => ?_)
  exact T_iret C.1 C.2.1 C.2.2 dX8_pairs_14
def rm_X8_face : Room := { frames := 7, cells := 0, slots := 0, locals := 191 }
def F_X8_face  (x1 : Int32) (m : Mm) : Option (Int32 × Mm) :=
  bnd (F_X4_isOne x1 m) fun v1 m2 =>
  (if v1 = iI 0 then
    some ((iI (-1)), m2)
  else
    bnd (F_X7_leastFace 24 x1 m2) fun v3 m4 =>
    some (v3, m4))
set_option maxRecDepth 100000 in
set_option maxHeartbeats 4000000 in
theorem c_X8_face {wn : Nat} (hn : NN ≤ wn) (ll : Launch) (cx : CX) (x1 : Int32) (m : Mm) : MT ll yX8_face cX8_face 2 ((some .int)) rm_X8_face cx wn wn Lay cvI 0 0 [.ref (cx.2.2.1 + 1), .int x1] m (F_X8_face x1 m) := by
  refine MT_of (by decide) (Nat.le_of_ble_eq_true rfl) ?_
  intro pp ee ss mm aa bb me co hK hr hk hn0
  have C : CM pp ss mm aa me co cX8_face 2 RX8 cx ((some .int)) := ⟨hK, hr, hk⟩
  show TI pp ll ee rm_X8_face ss mm aa bb me co 2 cx wn 0 [(0, .ref (cx.2.2.1 + 1)), (1, .int x1)] [] m (F_X8_face x1 m)
  unfold F_X8_face
  refine T_aload_n C.1 dX8_face_0 0 rfl ?_
  refine T_getR (x := 2) C.1 fd_X8_10 (fun _ _ _ _ => rfl) sh1 (Nat.le_trans le1 hn) (fun _ h => h) rfl (by decide) dX8_face_1 ?_
  refine T_iload_n C.1 dX8_face_4 1 rfl ?_
  refine T_callVI (rm := rm_X4_isOne) [.int x1] [] C.1 dX8_face_5 mw_X4_isOne wm_2_93 wm_2_85 wm_2_86 ⟨Nat.le_of_ble_eq_true rfl, Nat.le_of_ble_eq_true rfl⟩ ⟨rfl, rfl⟩ ⟨Nat.zero_le _, Nat.zero_le _⟩ rfl rfl (Nat.le_of_ble_eq_true rfl) sh2 (Nat.le_trans le2 hn) ⟨rfl, rfl⟩ (c_X4_isOne hn ll cx x1 m) (fun v1 m2 => ?_)
  refine T_if_eq (tgt := 29) C.1 dX8_face_8 (by decide) ?_ ?_
  · refine T_iconst C.1 dX8_face_29 ?_
    exact T_iret C.1 C.2.1 C.2.2 dX8_face_30
  · refine T_aload_n C.1 dX8_face_11 0 rfl ?_
    refine T_getR (x := 33) C.1 fd_X8_45 (fun _ _ _ _ => rfl) sh1 (Nat.le_trans le1 hn) (fun _ h => h) rfl (by decide) dX8_face_12 ?_
    refine T_aload_n C.1 dX8_face_15 0 rfl ?_
    refine T_getR (x := 23) C.1 fd_X8_33 (fun _ _ _ _ => rfl) sh1 (Nat.le_trans le1 hn) (fun _ h => h) rfl (by decide) dX8_face_16 ?_
    refine T_getR (x := 24) C.1 fd_X8_110 (fun _ _ _ _ => rfl) sh23 (Nat.le_trans le23 hn) (fun _ h => h) rfl (by decide) dX8_face_19 ?_
    refine T_iload_n C.1 dX8_face_22 1 rfl ?_
    refine T_callVI (rm := rm_X7_leastFace) [.ref (cx.2.2.1 + 24), .int x1] [] C.1 dX8_face_23 mw_X7_leastFace wm_3_63 wm_3_64 wm_3_65 ⟨Nat.le_of_ble_eq_true rfl, Nat.le_of_ble_eq_true rfl⟩ ⟨rfl, rfl⟩ ⟨Nat.zero_le _, Nat.zero_le _⟩ rfl rfl (Nat.le_of_ble_eq_true rfl) sh33 (Nat.le_trans le33 hn) ⟨rfl, rfl⟩ (c_X7_leastFace hn ll cx 24 x1 m2) (fun v3 m4 => ?_)
    refine T_goto (tgt := 30) C.1 dX8_face_26 (by decide) ?_
    exact T_iret C.1 C.2.1 C.2.2 dX8_face_30
def rm_X8_numbers : Room := { frames := 7, cells := 0, slots := 0, locals := 195 }
def F_X8_numbers_29  (a1 : Int32) (a2 : Int32) (a3 : Int32) (m : Mm) : Option (Int32 × Mm) :=
  bnd (F_X7_drawNumbers 24 a1 a2 m) fun _ m2 =>
  (if a3 = (iI (-1)) then
    bnd (F_X7_unlike m2) fun v4 m5 =>
    some (v4, m5)
  else
    rd 7 a3 fun j3 =>
    some ((gI m2 49 j3), m2))
set_option maxRecDepth 100000 in
set_option maxHeartbeats 4000000 in
theorem t_X8_numbers_29 {wn : Nat} (hn : NN ≤ wn) {pp : Program} {ll : Launch} {ee : Env} {ss : State} {mm : MethodId} {aa : Array Value} {bb : List Frame} {me : Method} {co : Code} {cx : CX}     (C : CM pp ss mm aa me co cX8_numbers 4 RX8 cx ((some .int)))    (a1 : Int32) (a2 : Int32) (a3 : Int32) (m : Mm) : TI pp ll ee rm_X8_numbers ss mm aa bb me co 4 cx wn 29 [(0, .ref (cx.2.2.1 + 1)), (1, .int a1), (2, .int a2), (3, .int a3)] [] m (F_X8_numbers_29  a1 a2 a3 m) := by
  unfold F_X8_numbers_29
  refine T_aload_n C.1 dX8_numbers_29 0 rfl ?_
  refine T_getR (x := 33) C.1 fd_X8_45 (fun _ _ _ _ => rfl) sh1 (Nat.le_trans le1 hn) (fun _ h => h) rfl (by decide) dX8_numbers_30 ?_
  refine T_aload_n C.1 dX8_numbers_33 0 rfl ?_
  refine T_getR (x := 23) C.1 fd_X8_33 (fun _ _ _ _ => rfl) sh1 (Nat.le_trans le1 hn) (fun _ h => h) rfl (by decide) dX8_numbers_34 ?_
  refine T_getR (x := 24) C.1 fd_X8_110 (fun _ _ _ _ => rfl) sh23 (Nat.le_trans le23 hn) (fun _ h => h) rfl (by decide) dX8_numbers_37 ?_
  refine T_iload_n C.1 dX8_numbers_40 1 rfl ?_
  refine T_iload_n C.1 dX8_numbers_41 2 rfl ?_
  refine T_callVV (rm := rm_X7_drawNumbers) [.ref (cx.2.2.1 + 24), .int a1, .int a2] [] C.1 dX8_numbers_42 mw_X7_drawNumbers wm_3_75 wm_3_76 wm_3_77 ⟨Nat.le_of_ble_eq_true rfl, Nat.le_of_ble_eq_true rfl⟩ ⟨rfl, rfl⟩ ⟨Nat.zero_le _, Nat.zero_le _⟩ rfl rfl (Nat.le_of_ble_eq_true rfl) sh33 (Nat.le_trans le33 hn) ⟨rfl, rfl⟩ (c_X7_drawNumbers hn ll cx 24 a1 a2 m) (fun u1 m2 => ?_)
  refine T_iload_n C.1 dX8_numbers_45 3 rfl ?_
  refine T_iconst C.1 dX8_numbers_46 ?_
  refine T_icmp_ne (tgt := 60) C.1 dX8_numbers_47 (by decide) ?_ ?_
  · refine T_aload_n C.1 dX8_numbers_60 0 rfl ?_
    refine T_getR (x := 33) C.1 fd_X8_45 (fun _ _ _ _ => rfl) sh1 (Nat.le_trans le1 hn) (fun _ h => h) rfl (by decide) dX8_numbers_61 ?_
    refine T_getR (x := 49) C.1 fd_X8_223 (fun _ _ _ _ => rfl) sh33 (Nat.le_trans le33 hn) (fun _ h => h) rfl (by decide) dX8_numbers_64 ?_
    refine T_iload_n C.1 dX8_numbers_67 3 rfl ?_
    refine T_iald C.1 dX8_numbers_68 sh49 (Nat.le_trans le49 hn) (fun j3 => ?_)
    exact T_iret C.1 C.2.1 C.2.2 dX8_numbers_69
  · refine T_aload_n C.1 dX8_numbers_50 0 rfl ?_
    refine T_getR (x := 33) C.1 fd_X8_45 (fun _ _ _ _ => rfl) sh1 (Nat.le_trans le1 hn) (fun _ h => h) rfl (by decide) dX8_numbers_51 ?_
    refine T_callVI (rm := rm_X7_unlike) [] [] C.1 dX8_numbers_54 mw_X7_unlike wm_3_81 wm_3_82 wm_3_83 ⟨Nat.le_of_ble_eq_true rfl, Nat.le_of_ble_eq_true rfl⟩ ⟨rfl, rfl⟩ ⟨Nat.zero_le _, Nat.zero_le _⟩ rfl rfl (Nat.le_of_ble_eq_true rfl) sh33 (Nat.le_trans le33 hn) ⟨rfl, rfl⟩ (c_X7_unlike hn ll cx m2) (fun v4 m5 => ?_)
    refine T_goto (tgt := 69) C.1 dX8_numbers_57 (by decide) ?_
    exact T_iret C.1 C.2.1 C.2.2 dX8_numbers_69
def F_X8_numbers  (x1 : Int32) (x2 : Int32) (x3 : Int32) (m : Mm) : Option (Int32 × Mm) :=
  (if x2 < (iI 1) then
    some ((iI (-1)), m)
  else
    (if (iI 30) < x2 then
      some ((iI (-1)), m)
    else
      (if x3 = (iI (-1)) then
        F_X8_numbers_29 x1 x2 x3 m
      else
        bnd (F_X4_isOne x3 m) fun v1 m2 =>
        (if v1 = iI 0 then
          some ((iI (-1)), m2)
        else
          F_X8_numbers_29 x1 x2 x3 m2))))
set_option maxRecDepth 100000 in
set_option maxHeartbeats 4000000 in
theorem c_X8_numbers {wn : Nat} (hn : NN ≤ wn) (ll : Launch) (cx : CX) (x1 : Int32) (x2 : Int32) (x3 : Int32) (m : Mm) : MT ll yX8_numbers cX8_numbers 4 ((some .int)) rm_X8_numbers cx wn wn Lay cvI 0 0 [.ref (cx.2.2.1 + 1), .int x1, .int x2, .int x3] m (F_X8_numbers x1 x2 x3 m) := by
  refine MT_of (by decide) (Nat.le_of_ble_eq_true rfl) ?_
  intro pp ee ss mm aa bb me co hK hr hk hn0
  have C : CM pp ss mm aa me co cX8_numbers 4 RX8 cx ((some .int)) := ⟨hK, hr, hk⟩
  show TI pp ll ee rm_X8_numbers ss mm aa bb me co 4 cx wn 0 [(0, .ref (cx.2.2.1 + 1)), (1, .int x1), (2, .int x2), (3, .int x3)] [] m (F_X8_numbers x1 x2 x3 m)
  unfold F_X8_numbers
  refine T_iload_n C.1 dX8_numbers_0 2 rfl ?_
  refine T_iconst C.1 dX8_numbers_1 ?_
  refine T_icmp_lt (tgt := 27) C.1 dX8_numbers_2 (by decide) ?_ ?_
  · refine T_iconst C.1 dX8_numbers_27 ?_
    exact T_iret C.1 C.2.1 C.2.2 dX8_numbers_28
  · refine T_iload_n C.1 dX8_numbers_5 2 rfl ?_
    refine T_bipush C.1 dX8_numbers_6 rfl ?_
    refine T_icmp_gt (tgt := 27) C.1 dX8_numbers_8 (by decide) ?_ ?_
    · refine T_iconst C.1 dX8_numbers_27 ?_
      exact T_iret C.1 C.2.1 C.2.2 dX8_numbers_28
    · refine T_iload_n C.1 dX8_numbers_11 3 rfl ?_
      refine T_iconst C.1 dX8_numbers_12 ?_
      refine T_icmp_eq (tgt := 29) C.1 dX8_numbers_13 (by decide) ?_ ?_
      · exact T_sub [0, 1, 2, 3] rfl (t_X8_numbers_29 hn C x1 x2 x3 m)
      · refine T_aload_n C.1 dX8_numbers_16 0 rfl ?_
        refine T_getR (x := 2) C.1 fd_X8_10 (fun _ _ _ _ => rfl) sh1 (Nat.le_trans le1 hn) (fun _ h => h) rfl (by decide) dX8_numbers_17 ?_
        refine T_iload_n C.1 dX8_numbers_20 3 rfl ?_
        refine T_callVI (rm := rm_X4_isOne) [.int x3] [] C.1 dX8_numbers_21 mw_X4_isOne wm_2_93 wm_2_85 wm_2_86 ⟨Nat.le_of_ble_eq_true rfl, Nat.le_of_ble_eq_true rfl⟩ ⟨rfl, rfl⟩ ⟨Nat.zero_le _, Nat.zero_le _⟩ rfl rfl (Nat.le_of_ble_eq_true rfl) sh2 (Nat.le_trans le2 hn) ⟨rfl, rfl⟩ (c_X4_isOne hn ll cx x3 m) (fun v1 m2 => ?_)
        refine T_if_ne (tgt := 29) C.1 dX8_numbers_24 (by decide) ?_ ?_
        · exact T_sub [0, 1, 2, 3] rfl (t_X8_numbers_29 hn C x1 x2 x3 m2)
        · refine T_iconst C.1 dX8_numbers_27 ?_
          exact T_iret C.1 C.2.1 C.2.2 dX8_numbers_28
def rm_X8_judge : Room := { frames := 6, cells := 0, slots := 0, locals := 167 }
def F_X8_judge  (x1 : Int32) (m : Mm) : Option (Int32 × Mm) :=
  bnd (F_X5_refusalOfBytes x1 m) fun v1 m2 =>
  (if v1 = iI 0 then
    rd 6 x1 fun j3 =>
    rd 6 x1 fun j4 =>
    bnd (F_X7_hear (107 + 1 * j3) (gI m2 105 j4) m2) fun _ m6 =>
    bnd (F_X7_eveningBy 24 m6) fun q7 m8 =>
    gdS (9, 2) q7 fun q7 =>
    bnd (F_X7_firstUnlikeTold q7 m8) fun v9 m10 =>
    some (v9, m10)
  else
    some (v1, m2))
set_option maxRecDepth 100000 in
set_option maxHeartbeats 4000000 in
theorem c_X8_judge {wn : Nat} (hn : NN ≤ wn) (ll : Launch) (cx : CX) (x1 : Int32) (m : Mm) : MT ll yX8_judge cX8_judge 3 ((some .int)) rm_X8_judge cx wn wn Lay cvI 0 0 [.ref (cx.2.2.1 + 1), .int x1] m (F_X8_judge x1 m) := by
  refine MT_of (by decide) (Nat.le_of_ble_eq_true rfl) ?_
  intro pp ee ss mm aa bb me co hK hr hk hn0
  have C : CM pp ss mm aa me co cX8_judge 3 RX8 cx ((some .int)) := ⟨hK, hr, hk⟩
  show TI pp ll ee rm_X8_judge ss mm aa bb me co 3 cx wn 0 [(0, .ref (cx.2.2.1 + 1)), (1, .int x1)] [] m (F_X8_judge x1 m)
  unfold F_X8_judge
  refine T_aload_n C.1 dX8_judge_0 0 rfl ?_
  refine T_getR (x := 103) C.1 fd_X8_59 (fun _ _ _ _ => rfl) sh1 (Nat.le_trans le1 hn) (fun _ h => h) rfl (by decide) dX8_judge_1 ?_
  refine T_iload_n C.1 dX8_judge_4 1 rfl ?_
  refine T_callVI (rm := rm_X5_refusalOfBytes) [.int x1] [] C.1 dX8_judge_5 mw_X5_refusalOfBytes wm_3_92 wm_3_93 wm_3_94 ⟨Nat.le_of_ble_eq_true rfl, Nat.le_of_ble_eq_true rfl⟩ ⟨rfl, rfl⟩ ⟨Nat.zero_le _, Nat.zero_le _⟩ rfl rfl (Nat.le_of_ble_eq_true rfl) sh103 (Nat.le_trans le103 hn) ⟨rfl, rfl⟩ (c_X5_refusalOfBytes hn ll cx x1 m) (fun v1 m2 => ?_)
  refine T_istore_n (lv' := [(2, .int v1), (0, .ref (cx.2.2.1 + 1)), (1, .int x1)]) C.1 dX8_judge_8 (by decide) rfl ?_
  refine T_iload_n C.1 dX8_judge_9 0 rfl ?_
  refine T_if_eq (tgt := 15) C.1 dX8_judge_10 (by decide) ?_ ?_
  · refine T_aload_n C.1 dX8_judge_15 1 rfl ?_
    refine T_getR (x := 33) C.1 fd_X8_45 (fun _ _ _ _ => rfl) sh1 (Nat.le_trans le1 hn) (fun _ h => h) rfl (by decide) dX8_judge_16 ?_
    refine T_aload_n C.1 dX8_judge_19 1 rfl ?_
    refine T_getR (x := 103) C.1 fd_X8_59 (fun _ _ _ _ => rfl) sh1 (Nat.le_trans le1 hn) (fun _ h => h) rfl (by decide) dX8_judge_20 ?_
    refine T_getR (x := 106) C.1 fd_X8_226 (fun _ _ _ _ => rfl) sh103 (Nat.le_trans le103 hn) (fun _ h => h) rfl (by decide) dX8_judge_23 ?_
    refine T_iload_n C.1 dX8_judge_26 2 rfl ?_
    refine T_aald (x := fun j => 107 + 1 * j) C.1 dX8_judge_27 (by decide) sh106 (Nat.le_trans le106 hn) (fun _ h => h) ar106 (fun j3 hj3 => ?_)
    refine T_aload_n C.1 dX8_judge_28 1 rfl ?_
    refine T_getR (x := 103) C.1 fd_X8_59 (fun _ _ _ _ => rfl) sh1 (Nat.le_trans le1 hn) (fun _ h => h) rfl (by decide) dX8_judge_29 ?_
    refine T_getR (x := 105) C.1 fd_X8_230 (fun _ _ _ _ => rfl) sh103 (Nat.le_trans le103 hn) (fun _ h => h) rfl (by decide) dX8_judge_32 ?_
    refine T_iload_n C.1 dX8_judge_35 2 rfl ?_
    refine T_iald C.1 dX8_judge_36 sh105 (Nat.le_trans le105 hn) (fun j4 => ?_)
    refine T_callVV (rm := rm_X7_hear) [.ref (cx.2.2.1 + (107 + 1 * j3)), .int (gI m2 105 j4)] [] C.1 dX8_judge_37 mw_X7_hear wm_3_104 wm_3_105 wm_3_106 ⟨Nat.le_of_ble_eq_true rfl, Nat.le_of_ble_eq_true rfl⟩ ⟨rfl, rfl⟩ ⟨Nat.zero_le _, Nat.zero_le _⟩ rfl rfl (Nat.le_of_ble_eq_true rfl) sh33 (Nat.le_trans le33 hn) ⟨rfl, rfl⟩ (c_X7_hear hn ll cx (107 + 1 * j3) (gI m2 105 j4) m2) (fun u5 m6 => ?_)
    refine T_aload_n C.1 dX8_judge_40 1 rfl ?_
    refine T_getR (x := 33) C.1 fd_X8_45 (fun _ _ _ _ => rfl) sh1 (Nat.le_trans le1 hn) (fun _ h => h) rfl (by decide) dX8_judge_41 ?_
    refine T_aload_n C.1 dX8_judge_44 1 rfl ?_
    refine T_getR (x := 33) C.1 fd_X8_45 (fun _ _ _ _ => rfl) sh1 (Nat.le_trans le1 hn) (fun _ h => h) rfl (by decide) dX8_judge_45 ?_
    refine T_aload_n C.1 dX8_judge_48 1 rfl ?_
    refine T_getR (x := 23) C.1 fd_X8_33 (fun _ _ _ _ => rfl) sh1 (Nat.le_trans le1 hn) (fun _ h => h) rfl (by decide) dX8_judge_49 ?_
    refine T_getR (x := 24) C.1 fd_X8_110 (fun _ _ _ _ => rfl) sh23 (Nat.le_trans le23 hn) (fun _ h => h) rfl (by decide) dX8_judge_52 ?_
    refine T_callVR (rm := rm_X7_eveningBy) [.ref (cx.2.2.1 + 24)] [.ref (cx.2.2.1 + 33)] C.1 dX8_judge_55 mw_X7_eveningBy wm_2_206 wm_2_207 wm_2_208 ⟨Nat.le_of_ble_eq_true rfl, Nat.le_of_ble_eq_true rfl⟩ ⟨rfl, rfl⟩ ⟨Nat.zero_le _, Nat.zero_le _⟩ rfl rfl (Nat.le_of_ble_eq_true rfl) sh33 (Nat.le_trans le33 hn) ⟨rfl, rfl⟩ (c_X7_eveningBy hn ll cx 24 m6) (fun q7 m8 => ?_)
    refine T_gdS (fun hq7 => ?_)
    refine T_callVI (rm := rm_X7_firstUnlikeTold) [.ref (cx.2.2.1 + q7)] [] C.1 dX8_judge_58 mw_X7_firstUnlikeTold wm_3_108 wm_3_109 wm_3_110 ⟨Nat.le_of_ble_eq_true rfl, Nat.le_of_ble_eq_true rfl⟩ ⟨rfl, rfl⟩ ⟨Nat.zero_le _, Nat.zero_le _⟩ rfl rfl (Nat.le_of_ble_eq_true rfl) sh33 (Nat.le_trans le33 hn) ⟨rfl, rfl⟩ (c_X7_firstUnlikeTold hn ll cx q7 m8) (fun v9 m10 => ?_)
    exact T_iret C.1 C.2.1 C.2.2 dX8_judge_61
  · refine T_iload_n C.1 dX8_judge_13 0 rfl ?_
    exact T_iret C.1 C.2.1 C.2.2 dX8_judge_14
def rm_X8_lots : Room := { frames := 47, cells := 0, slots := 0, locals := 1231 }
def F_X8_lots  (x1 : Int32) (m : Mm) : Option (Int32 × Mm) :=
  bnd (F_X5_refusalOfBytes x1 m) fun v1 m2 =>
  (if v1 = iI 0 then
    rd 6 x1 fun j3 =>
    rd 6 x1 fun j4 =>
    bnd (F_X7_hear (107 + 1 * j3) (gI m2 105 j4) m2) fun _ m6 =>
    bnd (F_X7_lotsAsTold m6) fun v7 m8 =>
    some (v7, m8)
  else
    some (v1, m2))
set_option maxRecDepth 100000 in
set_option maxHeartbeats 4000000 in
theorem c_X8_lots {wn : Nat} (hn : NN ≤ wn) (ll : Launch) (cx : CX) (x1 : Int32) (m : Mm) : MT ll yX8_lots cX8_lots 3 ((some .int)) rm_X8_lots cx wn wn Lay cvI 0 0 [.ref (cx.2.2.1 + 1), .int x1] m (F_X8_lots x1 m) := by
  refine MT_of (by decide) (Nat.le_of_ble_eq_true rfl) ?_
  intro pp ee ss mm aa bb me co hK hr hk hn0
  have C : CM pp ss mm aa me co cX8_lots 3 RX8 cx ((some .int)) := ⟨hK, hr, hk⟩
  show TI pp ll ee rm_X8_lots ss mm aa bb me co 3 cx wn 0 [(0, .ref (cx.2.2.1 + 1)), (1, .int x1)] [] m (F_X8_lots x1 m)
  unfold F_X8_lots
  refine T_aload_n C.1 dX8_lots_0 0 rfl ?_
  refine T_getR (x := 103) C.1 fd_X8_59 (fun _ _ _ _ => rfl) sh1 (Nat.le_trans le1 hn) (fun _ h => h) rfl (by decide) dX8_lots_1 ?_
  refine T_iload_n C.1 dX8_lots_4 1 rfl ?_
  refine T_callVI (rm := rm_X5_refusalOfBytes) [.int x1] [] C.1 dX8_lots_5 mw_X5_refusalOfBytes wm_3_92 wm_3_93 wm_3_94 ⟨Nat.le_of_ble_eq_true rfl, Nat.le_of_ble_eq_true rfl⟩ ⟨rfl, rfl⟩ ⟨Nat.zero_le _, Nat.zero_le _⟩ rfl rfl (Nat.le_of_ble_eq_true rfl) sh103 (Nat.le_trans le103 hn) ⟨rfl, rfl⟩ (c_X5_refusalOfBytes hn ll cx x1 m) (fun v1 m2 => ?_)
  refine T_istore_n (lv' := [(2, .int v1), (0, .ref (cx.2.2.1 + 1)), (1, .int x1)]) C.1 dX8_lots_8 (by decide) rfl ?_
  refine T_iload_n C.1 dX8_lots_9 0 rfl ?_
  refine T_if_eq (tgt := 15) C.1 dX8_lots_10 (by decide) ?_ ?_
  · refine T_aload_n C.1 dX8_lots_15 1 rfl ?_
    refine T_getR (x := 33) C.1 fd_X8_45 (fun _ _ _ _ => rfl) sh1 (Nat.le_trans le1 hn) (fun _ h => h) rfl (by decide) dX8_lots_16 ?_
    refine T_aload_n C.1 dX8_lots_19 1 rfl ?_
    refine T_getR (x := 103) C.1 fd_X8_59 (fun _ _ _ _ => rfl) sh1 (Nat.le_trans le1 hn) (fun _ h => h) rfl (by decide) dX8_lots_20 ?_
    refine T_getR (x := 106) C.1 fd_X8_226 (fun _ _ _ _ => rfl) sh103 (Nat.le_trans le103 hn) (fun _ h => h) rfl (by decide) dX8_lots_23 ?_
    refine T_iload_n C.1 dX8_lots_26 2 rfl ?_
    refine T_aald (x := fun j => 107 + 1 * j) C.1 dX8_lots_27 (by decide) sh106 (Nat.le_trans le106 hn) (fun _ h => h) ar106 (fun j3 hj3 => ?_)
    refine T_aload_n C.1 dX8_lots_28 1 rfl ?_
    refine T_getR (x := 103) C.1 fd_X8_59 (fun _ _ _ _ => rfl) sh1 (Nat.le_trans le1 hn) (fun _ h => h) rfl (by decide) dX8_lots_29 ?_
    refine T_getR (x := 105) C.1 fd_X8_230 (fun _ _ _ _ => rfl) sh103 (Nat.le_trans le103 hn) (fun _ h => h) rfl (by decide) dX8_lots_32 ?_
    refine T_iload_n C.1 dX8_lots_35 2 rfl ?_
    refine T_iald C.1 dX8_lots_36 sh105 (Nat.le_trans le105 hn) (fun j4 => ?_)
    refine T_callVV (rm := rm_X7_hear) [.ref (cx.2.2.1 + (107 + 1 * j3)), .int (gI m2 105 j4)] [] C.1 dX8_lots_37 mw_X7_hear wm_3_104 wm_3_105 wm_3_106 ⟨Nat.le_of_ble_eq_true rfl, Nat.le_of_ble_eq_true rfl⟩ ⟨rfl, rfl⟩ ⟨Nat.zero_le _, Nat.zero_le _⟩ rfl rfl (Nat.le_of_ble_eq_true rfl) sh33 (Nat.le_trans le33 hn) ⟨rfl, rfl⟩ (c_X7_hear hn ll cx (107 + 1 * j3) (gI m2 105 j4) m2) (fun u5 m6 => ?_)
    refine T_aload_n C.1 dX8_lots_40 1 rfl ?_
    refine T_getR (x := 33) C.1 fd_X8_45 (fun _ _ _ _ => rfl) sh1 (Nat.le_trans le1 hn) (fun _ h => h) rfl (by decide) dX8_lots_41 ?_
    refine T_callVI (rm := rm_X7_lotsAsTold) [] [] C.1 dX8_lots_44 mw_X7_lotsAsTold wm_3_116 wm_3_117 wm_3_118 ⟨Nat.le_of_ble_eq_true rfl, Nat.le_of_ble_eq_true rfl⟩ ⟨rfl, rfl⟩ ⟨Nat.zero_le _, Nat.zero_le _⟩ rfl rfl (Nat.le_of_ble_eq_true rfl) sh33 (Nat.le_trans le33 hn) ⟨rfl, rfl⟩ (c_X7_lotsAsTold hn ll cx m6) (fun v7 m8 => ?_)
    exact T_iret C.1 C.2.1 C.2.2 dX8_lots_47
  · refine T_iload_n C.1 dX8_lots_13 0 rfl ?_
    exact T_iret C.1 C.2.1 C.2.2 dX8_lots_14
def rm_X8_row : Room := { frames := 3, cells := 0, slots := 0, locals := 87 }
def F_X8_row  (x1 : Int32) (x2 : Int32) (x3 : Int32) (m : Mm) : Option (Int32 × Mm) :=
  bnd (F_X5_isShelf x1 m) fun v1 m2 =>
  (if v1 = iI 0 then
    some ((iI (-1)), m2)
  else
    (if x2 < iI 0 then
      some ((iI (-1)), m2)
    else
      (if (iI 4) < x2 then
        some ((iI (-1)), m2)
      else
        (if x3 ≤ (iI 60) then
          (if iI 0 ≤ x3 then
            bnd (F_X5_holdRow x1 x2 x3 m2) fun _ m4 =>
            some ((iI 1), m4)
          else
            some ((iI (-14)), m2))
        else
          some ((iI (-1)), m2)))))
set_option maxRecDepth 100000 in
set_option maxHeartbeats 4000000 in
theorem c_X8_row {wn : Nat} (hn : NN ≤ wn) (ll : Launch) (cx : CX) (x1 : Int32) (x2 : Int32) (x3 : Int32) (m : Mm) : MT ll yX8_row cX8_row 4 ((some .int)) rm_X8_row cx wn wn Lay cvI 0 0 [.ref (cx.2.2.1 + 1), .int x1, .int x2, .int x3] m (F_X8_row x1 x2 x3 m) := by
  refine MT_of (by decide) (Nat.le_of_ble_eq_true rfl) ?_
  intro pp ee ss mm aa bb me co hK hr hk hn0
  have C : CM pp ss mm aa me co cX8_row 4 RX8 cx ((some .int)) := ⟨hK, hr, hk⟩
  show TI pp ll ee rm_X8_row ss mm aa bb me co 4 cx wn 0 [(0, .ref (cx.2.2.1 + 1)), (1, .int x1), (2, .int x2), (3, .int x3)] [] m (F_X8_row x1 x2 x3 m)
  unfold F_X8_row
  refine T_aload_n C.1 dX8_row_0 0 rfl ?_
  refine T_getR (x := 103) C.1 fd_X8_59 (fun _ _ _ _ => rfl) sh1 (Nat.le_trans le1 hn) (fun _ h => h) rfl (by decide) dX8_row_1 ?_
  refine T_iload_n C.1 dX8_row_4 1 rfl ?_
  refine T_callVI (rm := rm_X5_isShelf) [.int x1] [] C.1 dX8_row_5 mw_X5_isShelf wm_3_130 wm_3_97 wm_3_98 ⟨Nat.le_of_ble_eq_true rfl, Nat.le_of_ble_eq_true rfl⟩ ⟨rfl, rfl⟩ ⟨Nat.zero_le _, Nat.zero_le _⟩ rfl rfl (Nat.le_of_ble_eq_true rfl) sh103 (Nat.le_trans le103 hn) ⟨rfl, rfl⟩ (c_X5_isShelf hn ll cx x1 m) (fun v1 m2 => ?_)
  refine T_if_eq (tgt := 26) C.1 dX8_row_8 (by decide) ?_ ?_
  · refine T_iconst C.1 dX8_row_26 ?_
    exact T_iret C.1 C.2.1 C.2.2 dX8_row_27
  · refine T_iload_n C.1 dX8_row_11 2 rfl ?_
    refine T_if_lt (tgt := 26) C.1 dX8_row_12 (by decide) ?_ ?_
    · refine T_iconst C.1 dX8_row_26 ?_
      exact T_iret C.1 C.2.1 C.2.2 dX8_row_27
    · refine T_iload_n C.1 dX8_row_15 2 rfl ?_
      refine T_iconst C.1 dX8_row_16 ?_
      refine T_icmp_gt (tgt := 26) C.1 dX8_row_17 (by decide) ?_ ?_
      · refine T_iconst C.1 dX8_row_26 ?_
        exact T_iret C.1 C.2.1 C.2.2 dX8_row_27
      · refine T_iload_n C.1 dX8_row_20 3 rfl ?_
        refine T_bipush C.1 dX8_row_21 rfl ?_
        refine T_icmp_le (tgt := 28) C.1 dX8_row_23 (by decide) ?_ ?_
        · refine T_iload_n C.1 dX8_row_28 3 rfl ?_
          refine T_if_ge (tgt := 35) C.1 dX8_row_29 (by decide) ?_ ?_
          · refine T_aload_n C.1 dX8_row_35 0 rfl ?_
            refine T_getR (x := 103) C.1 fd_X8_59 (fun _ _ _ _ => rfl) sh1 (Nat.le_trans le1 hn) (fun _ h => h) rfl (by decide) dX8_row_36 ?_
            refine T_iload_n C.1 dX8_row_39 1 rfl ?_
            refine T_iload_n C.1 dX8_row_40 2 rfl ?_
            refine T_iload_n C.1 dX8_row_41 3 rfl ?_
            refine T_callVV (rm := rm_X5_holdRow) [.int x1, .int x2, .int x3] [] C.1 dX8_row_42 mw_X5_holdRow wm_3_131 wm_3_132 wm_3_133 ⟨Nat.le_of_ble_eq_true rfl, Nat.le_of_ble_eq_true rfl⟩ ⟨rfl, rfl⟩ ⟨Nat.zero_le _, Nat.zero_le _⟩ rfl rfl (Nat.le_of_ble_eq_true rfl) sh103 (Nat.le_trans le103 hn) ⟨rfl, rfl⟩ (c_X5_holdRow hn ll cx x1 x2 x3 m2) (fun u3 m4 => ?_)
            refine T_iconst C.1 dX8_row_45 ?_
            exact T_iret C.1 C.2.1 C.2.2 dX8_row_46
          · refine T_bipush C.1 dX8_row_32 rfl ?_
            exact T_iret C.1 C.2.1 C.2.2 dX8_row_34
        · refine T_iconst C.1 dX8_row_26 ?_
          exact T_iret C.1 C.2.1 C.2.2 dX8_row_27
def rm_X8_put : Room := { frames := 3, cells := 0, slots := 0, locals := 83 }
def F_X8_put  (x1 : Int32) (x2 : Int32) (y3 : Int64) (m : Mm) : Option (Int32 × Mm) :=
  bnd (F_X5_refusalOfElement x1 x2 m) fun v1 m2 =>
  (if v1 = iI 0 then
    rd 6 x1 fun j3 =>
    rd 6 x1 fun j4 =>
    bnd (F_X5_lowestBits (gI m2 104 j4) y3 m2) fun w5 m6 =>
    wrL 60 m6 (107 + 1 * j3) x2 w5 fun m7 =>
    some ((iI 1), m7)
  else
    some (v1, m2))
set_option maxRecDepth 100000 in
set_option maxHeartbeats 4000000 in
theorem c_X8_put {wn : Nat} (hn : NN ≤ wn) (ll : Launch) (cx : CX) (x1 : Int32) (x2 : Int32) (y3 : Int64) (m : Mm) : MT ll yX8_put cX8_put 6 ((some .int)) rm_X8_put cx wn wn Lay cvI 0 0 [.ref (cx.2.2.1 + 1), .int x1, .int x2, .long y3] m (F_X8_put x1 x2 y3 m) := by
  refine MT_of (by decide) (Nat.le_of_ble_eq_true rfl) ?_
  intro pp ee ss mm aa bb me co hK hr hk hn0
  have C : CM pp ss mm aa me co cX8_put 6 RX8 cx ((some .int)) := ⟨hK, hr, hk⟩
  show TI pp ll ee rm_X8_put ss mm aa bb me co 6 cx wn 0 [(0, .ref (cx.2.2.1 + 1)), (1, .int x1), (2, .int x2), (3, .long y3)] [] m (F_X8_put x1 x2 y3 m)
  unfold F_X8_put
  refine T_aload_n C.1 dX8_put_0 0 rfl ?_
  refine T_getR (x := 103) C.1 fd_X8_59 (fun _ _ _ _ => rfl) sh1 (Nat.le_trans le1 hn) (fun _ h => h) rfl (by decide) dX8_put_1 ?_
  refine T_iload_n C.1 dX8_put_4 1 rfl ?_
  refine T_iload_n C.1 dX8_put_5 2 rfl ?_
  refine T_callVI (rm := rm_X5_refusalOfElement) [.int x1, .int x2] [] C.1 dX8_put_6 mw_X5_refusalOfElement wm_3_142 wm_3_143 wm_3_144 ⟨Nat.le_of_ble_eq_true rfl, Nat.le_of_ble_eq_true rfl⟩ ⟨rfl, rfl⟩ ⟨Nat.zero_le _, Nat.zero_le _⟩ rfl rfl (Nat.le_of_ble_eq_true rfl) sh103 (Nat.le_trans le103 hn) ⟨rfl, rfl⟩ (c_X5_refusalOfElement hn ll cx x1 x2 m) (fun v1 m2 => ?_)
  refine T_istore (lv' := [(5, .int v1), (0, .ref (cx.2.2.1 + 1)), (1, .int x1), (2, .int x2), (3, .long y3)]) C.1 dX8_put_9 (by decide) rfl ?_
  refine T_iload C.1 dX8_put_11 0 rfl ?_
  refine T_if_eq (tgt := 19) C.1 dX8_put_13 (by decide) ?_ ?_
  · refine T_aload_n C.1 dX8_put_19 1 rfl ?_
    refine T_getR (x := 103) C.1 fd_X8_59 (fun _ _ _ _ => rfl) sh1 (Nat.le_trans le1 hn) (fun _ h => h) rfl (by decide) dX8_put_20 ?_
    refine T_getR (x := 106) C.1 fd_X8_226 (fun _ _ _ _ => rfl) sh103 (Nat.le_trans le103 hn) (fun _ h => h) rfl (by decide) dX8_put_23 ?_
    refine T_iload_n C.1 dX8_put_26 2 rfl ?_
    refine T_aald (x := fun j => 107 + 1 * j) C.1 dX8_put_27 (by decide) sh106 (Nat.le_trans le106 hn) (fun _ h => h) ar106 (fun j3 hj3 => ?_)
    refine T_iload_n C.1 dX8_put_28 3 rfl ?_
    refine T_aload_n C.1 dX8_put_29 1 rfl ?_
    refine T_getR (x := 103) C.1 fd_X8_59 (fun _ _ _ _ => rfl) sh1 (Nat.le_trans le1 hn) (fun _ h => h) rfl (by decide) dX8_put_30 ?_
    refine T_getR (x := 104) C.1 fd_X8_281 (fun _ _ _ _ => rfl) sh103 (Nat.le_trans le103 hn) (fun _ h => h) rfl (by decide) dX8_put_33 ?_
    refine T_iload_n C.1 dX8_put_36 2 rfl ?_
    refine T_iald C.1 dX8_put_37 sh104 (Nat.le_trans le104 hn) (fun j4 => ?_)
    refine T_lload_n C.1 dX8_put_38 4 rfl ?_
    refine T_callSL (rm := rm_X5_lowestBits) [.int (gI m2 104 j4), .long y3] [.int x2, .ref (cx.2.2.1 + (107 + 1 * j3))] C.1 dX8_put_39 mw_X5_lowestBits wm_3_150 wm_3_151 ⟨Nat.le_of_ble_eq_true rfl, Nat.le_of_ble_eq_true rfl⟩ ⟨rfl, rfl⟩ ⟨Nat.zero_le _, Nat.zero_le _⟩ rfl rfl (Nat.le_of_ble_eq_true rfl) (c_X5_lowestBits hn ll cx (gI m2 104 j4) y3 m2) (fun w5 m6 => ?_)
    refine T_last C.1 LyI_Lay (shar106 hj3) (Nat.le_trans (shp_le (shar106 hj3) (by decide)) hn) dX8_put_42 (fun m7 => ?_)
    refine T_iconst C.1 dX8_put_43 ?_
    exact T_iret C.1 C.2.1 C.2.2 dX8_put_44
  · refine T_iload C.1 dX8_put_16 0 rfl ?_
    exact T_iret C.1 C.2.1 C.2.2 dX8_put_18
def rm_X8_count : Room := { frames := 3, cells := 0, slots := 0, locals := 85 }
def F_X8_count  (x1 : Int32) (m : Mm) : Option (Int32 × Mm) :=
  tsw x1 (0) [(some ((gI m 2 0), m)),
   (some (((gI m 2 0) - (gI m 23 4)), m)),
   (bnd (F_X2_countSafe 23 m) fun v1 m2 =>
  some (v1, m2)),
   (some ((gI m 16 1), m)),
   (some ((gI m 11 4), m)),
   (some ((gI m 100 1), m)),
   (some ((gI m 100 3), m))] (some ((iI (-1)), m))
set_option maxRecDepth 100000 in
set_option maxHeartbeats 4000000 in
theorem c_X8_count {wn : Nat} (hn : NN ≤ wn) (ll : Launch) (cx : CX) (x1 : Int32) (m : Mm) : MT ll yX8_count cX8_count 2 ((some .int)) rm_X8_count cx wn wn Lay cvI 0 0 [.ref (cx.2.2.1 + 1), .int x1] m (F_X8_count x1 m) := by
  refine MT_of (by decide) (Nat.le_of_ble_eq_true rfl) ?_
  intro pp ee ss mm aa bb me co hK hr hk hn0
  have C : CM pp ss mm aa me co cX8_count 2 RX8 cx ((some .int)) := ⟨hK, hr, hk⟩
  show TI pp ll ee rm_X8_count ss mm aa bb me co 2 cx wn 0 [(0, .ref (cx.2.2.1 + 1)), (1, .int x1)] [] m (F_X8_count x1 m)
  unfold F_X8_count
  refine T_iload_n C.1 dX8_count_0 1 rfl ?_
  refine T_tsw (lo := (0)) (os := [43, 51, 67, 79, 87, 95, 103]) C.1 dX8_count_1 rfl (by decide) (tgd := 112) (by decide) ⟨⟨44, by decide, ?_⟩, ⟨52, by decide, ?_⟩, ⟨68, by decide, ?_⟩, ⟨80, by decide, ?_⟩, ⟨88, by decide, ?_⟩, ⟨96, by decide, ?_⟩, ⟨104, by decide, ?_⟩, trivial⟩ ?_
  · show TI pp ll ee rm_X8_count ss mm aa bb me co 2 cx wn _ _ _ _ _
    refine T_aload_n C.1 dX8_count_44 0 rfl ?_
    refine T_getR (x := 2) C.1 fd_X8_10 (fun _ _ _ _ => rfl) sh1 (Nat.le_trans le1 hn) (fun _ h => h) rfl (by decide) dX8_count_45 ?_
    refine T_getI C.1 fd_X8_71 (fun _ _ _ _ => rfl) sh2 (Nat.le_trans le2 hn) dX8_count_48 ?_
    exact T_iret C.1 C.2.1 C.2.2 dX8_count_51
  · show TI pp ll ee rm_X8_count ss mm aa bb me co 2 cx wn _ _ _ _ _
    refine T_aload_n C.1 dX8_count_52 0 rfl ?_
    refine T_getR (x := 2) C.1 fd_X8_10 (fun _ _ _ _ => rfl) sh1 (Nat.le_trans le1 hn) (fun _ h => h) rfl (by decide) dX8_count_53 ?_
    refine T_getI C.1 fd_X8_71 (fun _ _ _ _ => rfl) sh2 (Nat.le_trans le2 hn) dX8_count_56 ?_
    refine T_aload_n C.1 dX8_count_59 0 rfl ?_
    refine T_getR (x := 23) C.1 fd_X8_33 (fun _ _ _ _ => rfl) sh1 (Nat.le_trans le1 hn) (fun _ h => h) rfl (by decide) dX8_count_60 ?_
    refine T_getI C.1 fd_X8_120 (fun _ _ _ _ => rfl) sh23 (Nat.le_trans le23 hn) dX8_count_63 ?_
    refine T_isub C.1 dX8_count_66 ?_
    exact T_iret C.1 C.2.1 C.2.2 dX8_count_67
  · show TI pp ll ee rm_X8_count ss mm aa bb me co 2 cx wn _ _ _ _ _
    refine T_aload_n C.1 dX8_count_68 0 rfl ?_
    refine T_getR (x := 23) C.1 fd_X8_33 (fun _ _ _ _ => rfl) sh1 (Nat.le_trans le1 hn) (fun _ h => h) rfl (by decide) dX8_count_69 ?_
    refine T_aload_n C.1 dX8_count_72 0 rfl ?_
    refine T_getR (x := 2) C.1 fd_X8_10 (fun _ _ _ _ => rfl) sh1 (Nat.le_trans le1 hn) (fun _ h => h) rfl (by decide) dX8_count_73 ?_
    refine T_callVI (rm := rm_X2_countSafe) [.ref (cx.2.2.1 + 2)] [] C.1 dX8_count_76 mw_X2_countSafe wm_3_157 wm_3_158 wm_3_159 ⟨Nat.le_of_ble_eq_true rfl, Nat.le_of_ble_eq_true rfl⟩ ⟨rfl, rfl⟩ ⟨Nat.zero_le _, Nat.zero_le _⟩ rfl rfl (Nat.le_of_ble_eq_true rfl) sh23 (Nat.le_trans le23 hn) ⟨rfl, rfl⟩ (c_X2_countSafe hn ll cx 23 m) (fun v1 m2 => ?_)
    exact T_iret C.1 C.2.1 C.2.2 dX8_count_79
  · show TI pp ll ee rm_X8_count ss mm aa bb me co 2 cx wn _ _ _ _ _
    refine T_aload_n C.1 dX8_count_80 0 rfl ?_
    refine T_getR (x := 16) C.1 fd_X8_26 (fun _ _ _ _ => rfl) sh1 (Nat.le_trans le1 hn) (fun _ h => h) rfl (by decide) dX8_count_81 ?_
    refine T_getI C.1 fd_X8_133 (fun _ _ _ _ => rfl) sh16 (Nat.le_trans le16 hn) dX8_count_84 ?_
    exact T_iret C.1 C.2.1 C.2.2 dX8_count_87
  · show TI pp ll ee rm_X8_count ss mm aa bb me co 2 cx wn _ _ _ _ _
    refine T_aload_n C.1 dX8_count_88 0 rfl ?_
    refine T_getR (x := 11) C.1 fd_X8_19 (fun _ _ _ _ => rfl) sh1 (Nat.le_trans le1 hn) (fun _ h => h) rfl (by decide) dX8_count_89 ?_
    refine T_getI C.1 fd_X8_247 (fun _ _ _ _ => rfl) sh11 (Nat.le_trans le11 hn) dX8_count_92 ?_
    exact T_iret C.1 C.2.1 C.2.2 dX8_count_95
  · show TI pp ll ee rm_X8_count ss mm aa bb me co 2 cx wn _ _ _ _ _
    refine T_aload_n C.1 dX8_count_96 0 rfl ?_
    refine T_getR (x := 100) C.1 fd_X8_52 (fun _ _ _ _ => rfl) sh1 (Nat.le_trans le1 hn) (fun _ h => h) rfl (by decide) dX8_count_97 ?_
    refine T_getI C.1 fd_X8_317 (fun _ _ _ _ => rfl) sh100 (Nat.le_trans le100 hn) dX8_count_100 ?_
    exact T_iret C.1 C.2.1 C.2.2 dX8_count_103
  · show TI pp ll ee rm_X8_count ss mm aa bb me co 2 cx wn _ _ _ _ _
    refine T_aload_n C.1 dX8_count_104 0 rfl ?_
    refine T_getR (x := 100) C.1 fd_X8_52 (fun _ _ _ _ => rfl) sh1 (Nat.le_trans le1 hn) (fun _ h => h) rfl (by decide) dX8_count_105 ?_
    refine T_getI C.1 fd_X8_320 (fun _ _ _ _ => rfl) sh100 (Nat.le_trans le100 hn) dX8_count_108 ?_
    exact T_iret C.1 C.2.1 C.2.2 dX8_count_111
  · show TI pp ll ee rm_X8_count ss mm aa bb me co 2 cx wn _ _ _ _ _
    refine T_iconst C.1 dX8_count_112 ?_
    exact T_iret C.1 C.2.1 C.2.2 dX8_count_113
