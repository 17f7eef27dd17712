def rm_X8_body : Room := { frames := 2, cells := 0, slots := 0, locals := 61 }
def F_X8_body  (x1 : Int32) (m : Mm) : Option (Int32 × Mm) :=
  (if x1 < iI 0 then
    some ((iI (-1)), m)
  else
    (if x1 < (iI 8) then
      bnd (F_X0_add x1 m) fun v1 m2 =>
      some (v1, m2)
    else
      some ((iI (-1)), m)))
set_option maxRecDepth 100000 in
set_option maxHeartbeats 4000000 in
theorem c_X8_body (ll : Launch) (cx : CX) (x1 : Int32) (m : Mm) : MT ll yX8_body cX8_body 2 ((some .int)) rm_X8_body cx NN NN Lay cvI 0 0 [.ref (cx.2.2.1 + 1), .int x1] m (F_X8_body x1 m) := by
  refine MT_of (by decide) (Nat.le_of_ble_eq_true rfl) ?_
  intro pp ee ss mm aa bb me co hK hr hk hn
  have C : CM pp ss mm aa me co cX8_body 2 RX8 cx ((some .int)) := ⟨hK, hr, hk⟩
  show TI pp ll ee rm_X8_body ss mm aa bb me co 2 cx 0 [(0, .ref (cx.2.2.1 + 1)), (1, .int x1)] [] m (F_X8_body x1 m)
  unfold F_X8_body
  refine T_iload_n C.1 dX8_body_0 1 rfl ?_
  refine T_if_lt (tgt := 10) C.1 dX8_body_1 (by decide) ?_ ?_
  · refine T_iconst C.1 dX8_body_10 ?_
    exact T_iret C.1 C.2.1 C.2.2 dX8_body_11
  · refine T_iload_n C.1 dX8_body_4 1 rfl ?_
    refine T_bipush C.1 dX8_body_5 rfl ?_
    refine T_icmp_lt (tgt := 12) C.1 dX8_body_7 (by decide) ?_ ?_
    · refine T_aload_n C.1 dX8_body_12 0 rfl ?_
      refine T_getR (x := 100) C.1 fd_X8_52 (fun _ _ _ _ => rfl) sh1 le1 (fun _ h => h) rfl (by decide) dX8_body_13 ?_
      refine T_iload_n C.1 dX8_body_16 1 rfl ?_
      refine T_callVI (rm := rm_X0_add) [.int x1] [] C.1 dX8_body_17 mw_X0_add wm_4_70 wm_4_71 wm_4_72 ⟨Nat.le_of_ble_eq_true rfl, Nat.le_of_ble_eq_true rfl⟩ ⟨rfl, rfl⟩ ⟨Nat.zero_le _, Nat.zero_le _⟩ rfl rfl (Nat.le_of_ble_eq_true rfl) sh100 le100 ⟨rfl, rfl⟩ (c_X0_add ll cx x1 m) (fun v1 m2 => ?_)
      exact T_iret C.1 C.2.1 C.2.2 dX8_body_20
    · refine T_iconst C.1 dX8_body_10 ?_
      exact T_iret C.1 C.2.1 C.2.2 dX8_body_11
def rm_X8_act : Room := { frames := 205, cells := 0, slots := 0, locals := 5328 }
def F_X8_act  (x1 : Int32) (x2 : Int32) (x3 : Int32) (m : Mm) : Option (Int32 × Mm) :=
  bnd (F_X0_perform x1 x2 x3 m) fun v1 m2 =>
  some (v1, m2)
set_option maxRecDepth 100000 in
set_option maxHeartbeats 4000000 in
theorem c_X8_act (ll : Launch) (cx : CX) (x1 : Int32) (x2 : Int32) (x3 : Int32) (m : Mm) : MT ll yX8_act cX8_act 4 ((some .int)) rm_X8_act cx NN NN Lay cvI 0 0 [.ref (cx.2.2.1 + 1), .int x1, .int x2, .int x3] m (F_X8_act x1 x2 x3 m) := by
  refine MT_of (by decide) (Nat.le_of_ble_eq_true rfl) ?_
  intro pp ee ss mm aa bb me co hK hr hk hn
  have C : CM pp ss mm aa me co cX8_act 4 RX8 cx ((some .int)) := ⟨hK, hr, hk⟩
  show TI pp ll ee rm_X8_act ss mm aa bb me co 4 cx 0 [(0, .ref (cx.2.2.1 + 1)), (1, .int x1), (2, .int x2), (3, .int x3)] [] m (F_X8_act x1 x2 x3 m)
  unfold F_X8_act
  refine T_aload_n C.1 dX8_act_0 0 rfl ?_
  refine T_getR (x := 100) C.1 fd_X8_52 (fun _ _ _ _ => rfl) sh1 le1 (fun _ h => h) rfl (by decide) dX8_act_1 ?_
  refine T_iload_n C.1 dX8_act_4 1 rfl ?_
  refine T_iload_n C.1 dX8_act_5 2 rfl ?_
  refine T_iload_n C.1 dX8_act_6 3 rfl ?_
  refine T_callVI (rm := rm_X0_perform) [.int x1, .int x2, .int x3] [] C.1 dX8_act_7 mw_X0_perform wm_4_78 wm_4_79 wm_4_80 ⟨Nat.le_of_ble_eq_true rfl, Nat.le_of_ble_eq_true rfl⟩ ⟨rfl, rfl⟩ ⟨Nat.zero_le _, Nat.zero_le _⟩ rfl rfl (Nat.le_of_ble_eq_true rfl) sh100 le100 ⟨rfl, rfl⟩ (c_X0_perform ll cx x1 x2 x3 m) (fun v1 m2 => ?_)
  exact T_iret C.1 C.2.1 C.2.2 dX8_act_10
def rm_X8_trace : Room := { frames := 2, cells := 0, slots := 0, locals := 61 }
def F_X8_trace  (x1 : Int32) (m : Mm) : Option (Int32 × Mm) :=
  bnd (F_X0_traced x1 m) fun v1 m2 =>
  some (v1, m2)
set_option maxRecDepth 100000 in
set_option maxHeartbeats 4000000 in
theorem c_X8_trace (ll : Launch) (cx : CX) (x1 : Int32) (m : Mm) : MT ll yX8_trace cX8_trace 2 ((some .int)) rm_X8_trace cx NN NN Lay cvI 0 0 [.ref (cx.2.2.1 + 1), .int x1] m (F_X8_trace x1 m) := by
  refine MT_of (by decide) (Nat.le_of_ble_eq_true rfl) ?_
  intro pp ee ss mm aa bb me co hK hr hk hn
  have C : CM pp ss mm aa me co cX8_trace 2 RX8 cx ((some .int)) := ⟨hK, hr, hk⟩
  show TI pp ll ee rm_X8_trace ss mm aa bb me co 2 cx 0 [(0, .ref (cx.2.2.1 + 1)), (1, .int x1)] [] m (F_X8_trace x1 m)
  unfold F_X8_trace
  refine T_aload_n C.1 dX8_trace_0 0 rfl ?_
  refine T_getR (x := 100) C.1 fd_X8_52 (fun _ _ _ _ => rfl) sh1 le1 (fun _ h => h) rfl (by decide) dX8_trace_1 ?_
  refine T_iload_n C.1 dX8_trace_4 1 rfl ?_
  refine T_callVI (rm := rm_X0_traced) [.int x1] [] C.1 dX8_trace_5 mw_X0_traced wm_4_118 wm_4_119 wm_4_120 ⟨Nat.le_of_ble_eq_true rfl, Nat.le_of_ble_eq_true rfl⟩ ⟨rfl, rfl⟩ ⟨Nat.zero_le _, Nat.zero_le _⟩ rfl rfl (Nat.le_of_ble_eq_true rfl) sh100 le100 ⟨rfl, rfl⟩ (c_X0_traced ll cx x1 m) (fun v1 m2 => ?_)
  exact T_iret C.1 C.2.1 C.2.2 dX8_trace_8
def rm_X8_keep : Room := { frames := 2, cells := 0, slots := 0, locals := 62 }
def F_X8_keep_29  (a1 : Int32) (a2 : Int32) (m : Mm) : Option (Int32 × Mm) :=
  bnd (F_X5_holdBody a1 a2 m) fun _ m2 =>
  some ((iI 1), m2)
set_option maxRecDepth 100000 in
set_option maxHeartbeats 4000000 in
theorem t_X8_keep_29 {pp : Program} {ll : Launch} {ee : Env} {ss : State} {mm : MethodId} {aa : Array Value} {bb : List Frame} {me : Method} {co : Code} {cx : CX}     (C : CM pp ss mm aa me co cX8_keep 3 RX8 cx ((some .int)))    (a1 : Int32) (a2 : Int32) (m : Mm) : TI pp ll ee rm_X8_keep ss mm aa bb me co 3 cx 29 [(0, .ref (cx.2.2.1 + 1)), (1, .int a1), (2, .int a2)] [] m (F_X8_keep_29  a1 a2 m) := by
  unfold F_X8_keep_29
  refine T_aload_n C.1 dX8_keep_29 0 rfl ?_
  refine T_getR (x := 103) C.1 fd_X8_59 (fun _ _ _ _ => rfl) sh1 le1 (fun _ h => h) rfl (by decide) dX8_keep_30 ?_
  refine T_iload_n C.1 dX8_keep_33 1 rfl ?_
  refine T_iload_n C.1 dX8_keep_34 2 rfl ?_
  refine T_callVV (rm := rm_X5_holdBody) [.int a1, .int a2] [] C.1 dX8_keep_35 mw_X5_holdBody wm_4_127 wm_4_128 wm_4_129 ⟨Nat.le_of_ble_eq_true rfl, Nat.le_of_ble_eq_true rfl⟩ ⟨rfl, rfl⟩ ⟨Nat.zero_le _, Nat.zero_le _⟩ rfl rfl (Nat.le_of_ble_eq_true rfl) sh103 le103 ⟨rfl, rfl⟩ (c_X5_holdBody ll cx a1 a2 m) (fun u1 m2 => ?_)
  refine T_iconst C.1 dX8_keep_38 ?_
  exact T_iret C.1 C.2.1 C.2.2 dX8_keep_39
def F_X8_keep  (x1 : Int32) (x2 : Int32) (m : Mm) : Option (Int32 × Mm) :=
  bnd (F_X5_isShelf x1 m) fun v1 m2 =>
  (if v1 = iI 0 then
    some ((iI (-1)), m2)
  else
    (if x2 = (iI (-1)) then
      F_X8_keep_29 x1 x2 m2
    else
      bnd (F_X0_isThere x2 m2) fun v3 m4 =>
      (if v3 = iI 0 then
        some ((iI (-1)), m4)
      else
        F_X8_keep_29 x1 x2 m4)))
set_option maxRecDepth 100000 in
set_option maxHeartbeats 4000000 in
theorem c_X8_keep (ll : Launch) (cx : CX) (x1 : Int32) (x2 : Int32) (m : Mm) : MT ll yX8_keep cX8_keep 3 ((some .int)) rm_X8_keep cx NN NN Lay cvI 0 0 [.ref (cx.2.2.1 + 1), .int x1, .int x2] m (F_X8_keep x1 x2 m) := by
  refine MT_of (by decide) (Nat.le_of_ble_eq_true rfl) ?_
  intro pp ee ss mm aa bb me co hK hr hk hn
  have C : CM pp ss mm aa me co cX8_keep 3 RX8 cx ((some .int)) := ⟨hK, hr, hk⟩
  show TI pp ll ee rm_X8_keep ss mm aa bb me co 3 cx 0 [(0, .ref (cx.2.2.1 + 1)), (1, .int x1), (2, .int x2)] [] m (F_X8_keep x1 x2 m)
  unfold F_X8_keep
  refine T_aload_n C.1 dX8_keep_0 0 rfl ?_
  refine T_getR (x := 103) C.1 fd_X8_59 (fun _ _ _ _ => rfl) sh1 le1 (fun _ h => h) rfl (by decide) dX8_keep_1 ?_
  refine T_iload_n C.1 dX8_keep_4 1 rfl ?_
  refine T_callVI (rm := rm_X5_isShelf) [.int x1] [] C.1 dX8_keep_5 mw_X5_isShelf wm_2_90 wm_2_91 wm_2_92 ⟨Nat.le_of_ble_eq_true rfl, Nat.le_of_ble_eq_true rfl⟩ ⟨rfl, rfl⟩ ⟨Nat.zero_le _, Nat.zero_le _⟩ rfl rfl (Nat.le_of_ble_eq_true rfl) sh103 le103 ⟨rfl, rfl⟩ (c_X5_isShelf ll cx x1 m) (fun v1 m2 => ?_)
  refine T_if_eq (tgt := 27) C.1 dX8_keep_8 (by decide) ?_ ?_
  · refine T_iconst C.1 dX8_keep_27 ?_
    exact T_iret C.1 C.2.1 C.2.2 dX8_keep_28
  · refine T_iload_n C.1 dX8_keep_11 2 rfl ?_
    refine T_iconst C.1 dX8_keep_12 ?_
    refine T_icmp_eq (tgt := 29) C.1 dX8_keep_13 (by decide) ?_ ?_
    · exact T_sub [0, 1, 2] rfl (t_X8_keep_29 C x1 x2 m2)
    · refine T_aload_n C.1 dX8_keep_16 0 rfl ?_
      refine T_getR (x := 100) C.1 fd_X8_52 (fun _ _ _ _ => rfl) sh1 le1 (fun _ h => h) rfl (by decide) dX8_keep_17 ?_
      refine T_iload_n C.1 dX8_keep_20 2 rfl ?_
      refine T_callVI (rm := rm_X0_isThere) [.int x2] [] C.1 dX8_keep_21 mw_X0_isThere wm_4_126 wm_4_83 wm_4_84 ⟨Nat.le_of_ble_eq_true rfl, Nat.le_of_ble_eq_true rfl⟩ ⟨rfl, rfl⟩ ⟨Nat.zero_le _, Nat.zero_le _⟩ rfl rfl (Nat.le_of_ble_eq_true rfl) sh100 le100 ⟨rfl, rfl⟩ (c_X0_isThere ll cx x2 m2) (fun v3 m4 => ?_)
      refine T_if_ne (tgt := 29) C.1 dX8_keep_24 (by decide) ?_ ?_
      · exact T_sub [0, 1, 2] rfl (t_X8_keep_29 C x1 x2 m4)
      · refine T_iconst C.1 dX8_keep_27 ?_
        exact T_iret C.1 C.2.1 C.2.2 dX8_keep_28
def rm_X8_row : Room := { frames := 3, cells := 0, slots := 0, locals := 87 }
def F_X8_row  (x1 : Int32) (x2 : Int32) (x3 : Int32) (m : Mm) : Option (Int32 × Mm) :=
  bnd (F_X5_isShelf x1 m) fun v1 m2 =>
  (if v1 = iI 0 then
    some ((iI (-1)), m2)
  else
    (if x2 < iI 0 then
      some ((iI (-1)), m2)
    else
      (if (iI 4) < x2 then
        some ((iI (-1)), m2)
      else
        (if x3 ≤ (iI 60) then
          (if iI 0 ≤ x3 then
            bnd (F_X5_holdRow x1 x2 x3 m2) fun _ m4 =>
            some ((iI 1), m4)
          else
            some ((iI (-14)), m2))
        else
          some ((iI (-1)), m2)))))
set_option maxRecDepth 100000 in
set_option maxHeartbeats 4000000 in
theorem c_X8_row (ll : Launch) (cx : CX) (x1 : Int32) (x2 : Int32) (x3 : Int32) (m : Mm) : MT ll yX8_row cX8_row 4 ((some .int)) rm_X8_row cx NN NN Lay cvI 0 0 [.ref (cx.2.2.1 + 1), .int x1, .int x2, .int x3] m (F_X8_row x1 x2 x3 m) := by
  refine MT_of (by decide) (Nat.le_of_ble_eq_true rfl) ?_
  intro pp ee ss mm aa bb me co hK hr hk hn
  have C : CM pp ss mm aa me co cX8_row 4 RX8 cx ((some .int)) := ⟨hK, hr, hk⟩
  show TI pp ll ee rm_X8_row ss mm aa bb me co 4 cx 0 [(0, .ref (cx.2.2.1 + 1)), (1, .int x1), (2, .int x2), (3, .int x3)] [] m (F_X8_row x1 x2 x3 m)
  unfold F_X8_row
  refine T_aload_n C.1 dX8_row_0 0 rfl ?_
  refine T_getR (x := 103) C.1 fd_X8_59 (fun _ _ _ _ => rfl) sh1 le1 (fun _ h => h) rfl (by decide) dX8_row_1 ?_
  refine T_iload_n C.1 dX8_row_4 1 rfl ?_
  refine T_callVI (rm := rm_X5_isShelf) [.int x1] [] C.1 dX8_row_5 mw_X5_isShelf wm_2_90 wm_2_91 wm_2_92 ⟨Nat.le_of_ble_eq_true rfl, Nat.le_of_ble_eq_true rfl⟩ ⟨rfl, rfl⟩ ⟨Nat.zero_le _, Nat.zero_le _⟩ rfl rfl (Nat.le_of_ble_eq_true rfl) sh103 le103 ⟨rfl, rfl⟩ (c_X5_isShelf ll cx x1 m) (fun v1 m2 => ?_)
  refine T_if_eq (tgt := 26) C.1 dX8_row_8 (by decide) ?_ ?_
  · refine T_iconst C.1 dX8_row_26 ?_
    exact T_iret C.1 C.2.1 C.2.2 dX8_row_27
  · refine T_iload_n C.1 dX8_row_11 2 rfl ?_
    refine T_if_lt (tgt := 26) C.1 dX8_row_12 (by decide) ?_ ?_
    · refine T_iconst C.1 dX8_row_26 ?_
      exact T_iret C.1 C.2.1 C.2.2 dX8_row_27
    · refine T_iload_n C.1 dX8_row_15 2 rfl ?_
      refine T_iconst C.1 dX8_row_16 ?_
      refine T_icmp_gt (tgt := 26) C.1 dX8_row_17 (by decide) ?_ ?_
      · refine T_iconst C.1 dX8_row_26 ?_
        exact T_iret C.1 C.2.1 C.2.2 dX8_row_27
      · refine T_iload_n C.1 dX8_row_20 3 rfl ?_
        refine T_bipush C.1 dX8_row_21 rfl ?_
        refine T_icmp_le (tgt := 28) C.1 dX8_row_23 (by decide) ?_ ?_
        · refine T_iload_n C.1 dX8_row_28 3 rfl ?_
          refine T_if_ge (tgt := 35) C.1 dX8_row_29 (by decide) ?_ ?_
          · refine T_aload_n C.1 dX8_row_35 0 rfl ?_
            refine T_getR (x := 103) C.1 fd_X8_59 (fun _ _ _ _ => rfl) sh1 le1 (fun _ h => h) rfl (by decide) dX8_row_36 ?_
            refine T_iload_n C.1 dX8_row_39 1 rfl ?_
            refine T_iload_n C.1 dX8_row_40 2 rfl ?_
            refine T_iload_n C.1 dX8_row_41 3 rfl ?_
            refine T_callVV (rm := rm_X5_holdRow) [.int x1, .int x2, .int x3] [] C.1 dX8_row_42 mw_X5_holdRow wm_4_135 wm_4_136 wm_4_137 ⟨Nat.le_of_ble_eq_true rfl, Nat.le_of_ble_eq_true rfl⟩ ⟨rfl, rfl⟩ ⟨Nat.zero_le _, Nat.zero_le _⟩ rfl rfl (Nat.le_of_ble_eq_true rfl) sh103 le103 ⟨rfl, rfl⟩ (c_X5_holdRow ll cx x1 x2 x3 m2) (fun u3 m4 => ?_)
            refine T_iconst C.1 dX8_row_45 ?_
            exact T_iret C.1 C.2.1 C.2.2 dX8_row_46
          · refine T_bipush C.1 dX8_row_32 rfl ?_
            exact T_iret C.1 C.2.1 C.2.2 dX8_row_34
        · refine T_iconst C.1 dX8_row_26 ?_
          exact T_iret C.1 C.2.1 C.2.2 dX8_row_27
def rm_X8_put : Room := { frames := 3, cells := 0, slots := 0, locals := 83 }
def F_X8_put  (x1 : Int32) (x2 : Int32) (y3 : Int64) (m : Mm) : Option (Int32 × Mm) :=
  bnd (F_X5_refusalOfElement x1 x2 m) fun v1 m2 =>
  (if v1 = iI 0 then
    rd 6 x1 fun j3 =>
    rd 6 x1 fun j4 =>
    bnd (F_X5_lowestBits (gI m2 104 j4) y3 m2) fun w5 m6 =>
    wrL 60 m6 (107 + 1 * j3) x2 w5 fun m7 =>
    some ((iI 1), m7)
  else
    some (v1, m2))
set_option maxRecDepth 100000 in
set_option maxHeartbeats 4000000 in
theorem c_X8_put (ll : Launch) (cx : CX) (x1 : Int32) (x2 : Int32) (y3 : Int64) (m : Mm) : MT ll yX8_put cX8_put 6 ((some .int)) rm_X8_put cx NN NN Lay cvI 0 0 [.ref (cx.2.2.1 + 1), .int x1, .int x2, .long y3] m (F_X8_put x1 x2 y3 m) := by
  refine MT_of (by decide) (Nat.le_of_ble_eq_true rfl) ?_
  intro pp ee ss mm aa bb me co hK hr hk hn
  have C : CM pp ss mm aa me co cX8_put 6 RX8 cx ((some .int)) := ⟨hK, hr, hk⟩
  show TI pp ll ee rm_X8_put ss mm aa bb me co 6 cx 0 [(0, .ref (cx.2.2.1 + 1)), (1, .int x1), (2, .int x2), (3, .long y3)] [] m (F_X8_put x1 x2 y3 m)
  unfold F_X8_put
  refine T_aload_n C.1 dX8_put_0 0 rfl ?_
  refine T_getR (x := 103) C.1 fd_X8_59 (fun _ _ _ _ => rfl) sh1 le1 (fun _ h => h) rfl (by decide) dX8_put_1 ?_
  refine T_iload_n C.1 dX8_put_4 1 rfl ?_
  refine T_iload_n C.1 dX8_put_5 2 rfl ?_
  refine T_callVI (rm := rm_X5_refusalOfElement) [.int x1, .int x2] [] C.1 dX8_put_6 mw_X5_refusalOfElement wm_2_107 wm_2_108 wm_2_109 ⟨Nat.le_of_ble_eq_true rfl, Nat.le_of_ble_eq_true rfl⟩ ⟨rfl, rfl⟩ ⟨Nat.zero_le _, Nat.zero_le _⟩ rfl rfl (Nat.le_of_ble_eq_true rfl) sh103 le103 ⟨rfl, rfl⟩ (c_X5_refusalOfElement ll cx x1 x2 m) (fun v1 m2 => ?_)
  refine T_istore (lv' := [(5, .int v1), (0, .ref (cx.2.2.1 + 1)), (1, .int x1), (2, .int x2), (3, .long y3)]) C.1 dX8_put_9 (by decide) rfl ?_
  refine T_iload C.1 dX8_put_11 0 rfl ?_
  refine T_if_eq (tgt := 19) C.1 dX8_put_13 (by decide) ?_ ?_
  · refine T_aload_n C.1 dX8_put_19 1 rfl ?_
    refine T_getR (x := 103) C.1 fd_X8_59 (fun _ _ _ _ => rfl) sh1 le1 (fun _ h => h) rfl (by decide) dX8_put_20 ?_
    refine T_getR (x := 106) C.1 fd_X8_226 (fun _ _ _ _ => rfl) sh103 le103 (fun _ h => h) rfl (by decide) dX8_put_23 ?_
    refine T_iload_n C.1 dX8_put_26 2 rfl ?_
    refine T_aald (x := fun j => 107 + 1 * j) C.1 dX8_put_27 (by decide) sh106 le106 (fun _ h => h) ar106 (fun j3 hj3 => ?_)
    refine T_iload_n C.1 dX8_put_28 3 rfl ?_
    refine T_aload_n C.1 dX8_put_29 1 rfl ?_
    refine T_getR (x := 103) C.1 fd_X8_59 (fun _ _ _ _ => rfl) sh1 le1 (fun _ h => h) rfl (by decide) dX8_put_30 ?_
    refine T_getR (x := 104) C.1 fd_X8_281 (fun _ _ _ _ => rfl) sh103 le103 (fun _ h => h) rfl (by decide) dX8_put_33 ?_
    refine T_iload_n C.1 dX8_put_36 2 rfl ?_
    refine T_iald C.1 dX8_put_37 sh104 le104 (fun j4 => ?_)
    refine T_lload_n C.1 dX8_put_38 4 rfl ?_
    refine T_callSL (rm := rm_X5_lowestBits) [.int (gI m2 104 j4), .long y3] [.int x2, .ref (cx.2.2.1 + (107 + 1 * j3))] C.1 dX8_put_39 mw_X5_lowestBits wm_4_146 wm_4_147 ⟨Nat.le_of_ble_eq_true rfl, Nat.le_of_ble_eq_true rfl⟩ ⟨rfl, rfl⟩ ⟨Nat.zero_le _, Nat.zero_le _⟩ rfl rfl (Nat.le_of_ble_eq_true rfl) (c_X5_lowestBits ll cx (gI m2 104 j4) y3 m2) (fun w5 m6 => ?_)
    refine T_last C.1 LyI_Lay (shar106 hj3) (shp_le (shar106 hj3) (by decide)) dX8_put_42 (fun m7 => ?_)
    refine T_iconst C.1 dX8_put_43 ?_
    exact T_iret C.1 C.2.1 C.2.2 dX8_put_44
  · refine T_iload C.1 dX8_put_16 0 rfl ?_
    exact T_iret C.1 C.2.1 C.2.2 dX8_put_18
def rm_X8_element : Room := { frames := 3, cells := 0, slots := 0, locals := 83 }
def F_X8_element  (x1 : Int32) (x2 : Int32) (m : Mm) : Option (Int64 × Mm) :=
  bnd (F_X5_refusalOfElement x1 x2 m) fun v1 m2 =>
  (if v1 = iI 0 then
    rd 6 x1 fun j3 =>
    rd 60 x2 fun j4 =>
    some ((gL m2 (107 + 1 * j3) j4), m2)
  else
    some ((iL (-9223372036854775808)), m2))
set_option maxRecDepth 100000 in
set_option maxHeartbeats 4000000 in
theorem c_X8_element (ll : Launch) (cx : CX) (x1 : Int32) (x2 : Int32) (m : Mm) : MT ll yX8_element cX8_element 3 ((some .long)) rm_X8_element cx NN NN Lay cvL 0 0 [.ref (cx.2.2.1 + 1), .int x1, .int x2] m (F_X8_element x1 x2 m) := by
  refine MT_of (by decide) (Nat.le_of_ble_eq_true rfl) ?_
  intro pp ee ss mm aa bb me co hK hr hk hn
  have C : CM pp ss mm aa me co cX8_element 3 RX8 cx ((some .long)) := ⟨hK, hr, hk⟩
  show TL pp ll ee rm_X8_element ss mm aa bb me co 3 cx 0 [(0, .ref (cx.2.2.1 + 1)), (1, .int x1), (2, .int x2)] [] m (F_X8_element x1 x2 m)
  unfold F_X8_element
  refine T_aload_n C.1 dX8_element_0 0 rfl ?_
  refine T_getR (x := 103) C.1 fd_X8_59 (fun _ _ _ _ => rfl) sh1 le1 (fun _ h => h) rfl (by decide) dX8_element_1 ?_
  refine T_iload_n C.1 dX8_element_4 1 rfl ?_
  refine T_iload_n C.1 dX8_element_5 2 rfl ?_
  refine T_callVI (rm := rm_X5_refusalOfElement) [.int x1, .int x2] [] C.1 dX8_element_6 mw_X5_refusalOfElement wm_2_107 wm_2_108 wm_2_109 ⟨Nat.le_of_ble_eq_true rfl, Nat.le_of_ble_eq_true rfl⟩ ⟨rfl, rfl⟩ ⟨Nat.zero_le _, Nat.zero_le _⟩ rfl rfl (Nat.le_of_ble_eq_true rfl) sh103 le103 ⟨rfl, rfl⟩ (c_X5_refusalOfElement ll cx x1 x2 m) (fun v1 m2 => ?_)
  refine T_if_eq (tgt := 18) C.1 dX8_element_9 (by decide) ?_ ?_
  · refine T_aload_n C.1 dX8_element_18 0 rfl ?_
    refine T_getR (x := 103) C.1 fd_X8_59 (fun _ _ _ _ => rfl) sh1 le1 (fun _ h => h) rfl (by decide) dX8_element_19 ?_
    refine T_getR (x := 106) C.1 fd_X8_226 (fun _ _ _ _ => rfl) sh103 le103 (fun _ h => h) rfl (by decide) dX8_element_22 ?_
    refine T_iload_n C.1 dX8_element_25 1 rfl ?_
    refine T_aald (x := fun j => 107 + 1 * j) C.1 dX8_element_26 (by decide) sh106 le106 (fun _ h => h) ar106 (fun j3 hj3 => ?_)
    refine T_iload_n C.1 dX8_element_27 2 rfl ?_
    refine T_lald C.1 dX8_element_28 (shar106 hj3) (shp_le (shar106 hj3) (by decide)) (fun j4 => ?_)
    exact T_lret C.1 C.2.1 C.2.2 dX8_element_29
  · refine T_ldc2 C.1 dX8_element_12 wc_X8_290 ?_
    refine T_goto (tgt := 29) C.1 dX8_element_15 (by decide) ?_
    exact T_lret C.1 C.2.1 C.2.2 dX8_element_29
def rm_X8_shift : Room := { frames := 2, cells := 0, slots := 0, locals := 63 }
def F_X8_shift  (x1 : Int32) (x2 : Int32) (x3 : Int32) (x4 : Int32) (x5 : Int32) (m : Mm) : Option (Int32 × Mm) :=
  bnd (F_X5_isShelf x1 m) fun v1 m2 =>
  (if v1 = iI 0 then
    some ((iI (-1)), m2)
  else
    bnd (F_X5_isShelf x3 m2) fun v3 m4 =>
    (if v3 = iI 0 then
      some ((iI (-1)), m4)
    else
      bnd (F_X5_isEmpty x1 m4) fun v5 m6 =>
      (if v5 = iI 0 then
        bnd (F_X5_isEmpty x3 m6) fun v7 m8 =>
        (if v7 = iI 0 then
          bnd (F_X5_isRow x1 m8) fun v9 m10 =>
          (if v9 = iI 0 then
            some ((iI (-12)), m10)
          else
            rd 6 x1 fun j11 =>
            rd 6 x3 fun j12 =>
            (if (gI m10 104 j11) = (gI m10 104 j12) then
              bnd (F_X5_reaches x1 x2 x5 m10) fun v13 m14 =>
              (if v13 = iI 0 then
                some ((iI (-13)), m14)
              else
                bnd (F_X5_reaches x3 x4 x5 m14) fun v15 m16 =>
                (if v15 = iI 0 then
                  some ((iI (-13)), m16)
                else
                  rd 6 x1 fun j17 =>
                  rd 6 x3 fun j18 =>
                  cpL 60 60 m16 (107 + 1 * j17) x2 (107 + 1 * j18) x4 x5 fun m19 =>
                  some (x5, m19)))
            else
              some ((iI (-12)), m10)))
        else
          some ((iI (-11)), m8))
      else
        some ((iI (-11)), m6))))
set_option maxRecDepth 100000 in
set_option maxHeartbeats 4000000 in
theorem c_X8_shift (ll : Launch) (cx : CX) (x1 : Int32) (x2 : Int32) (x3 : Int32) (x4 : Int32) (x5 : Int32) (m : Mm) : MT ll yX8_shift cX8_shift 6 ((some .int)) rm_X8_shift cx NN NN Lay cvI 0 0 [.ref (cx.2.2.1 + 1), .int x1, .int x2, .int x3, .int x4, .int x5] m (F_X8_shift x1 x2 x3 x4 x5 m) := by
  refine MT_of (by decide) (Nat.le_of_ble_eq_true rfl) ?_
  intro pp ee ss mm aa bb me co hK hr hk hn
  have C : CM pp ss mm aa me co cX8_shift 6 RX8 cx ((some .int)) := ⟨hK, hr, hk⟩
  show TI pp ll ee rm_X8_shift ss mm aa bb me co 6 cx 0 [(0, .ref (cx.2.2.1 + 1)), (1, .int x1), (2, .int x2), (3, .int x3), (4, .int x4), (5, .int x5)] [] m (F_X8_shift x1 x2 x3 x4 x5 m)
  unfold F_X8_shift
  refine T_aload_n C.1 dX8_shift_0 0 rfl ?_
  refine T_getR (x := 103) C.1 fd_X8_59 (fun _ _ _ _ => rfl) sh1 le1 (fun _ h => h) rfl (by decide) dX8_shift_1 ?_
  refine T_iload_n C.1 dX8_shift_4 1 rfl ?_
  refine T_callVI (rm := rm_X5_isShelf) [.int x1] [] C.1 dX8_shift_5 mw_X5_isShelf wm_2_90 wm_2_91 wm_2_92 ⟨Nat.le_of_ble_eq_true rfl, Nat.le_of_ble_eq_true rfl⟩ ⟨rfl, rfl⟩ ⟨Nat.zero_le _, Nat.zero_le _⟩ rfl rfl (Nat.le_of_ble_eq_true rfl) sh103 le103 ⟨rfl, rfl⟩ (c_X5_isShelf ll cx x1 m) (fun v1 m2 => ?_)
  refine T_if_eq (tgt := 22) C.1 dX8_shift_8 (by decide) ?_ ?_
  · refine T_iconst C.1 dX8_shift_22 ?_
    exact T_iret C.1 C.2.1 C.2.2 dX8_shift_23
  · refine T_aload_n C.1 dX8_shift_11 0 rfl ?_
    refine T_getR (x := 103) C.1 fd_X8_59 (fun _ _ _ _ => rfl) sh1 le1 (fun _ h => h) rfl (by decide) dX8_shift_12 ?_
    refine T_iload_n C.1 dX8_shift_15 3 rfl ?_
    refine T_callVI (rm := rm_X5_isShelf) [.int x3] [] C.1 dX8_shift_16 mw_X5_isShelf wm_2_90 wm_2_91 wm_2_92 ⟨Nat.le_of_ble_eq_true rfl, Nat.le_of_ble_eq_true rfl⟩ ⟨rfl, rfl⟩ ⟨Nat.zero_le _, Nat.zero_le _⟩ rfl rfl (Nat.le_of_ble_eq_true rfl) sh103 le103 ⟨rfl, rfl⟩ (c_X5_isShelf ll cx x3 m2) (fun v3 m4 => ?_)
    refine T_if_ne (tgt := 24) C.1 dX8_shift_19 (by decide) ?_ ?_
    · refine T_aload_n C.1 dX8_shift_24 0 rfl ?_
      refine T_getR (x := 103) C.1 fd_X8_59 (fun _ _ _ _ => rfl) sh1 le1 (fun _ h => h) rfl (by decide) dX8_shift_25 ?_
      refine T_iload_n C.1 dX8_shift_28 1 rfl ?_
      refine T_callVI (rm := rm_X5_isEmpty) [.int x1] [] C.1 dX8_shift_29 mw_X5_isEmpty wm_4_158 wm_2_100 wm_2_101 ⟨Nat.le_of_ble_eq_true rfl, Nat.le_of_ble_eq_true rfl⟩ ⟨rfl, rfl⟩ ⟨Nat.zero_le _, Nat.zero_le _⟩ rfl rfl (Nat.le_of_ble_eq_true rfl) sh103 le103 ⟨rfl, rfl⟩ (c_X5_isEmpty ll cx x1 m4) (fun v5 m6 => ?_)
      refine T_if_ne (tgt := 46) C.1 dX8_shift_32 (by decide) ?_ ?_
      · refine T_bipush C.1 dX8_shift_46 rfl ?_
        exact T_iret C.1 C.2.1 C.2.2 dX8_shift_48
      · refine T_aload_n C.1 dX8_shift_35 0 rfl ?_
        refine T_getR (x := 103) C.1 fd_X8_59 (fun _ _ _ _ => rfl) sh1 le1 (fun _ h => h) rfl (by decide) dX8_shift_36 ?_
        refine T_iload_n C.1 dX8_shift_39 3 rfl ?_
        refine T_callVI (rm := rm_X5_isEmpty) [.int x3] [] C.1 dX8_shift_40 mw_X5_isEmpty wm_4_158 wm_2_100 wm_2_101 ⟨Nat.le_of_ble_eq_true rfl, Nat.le_of_ble_eq_true rfl⟩ ⟨rfl, rfl⟩ ⟨Nat.zero_le _, Nat.zero_le _⟩ rfl rfl (Nat.le_of_ble_eq_true rfl) sh103 le103 ⟨rfl, rfl⟩ (c_X5_isEmpty ll cx x3 m6) (fun v7 m8 => ?_)
        refine T_if_eq (tgt := 49) C.1 dX8_shift_43 (by decide) ?_ ?_
        · refine T_aload_n C.1 dX8_shift_49 0 rfl ?_
          refine T_getR (x := 103) C.1 fd_X8_59 (fun _ _ _ _ => rfl) sh1 le1 (fun _ h => h) rfl (by decide) dX8_shift_50 ?_
          refine T_iload_n C.1 dX8_shift_53 1 rfl ?_
          refine T_callVI (rm := rm_X5_isRow) [.int x1] [] C.1 dX8_shift_54 mw_X5_isRow wm_4_159 wm_2_112 wm_2_113 ⟨Nat.le_of_ble_eq_true rfl, Nat.le_of_ble_eq_true rfl⟩ ⟨rfl, rfl⟩ ⟨Nat.zero_le _, Nat.zero_le _⟩ rfl rfl (Nat.le_of_ble_eq_true rfl) sh103 le103 ⟨rfl, rfl⟩ (c_X5_isRow ll cx x1 m8) (fun v9 m10 => ?_)
          refine T_if_eq (tgt := 81) C.1 dX8_shift_57 (by decide) ?_ ?_
          · refine T_bipush C.1 dX8_shift_81 rfl ?_
            exact T_iret C.1 C.2.1 C.2.2 dX8_shift_83
          · refine T_aload_n C.1 dX8_shift_60 0 rfl ?_
            refine T_getR (x := 103) C.1 fd_X8_59 (fun _ _ _ _ => rfl) sh1 le1 (fun _ h => h) rfl (by decide) dX8_shift_61 ?_
            refine T_getR (x := 104) C.1 fd_X8_281 (fun _ _ _ _ => rfl) sh103 le103 (fun _ h => h) rfl (by decide) dX8_shift_64 ?_
            refine T_iload_n C.1 dX8_shift_67 1 rfl ?_
            refine T_iald C.1 dX8_shift_68 sh104 le104 (fun j11 => ?_)
            refine T_aload_n C.1 dX8_shift_69 0 rfl ?_
            refine T_getR (x := 103) C.1 fd_X8_59 (fun _ _ _ _ => rfl) sh1 le1 (fun _ h => h) rfl (by decide) dX8_shift_70 ?_
            refine T_getR (x := 104) C.1 fd_X8_281 (fun _ _ _ _ => rfl) sh103 le103 (fun _ h => h) rfl (by decide) dX8_shift_73 ?_
            refine T_iload_n C.1 dX8_shift_76 3 rfl ?_
            refine T_iald C.1 dX8_shift_77 sh104 le104 (fun j12 => ?_)
            refine T_icmp_eq (tgt := 84) C.1 dX8_shift_78 (by decide) ?_ ?_
            · refine T_aload_n C.1 dX8_shift_84 0 rfl ?_
              refine T_getR (x := 103) C.1 fd_X8_59 (fun _ _ _ _ => rfl) sh1 le1 (fun _ h => h) rfl (by decide) dX8_shift_85 ?_
              refine T_iload_n C.1 dX8_shift_88 1 rfl ?_
              refine T_iload_n C.1 dX8_shift_89 2 rfl ?_
              refine T_iload C.1 dX8_shift_90 5 rfl ?_
              refine T_callVI (rm := rm_X5_reaches) [.int x1, .int x2, .int x5] [] C.1 dX8_shift_92 mw_X5_reaches wm_4_160 wm_4_161 wm_4_162 ⟨Nat.le_of_ble_eq_true rfl, Nat.le_of_ble_eq_true rfl⟩ ⟨rfl, rfl⟩ ⟨Nat.zero_le _, Nat.zero_le _⟩ rfl rfl (Nat.le_of_ble_eq_true rfl) sh103 le103 ⟨rfl, rfl⟩ (c_X5_reaches ll cx x1 x2 x5 m10) (fun v13 m14 => ?_)
              refine T_if_eq (tgt := 113) C.1 dX8_shift_95 (by decide) ?_ ?_
              · refine T_bipush C.1 dX8_shift_113 rfl ?_
                exact T_iret C.1 C.2.1 C.2.2 dX8_shift_115
              · refine T_aload_n C.1 dX8_shift_98 0 rfl ?_
                refine T_getR (x := 103) C.1 fd_X8_59 (fun _ _ _ _ => rfl) sh1 le1 (fun _ h => h) rfl (by decide) dX8_shift_99 ?_
                refine T_iload_n C.1 dX8_shift_102 3 rfl ?_
                refine T_iload C.1 dX8_shift_103 4 rfl ?_
                refine T_iload C.1 dX8_shift_105 5 rfl ?_
                refine T_callVI (rm := rm_X5_reaches) [.int x3, .int x4, .int x5] [] C.1 dX8_shift_107 mw_X5_reaches wm_4_160 wm_4_161 wm_4_162 ⟨Nat.le_of_ble_eq_true rfl, Nat.le_of_ble_eq_true rfl⟩ ⟨rfl, rfl⟩ ⟨Nat.zero_le _, Nat.zero_le _⟩ rfl rfl (Nat.le_of_ble_eq_true rfl) sh103 le103 ⟨rfl, rfl⟩ (c_X5_reaches ll cx x3 x4 x5 m14) (fun v15 m16 => ?_)
                refine T_if_ne (tgt := 116) C.1 dX8_shift_110 (by decide) ?_ ?_
                · refine T_aload_n C.1 dX8_shift_116 0 rfl ?_
                  refine T_getR (x := 103) C.1 fd_X8_59 (fun _ _ _ _ => rfl) sh1 le1 (fun _ h => h) rfl (by decide) dX8_shift_117 ?_
                  refine T_getR (x := 106) C.1 fd_X8_226 (fun _ _ _ _ => rfl) sh103 le103 (fun _ h => h) rfl (by decide) dX8_shift_120 ?_
                  refine T_iload_n C.1 dX8_shift_123 1 rfl ?_
                  refine T_aald (x := fun j => 107 + 1 * j) C.1 dX8_shift_124 (by decide) sh106 le106 (fun _ h => h) ar106 (fun j17 hj17 => ?_)
                  refine T_iload_n C.1 dX8_shift_125 2 rfl ?_
                  refine T_aload_n C.1 dX8_shift_126 0 rfl ?_
                  refine T_getR (x := 103) C.1 fd_X8_59 (fun _ _ _ _ => rfl) sh1 le1 (fun _ h => h) rfl (by decide) dX8_shift_127 ?_
                  refine T_getR (x := 106) C.1 fd_X8_226 (fun _ _ _ _ => rfl) sh103 le103 (fun _ h => h) rfl (by decide) dX8_shift_130 ?_
                  refine T_iload_n C.1 dX8_shift_133 3 rfl ?_
                  refine T_aald (x := fun j => 107 + 1 * j) C.1 dX8_shift_134 (by decide) sh106 le106 (fun _ h => h) ar106 (fun j18 hj18 => ?_)
                  refine T_iload C.1 dX8_shift_135 4 rfl ?_
                  refine T_iload C.1 dX8_shift_137 5 rfl ?_
                  refine T_cpL C.1 (fun _ _ _ h => h) dX8_shift_139 wm_4_164 wx_ac_1 wx_ac_2 wx_sys (shar106 hj17) (shp_le (shar106 hj17) (by decide)) (shar106 hj18) (shp_le (shar106 hj18) (by decide)) (Nat.le_of_ble_eq_true rfl) (Nat.le_of_ble_eq_true rfl) (fun m19 => ?_)
                  refine T_iload C.1 dX8_shift_142 5 rfl ?_
                  exact T_iret C.1 C.2.1 C.2.2 dX8_shift_144
                · refine T_bipush C.1 dX8_shift_113 rfl ?_
                  exact T_iret C.1 C.2.1 C.2.2 dX8_shift_115
            · refine T_bipush C.1 dX8_shift_81 rfl ?_
              exact T_iret C.1 C.2.1 C.2.2 dX8_shift_83
        · refine T_bipush C.1 dX8_shift_46 rfl ?_
          exact T_iret C.1 C.2.1 C.2.2 dX8_shift_48
    · refine T_iconst C.1 dX8_shift_22 ?_
      exact T_iret C.1 C.2.1 C.2.2 dX8_shift_23
def rm_X8_taken : Room := { frames := 3, cells := 0, slots := 0, locals := 82 }
def F_X8_taken_68  (a1 : Int32) (a2 : Int32) (m : Mm) : Option (Int32 × Mm) :=
  bnd (F_X0_isUnder a2 a1 m) fun v1 m2 =>
  (if v1 = iI 0 then
    some ((iI (-12)), m2)
  else
    some (a2, m2))
set_option maxRecDepth 100000 in
set_option maxHeartbeats 4000000 in
theorem t_X8_taken_68 {pp : Program} {ll : Launch} {ee : Env} {ss : State} {mm : MethodId} {aa : Array Value} {bb : List Frame} {me : Method} {co : Code} {cx : CX}     (C : CM pp ss mm aa me co cX8_taken 4 RX8 cx ((some .int)))    (a1 : Int32) (a2 : Int32) (m : Mm) : TI pp ll ee rm_X8_taken ss mm aa bb me co 4 cx 68 [(2, .int a1)] [.int a2] m (F_X8_taken_68  a1 a2 m) := by
  unfold F_X8_taken_68
  refine T_istore_n (lv' := [(3, .int a2), (2, .int a1)]) C.1 dX8_taken_68 (by decide) rfl ?_
  refine T_iload_n C.1 dX8_taken_69 0 rfl ?_
  refine T_iload_n C.1 dX8_taken_70 1 rfl ?_
  refine T_callSI (rm := rm_X0_isUnder) [.int a2, .int a1] [] C.1 dX8_taken_71 mw_X0_isUnder wm_4_170 wm_4_171 ⟨Nat.le_of_ble_eq_true rfl, Nat.le_of_ble_eq_true rfl⟩ ⟨rfl, rfl⟩ ⟨Nat.zero_le _, Nat.zero_le _⟩ rfl rfl (Nat.le_of_ble_eq_true rfl) (c_X0_isUnder ll cx a2 a1 m) (fun v1 m2 => ?_)
  refine T_if_eq (tgt := 81) C.1 dX8_taken_74 (by decide) ?_ ?_
  · refine T_bipush C.1 dX8_taken_81 rfl ?_
    exact T_iret C.1 C.2.1 C.2.2 dX8_taken_83
  · refine T_iload_n C.1 dX8_taken_77 0 rfl ?_
    refine T_goto (tgt := 83) C.1 dX8_taken_78 (by decide) ?_
    exact T_iret C.1 C.2.1 C.2.2 dX8_taken_83
def F_X8_taken  (x1 : Int32) (x2 : Int32) (m : Mm) : Option (Int32 × Mm) :=
  bnd (F_X5_isShelf x1 m) fun v1 m2 =>
  (if v1 = iI 0 then
    some ((iI (-1)), m2)
  else
    (if x2 < iI 0 then
      some ((iI (-1)), m2)
    else
      (if x2 < (iI 8) then
        bnd (F_X5_isEmpty x1 m2) fun v3 m4 =>
        (if v3 = iI 0 then
          bnd (F_X5_isRow x1 m4) fun v5 m6 =>
          (if v5 = iI 0 then
            rd 6 x1 fun j7 =>
            bnd (F_X0_kindOf (gI m6 105 j7) m6) fun v8 m9 =>
            F_X8_taken_68 x2 v8 m9
          else
            F_X8_taken_68 x2 (iI (-1)) m6)
        else
          some ((iI (-11)), m4))
      else
        some ((iI (-1)), m2))))
set_option maxRecDepth 100000 in
set_option maxHeartbeats 4000000 in
theorem c_X8_taken (ll : Launch) (cx : CX) (x1 : Int32) (x2 : Int32) (m : Mm) : MT ll yX8_taken cX8_taken 4 ((some .int)) rm_X8_taken cx NN NN Lay cvI 0 0 [.ref (cx.2.2.1 + 1), .int x1, .int x2] m (F_X8_taken x1 x2 m) := by
  refine MT_of (by decide) (Nat.le_of_ble_eq_true rfl) ?_
  intro pp ee ss mm aa bb me co hK hr hk hn
  have C : CM pp ss mm aa me co cX8_taken 4 RX8 cx ((some .int)) := ⟨hK, hr, hk⟩
  show TI pp ll ee rm_X8_taken ss mm aa bb me co 4 cx 0 [(0, .ref (cx.2.2.1 + 1)), (1, .int x1), (2, .int x2)] [] m (F_X8_taken x1 x2 m)
  unfold F_X8_taken
  refine T_aload_n C.1 dX8_taken_0 0 rfl ?_
  refine T_getR (x := 103) C.1 fd_X8_59 (fun _ _ _ _ => rfl) sh1 le1 (fun _ h => h) rfl (by decide) dX8_taken_1 ?_
  refine T_iload_n C.1 dX8_taken_4 1 rfl ?_
  refine T_callVI (rm := rm_X5_isShelf) [.int x1] [] C.1 dX8_taken_5 mw_X5_isShelf wm_2_90 wm_2_91 wm_2_92 ⟨Nat.le_of_ble_eq_true rfl, Nat.le_of_ble_eq_true rfl⟩ ⟨rfl, rfl⟩ ⟨Nat.zero_le _, Nat.zero_le _⟩ rfl rfl (Nat.le_of_ble_eq_true rfl) sh103 le103 ⟨rfl, rfl⟩ (c_X5_isShelf ll cx x1 m) (fun v1 m2 => ?_)
  refine T_if_eq (tgt := 21) C.1 dX8_taken_8 (by decide) ?_ ?_
  · refine T_iconst C.1 dX8_taken_21 ?_
    exact T_iret C.1 C.2.1 C.2.2 dX8_taken_22
  · refine T_iload_n C.1 dX8_taken_11 2 rfl ?_
    refine T_if_lt (tgt := 21) C.1 dX8_taken_12 (by decide) ?_ ?_
    · refine T_iconst C.1 dX8_taken_21 ?_
      exact T_iret C.1 C.2.1 C.2.2 dX8_taken_22
    · refine T_iload_n C.1 dX8_taken_15 2 rfl ?_
      refine T_bipush C.1 dX8_taken_16 rfl ?_
      refine T_icmp_lt (tgt := 23) C.1 dX8_taken_18 (by decide) ?_ ?_
      · refine T_aload_n C.1 dX8_taken_23 0 rfl ?_
        refine T_getR (x := 103) C.1 fd_X8_59 (fun _ _ _ _ => rfl) sh1 le1 (fun _ h => h) rfl (by decide) dX8_taken_24 ?_
        refine T_iload_n C.1 dX8_taken_27 1 rfl ?_
        refine T_callVI (rm := rm_X5_isEmpty) [.int x1] [] C.1 dX8_taken_28 mw_X5_isEmpty wm_4_158 wm_2_100 wm_2_101 ⟨Nat.le_of_ble_eq_true rfl, Nat.le_of_ble_eq_true rfl⟩ ⟨rfl, rfl⟩ ⟨Nat.zero_le _, Nat.zero_le _⟩ rfl rfl (Nat.le_of_ble_eq_true rfl) sh103 le103 ⟨rfl, rfl⟩ (c_X5_isEmpty ll cx x1 m2) (fun v3 m4 => ?_)
        refine T_if_eq (tgt := 37) C.1 dX8_taken_31 (by decide) ?_ ?_
        · refine T_aload_n C.1 dX8_taken_37 0 rfl ?_
          refine T_getR (x := 103) C.1 fd_X8_59 (fun _ _ _ _ => rfl) sh1 le1 (fun _ h => h) rfl (by decide) dX8_taken_38 ?_
          refine T_iload_n C.1 dX8_taken_41 1 rfl ?_
          refine T_callVI (rm := rm_X5_isRow) [.int x1] [] C.1 dX8_taken_42 mw_X5_isRow wm_4_159 wm_2_112 wm_2_113 ⟨Nat.le_of_ble_eq_true rfl, Nat.le_of_ble_eq_true rfl⟩ ⟨rfl, rfl⟩ ⟨Nat.zero_le _, Nat.zero_le _⟩ rfl rfl (Nat.le_of_ble_eq_true rfl) sh103 le103 ⟨rfl, rfl⟩ (c_X5_isRow ll cx x1 m4) (fun v5 m6 => ?_)
          refine T_if_eq (tgt := 52) C.1 dX8_taken_45 (by decide) ?_ ?_
          · refine T_aload_n C.1 dX8_taken_52 0 rfl ?_
            refine T_getR (x := 100) C.1 fd_X8_52 (fun _ _ _ _ => rfl) sh1 le1 (fun _ h => h) rfl (by decide) dX8_taken_53 ?_
            refine T_aload_n C.1 dX8_taken_56 0 rfl ?_
            refine T_getR (x := 103) C.1 fd_X8_59 (fun _ _ _ _ => rfl) sh1 le1 (fun _ h => h) rfl (by decide) dX8_taken_57 ?_
            refine T_getR (x := 105) C.1 fd_X8_230 (fun _ _ _ _ => rfl) sh103 le103 (fun _ h => h) rfl (by decide) dX8_taken_60 ?_
            refine T_iload_n C.1 dX8_taken_63 1 rfl ?_
            refine T_iald C.1 dX8_taken_64 sh105 le105 (fun j7 => ?_)
            refine T_callVI (rm := rm_X0_kindOf) [.int (gI m6 105 j7)] [] C.1 dX8_taken_65 mw_X0_kindOf wm_4_169 wm_4_91 wm_4_92 ⟨Nat.le_of_ble_eq_true rfl, Nat.le_of_ble_eq_true rfl⟩ ⟨rfl, rfl⟩ ⟨Nat.zero_le _, Nat.zero_le _⟩ rfl rfl (Nat.le_of_ble_eq_true rfl) sh100 le100 ⟨rfl, rfl⟩ (c_X0_kindOf ll cx (gI m6 105 j7) m6) (fun v8 m9 => ?_)
            exact T_sub [2] rfl (t_X8_taken_68 C x2 v8 m9)
          · refine T_iconst C.1 dX8_taken_48 ?_
            refine T_goto (tgt := 68) C.1 dX8_taken_49 (by decide) ?_
            exact T_sub [2] rfl (t_X8_taken_68 C x2 (iI (-1)) m6)
        · refine T_bipush C.1 dX8_taken_34 rfl ?_
          exact T_iret C.1 C.2.1 C.2.2 dX8_taken_36
      · refine T_iconst C.1 dX8_taken_21 ?_
        exact T_iret C.1 C.2.1 C.2.2 dX8_taken_22
def rm_X8_count : Room := { frames := 3, cells := 0, slots := 0, locals := 85 }
def F_X8_count  (x1 : Int32) (m : Mm) : Option (Int32 × Mm) :=
  tsw x1 (0) [(some ((gI m 2 0), m)),
   (some (((gI m 2 0) - (gI m 23 4)), m)),
   (bnd (F_X2_countSafe 23 m) fun v1 m2 =>
  some (v1, m2)),
   (some ((gI m 16 1), m)),
   (some ((gI m 11 4), m)),
   (some ((gI m 100 1), m)),
   (some ((gI m 100 3), m))] (some ((iI (-1)), m))
set_option maxRecDepth 100000 in
set_option maxHeartbeats 4000000 in
theorem c_X8_count (ll : Launch) (cx : CX) (x1 : Int32) (m : Mm) : MT ll yX8_count cX8_count 2 ((some .int)) rm_X8_count cx NN NN Lay cvI 0 0 [.ref (cx.2.2.1 + 1), .int x1] m (F_X8_count x1 m) := by
  refine MT_of (by decide) (Nat.le_of_ble_eq_true rfl) ?_
  intro pp ee ss mm aa bb me co hK hr hk hn
  have C : CM pp ss mm aa me co cX8_count 2 RX8 cx ((some .int)) := ⟨hK, hr, hk⟩
  show TI pp ll ee rm_X8_count ss mm aa bb me co 2 cx 0 [(0, .ref (cx.2.2.1 + 1)), (1, .int x1)] [] m (F_X8_count x1 m)
  unfold F_X8_count
  refine T_iload_n C.1 dX8_count_0 1 rfl ?_
  refine T_tsw (lo := (0)) (os := [43, 51, 67, 79, 87, 95, 103]) C.1 dX8_count_1 rfl (by decide) (tgd := 112) (by decide) ⟨⟨44, by decide, ?_⟩, ⟨52, by decide, ?_⟩, ⟨68, by decide, ?_⟩, ⟨80, by decide, ?_⟩, ⟨88, by decide, ?_⟩, ⟨96, by decide, ?_⟩, ⟨104, by decide, ?_⟩, trivial⟩ ?_
  · show TI pp ll ee rm_X8_count ss mm aa bb me co 2 cx _ _ _ _ _
    refine T_aload_n C.1 dX8_count_44 0 rfl ?_
    refine T_getR (x := 2) C.1 fd_X8_10 (fun _ _ _ _ => rfl) sh1 le1 (fun _ h => h) rfl (by decide) dX8_count_45 ?_
    refine T_getI C.1 fd_X8_71 (fun _ _ _ _ => rfl) sh2 le2 dX8_count_48 ?_
    exact T_iret C.1 C.2.1 C.2.2 dX8_count_51
  · show TI pp ll ee rm_X8_count ss mm aa bb me co 2 cx _ _ _ _ _
    refine T_aload_n C.1 dX8_count_52 0 rfl ?_
    refine T_getR (x := 2) C.1 fd_X8_10 (fun _ _ _ _ => rfl) sh1 le1 (fun _ h => h) rfl (by decide) dX8_count_53 ?_
    refine T_getI C.1 fd_X8_71 (fun _ _ _ _ => rfl) sh2 le2 dX8_count_56 ?_
    refine T_aload_n C.1 dX8_count_59 0 rfl ?_
    refine T_getR (x := 23) C.1 fd_X8_33 (fun _ _ _ _ => rfl) sh1 le1 (fun _ h => h) rfl (by decide) dX8_count_60 ?_
    refine T_getI C.1 fd_X8_120 (fun _ _ _ _ => rfl) sh23 le23 dX8_count_63 ?_
    refine T_isub C.1 dX8_count_66 ?_
    exact T_iret C.1 C.2.1 C.2.2 dX8_count_67
  · show TI pp ll ee rm_X8_count ss mm aa bb me co 2 cx _ _ _ _ _
    refine T_aload_n C.1 dX8_count_68 0 rfl ?_
    refine T_getR (x := 23) C.1 fd_X8_33 (fun _ _ _ _ => rfl) sh1 le1 (fun _ h => h) rfl (by decide) dX8_count_69 ?_
    refine T_aload_n C.1 dX8_count_72 0 rfl ?_
    refine T_getR (x := 2) C.1 fd_X8_10 (fun _ _ _ _ => rfl) sh1 le1 (fun _ h => h) rfl (by decide) dX8_count_73 ?_
    refine T_callVI (rm := rm_X2_countSafe) [.ref (cx.2.2.1 + 2)] [] C.1 dX8_count_76 mw_X2_countSafe wm_4_177 wm_4_178 wm_4_179 ⟨Nat.le_of_ble_eq_true rfl, Nat.le_of_ble_eq_true rfl⟩ ⟨rfl, rfl⟩ ⟨Nat.zero_le _, Nat.zero_le _⟩ rfl rfl (Nat.le_of_ble_eq_true rfl) sh23 le23 ⟨rfl, rfl⟩ (c_X2_countSafe ll cx 23 m) (fun v1 m2 => ?_)
    exact T_iret C.1 C.2.1 C.2.2 dX8_count_79
  · show TI pp ll ee rm_X8_count ss mm aa bb me co 2 cx _ _ _ _ _
    refine T_aload_n C.1 dX8_count_80 0 rfl ?_
    refine T_getR (x := 16) C.1 fd_X8_26 (fun _ _ _ _ => rfl) sh1 le1 (fun _ h => h) rfl (by decide) dX8_count_81 ?_
    refine T_getI C.1 fd_X8_133 (fun _ _ _ _ => rfl) sh16 le16 dX8_count_84 ?_
    exact T_iret C.1 C.2.1 C.2.2 dX8_count_87
  · show TI pp ll ee rm_X8_count ss mm aa bb me co 2 cx _ _ _ _ _
    refine T_aload_n C.1 dX8_count_88 0 rfl ?_
    refine T_getR (x := 11) C.1 fd_X8_19 (fun _ _ _ _ => rfl) sh1 le1 (fun _ h => h) rfl (by decide) dX8_count_89 ?_
    refine T_getI C.1 fd_X8_247 (fun _ _ _ _ => rfl) sh11 le11 dX8_count_92 ?_
    exact T_iret C.1 C.2.1 C.2.2 dX8_count_95
  · show TI pp ll ee rm_X8_count ss mm aa bb me co 2 cx _ _ _ _ _
    refine T_aload_n C.1 dX8_count_96 0 rfl ?_
    refine T_getR (x := 100) C.1 fd_X8_52 (fun _ _ _ _ => rfl) sh1 le1 (fun _ h => h) rfl (by decide) dX8_count_97 ?_
    refine T_getI C.1 fd_X8_317 (fun _ _ _ _ => rfl) sh100 le100 dX8_count_100 ?_
    exact T_iret C.1 C.2.1 C.2.2 dX8_count_103
  · show TI pp ll ee rm_X8_count ss mm aa bb me co 2 cx _ _ _ _ _
    refine T_aload_n C.1 dX8_count_104 0 rfl ?_
    refine T_getR (x := 100) C.1 fd_X8_52 (fun _ _ _ _ => rfl) sh1 le1 (fun _ h => h) rfl (by decide) dX8_count_105 ?_
    refine T_getI C.1 fd_X8_320 (fun _ _ _ _ => rfl) sh100 le100 dX8_count_108 ?_
    exact T_iret C.1 C.2.1 C.2.2 dX8_count_111
  · show TI pp ll ee rm_X8_count ss mm aa bb me co 2 cx _ _ _ _ _
    refine T_iconst C.1 dX8_count_112 ?_
    exact T_iret C.1 C.2.1 C.2.2 dX8_count_113
def rm_X9_in : Room := { frames := 1, cells := 0, slots := 0, locals := 40 }
def F_X9_in  (x1 : Int32) (x2 : Int32) (x3 : Int32) (m : Mm) : Option (Int32 × Mm) :=
  (if x1 < x2 then
    rz (iI 0) m
  else
    (if x3 < x1 then
      rz (iI 0) m
    else
      rz (iI 1) m))
set_option maxRecDepth 100000 in
set_option maxHeartbeats 4000000 in
theorem c_X9_in (ll : Launch) (cx : CX) (x1 : Int32) (x2 : Int32) (x3 : Int32) (m : Mm) : MT ll yX9_in cX9_in 3 ((some .boolean)) rm_X9_in cx NN NN Lay cvI 0 0 [.int x1, .int x2, .int x3] m (F_X9_in x1 x2 x3 m) := by
  refine MT_of (by decide) (Nat.le_of_ble_eq_true rfl) ?_
  intro pp ee ss mm aa bb me co hK hr hk hn
  have C : CM pp ss mm aa me co cX9_in 3 RX9 cx ((some .boolean)) := ⟨hK, hr, hk⟩
  show TI pp ll ee rm_X9_in ss mm aa bb me co 3 cx 0 [(0, .int x1), (1, .int x2), (2, .int x3)] [] m (F_X9_in x1 x2 x3 m)
  unfold F_X9_in
  refine T_iload_n C.1 dX9_in_0 0 rfl ?_
  refine T_iload_n C.1 dX9_in_1 1 rfl ?_
  refine T_icmp_lt (tgt := 14) C.1 dX9_in_2 (by decide) ?_ ?_
  · refine T_iconst C.1 dX9_in_14 ?_
    exact T_zret C.1 C.2.1 C.2.2 dX9_in_15
  · refine T_iload_n C.1 dX9_in_5 0 rfl ?_
    refine T_iload_n C.1 dX9_in_6 2 rfl ?_
    refine T_icmp_gt (tgt := 14) C.1 dX9_in_7 (by decide) ?_ ?_
    · refine T_iconst C.1 dX9_in_14 ?_
      exact T_zret C.1 C.2.1 C.2.2 dX9_in_15
    · refine T_iconst C.1 dX9_in_10 ?_
      refine T_goto (tgt := 15) C.1 dX9_in_11 (by decide) ?_
      exact T_zret C.1 C.2.1 C.2.2 dX9_in_15
def rm_X9_isPerson : Room := { frames := 2, cells := 0, slots := 0, locals := 62 }
def F_X9_isPerson  (x1 : Int32) (m : Mm) : Option (Int32 × Mm) :=
  bnd (F_X9_in x1 (iI 0) ((gI m 113 1) - (iI 1)) m) fun v1 m2 =>
  rz v1 m2
set_option maxRecDepth 100000 in
set_option maxHeartbeats 4000000 in
theorem c_X9_isPerson (ll : Launch) (cx : CX) (x1 : Int32) (m : Mm) : MT ll yX9_isPerson cX9_isPerson 2 ((some .boolean)) rm_X9_isPerson cx NN NN Lay cvI 0 0 [.ref (cx.2.2.1 + 113), .int x1] m (F_X9_isPerson x1 m) := by
  refine MT_of (by decide) (Nat.le_of_ble_eq_true rfl) ?_
  intro pp ee ss mm aa bb me co hK hr hk hn
  have C : CM pp ss mm aa me co cX9_isPerson 2 RX9 cx ((some .boolean)) := ⟨hK, hr, hk⟩
  show TI pp ll ee rm_X9_isPerson ss mm aa bb me co 2 cx 0 [(0, .ref (cx.2.2.1 + 113)), (1, .int x1)] [] m (F_X9_isPerson x1 m)
  unfold F_X9_isPerson
  refine T_iload_n C.1 dX9_isPerson_0 1 rfl ?_
  refine T_iconst C.1 dX9_isPerson_1 ?_
  refine T_aload_n C.1 dX9_isPerson_2 0 rfl ?_
  refine T_getI C.1 fd_X9_155 (fun _ _ _ _ => rfl) sh113 le113 dX9_isPerson_3 ?_
  refine T_iconst C.1 dX9_isPerson_6 ?_
  refine T_isub C.1 dX9_isPerson_7 ?_
  refine T_callSI (rm := rm_X9_in) [.int x1, .int (iI 0), .int ((gI m 113 1) - (iI 1))] [] C.1 dX9_isPerson_8 mw_X9_in wm_5_145 wm_5_146 ⟨Nat.le_of_ble_eq_true rfl, Nat.le_of_ble_eq_true rfl⟩ ⟨rfl, rfl⟩ ⟨Nat.zero_le _, Nat.zero_le _⟩ rfl rfl (Nat.le_of_ble_eq_true rfl) (c_X9_in ll cx x1 (iI 0) ((gI m 113 1) - (iI 1)) m) (fun v1 m2 => ?_)
  exact T_zret C.1 C.2.1 C.2.2 dX9_isPerson_11
def rm_X9_beginAt : Room := { frames := 1, cells := 0, slots := 0, locals := 40 }
def F_X9_beginAt_90  (a1 : Int32) (a2 : Int32) (a3 : Int32) (m : Mm) : Option (Unit × Mm) :=
  wrI 2 m 121 a3 a2 fun m1 =>
  wrI 2 m1 122 a1 (iI 1) fun m2 =>
  some ((), m2)
set_option maxRecDepth 100000 in
set_option maxHeartbeats 4000000 in
theorem t_X9_beginAt_90 {pp : Program} {ll : Launch} {ee : Env} {ss : State} {mm : MethodId} {aa : Array Value} {bb : List Frame} {me : Method} {co : Code} {cx : CX}     (C : CM pp ss mm aa me co cX9_beginAt 3 RX9 cx (none))    (a1 : Int32) (a2 : Int32) (a3 : Int32) (m : Mm) : TV pp ll ee rm_X9_beginAt ss mm aa bb me co 3 cx 90 [(0, .ref (cx.2.2.1 + 113)), (1, .int a1)] [.int a2, .int a3, .ref (cx.2.2.1 + 121)] m (F_X9_beginAt_90  a1 a2 a3 m) := by
  unfold F_X9_beginAt_90
  refine T_iast C.1 LyI_Lay sh121 le121 dX9_beginAt_90 (fun m1 => ?_)
  refine T_aload_n C.1 dX9_beginAt_91 0 rfl ?_
  refine T_getR (x := 122) C.1 fd_X9_38 (fun _ _ _ _ => rfl) sh113 le113 (fun _ h => h) rfl (by decide) dX9_beginAt_92 ?_
  refine T_iload_n C.1 dX9_beginAt_95 1 rfl ?_
  refine T_iconst C.1 dX9_beginAt_96 ?_
  refine T_iast C.1 LyI_Lay sh122 le122 dX9_beginAt_97 (fun m2 => ?_)
  exact T_vret C.1 C.2.1 C.2.2 dX9_beginAt_98
def F_X9_beginAt_2  : Nat → Int32 → Int32 → Mm → Option (Unit × Mm)
  | 0, _, _, _ => none
  | f + 1, a1, a2, m =>
    (if (gI m 113 1) ≤ a2 then
      wrI 2 m 120 a1 (((iI 1) <<< ((gI m 113 1) &&& 31)) - (iI 1)) fun m1 =>
      wrI 2 m1 123 a1 (iI (-1)) fun m2 =>
      wrI 2 m2 124 a1 (iI 0) fun m3 =>
      (if (gI m3 113 1) ≤ iI 0 then
        F_X9_beginAt_90 a1 (iI (-1)) a1 m3
      else
        rd 7 (iI 0) fun j4 =>
        F_X9_beginAt_90 a1 (gI m3 117 j4) a1 m3)
    else
      wrI 14 m 118 (((iI 7) * a1) + a2) (iI (-1)) fun m5 =>
      wrI 14 m5 119 (((iI 7) * a1) + a2) (iI 0) fun m6 =>
      nm (a2 + (iI 1)) fun v7 =>
      F_X9_beginAt_2  f a1 v7 m6)
set_option maxRecDepth 100000 in
set_option maxHeartbeats 4000000 in
theorem t_X9_beginAt_2 {pp : Program} {ll : Launch} {ee : Env} {ss : State} {mm : MethodId} {aa : Array Value} {bb : List Frame} {me : Method} {co : Code} {cx : CX}     (C : CM pp ss mm aa me co cX9_beginAt 3 RX9 cx (none))    : ∀ (f : Nat) (a1 : Int32) (a2 : Int32) (m : Mm), TV pp ll ee rm_X9_beginAt ss mm aa bb me co 3 cx 2 [(0, .ref (cx.2.2.1 + 113)), (1, .int a1), (2, .int a2)] [] m (F_X9_beginAt_2  f a1 a2 m) := by
  intro f
  induction f with
  | zero => exact fun _ _ _ => T_none
  | succ f ih =>
    intro a1 a2 m
    unfold F_X9_beginAt_2
    refine T_iload_n C.1 dX9_beginAt_2 2 rfl ?_
    refine T_aload_n C.1 dX9_beginAt_3 0 rfl ?_
    refine T_getI C.1 fd_X9_155 (fun _ _ _ _ => rfl) sh113 le113 dX9_beginAt_4 ?_
    refine T_icmp_ge (tgt := 40) C.1 dX9_beginAt_7 (by decide) ?_ ?_
    · refine T_aload_n C.1 dX9_beginAt_40 0 rfl ?_
      refine T_getR (x := 120) C.1 fd_X9_32 (fun _ _ _ _ => rfl) sh113 le113 (fun _ h => h) rfl (by decide) dX9_beginAt_41 ?_
      refine T_iload_n C.1 dX9_beginAt_44 1 rfl ?_
      refine T_iconst C.1 dX9_beginAt_45 ?_
      refine T_aload_n C.1 dX9_beginAt_46 0 rfl ?_
      refine T_getI C.1 fd_X9_155 (fun _ _ _ _ => rfl) sh113 le113 dX9_beginAt_47 ?_
      refine T_ishl C.1 dX9_beginAt_50 ?_
      refine T_iconst C.1 dX9_beginAt_51 ?_
      refine T_isub C.1 dX9_beginAt_52 ?_
      refine T_iast C.1 LyI_Lay sh120 le120 dX9_beginAt_53 (fun m1 => ?_)
      refine T_aload_n C.1 dX9_beginAt_54 0 rfl ?_
      refine T_getR (x := 123) C.1 fd_X9_41 (fun _ _ _ _ => rfl) sh113 le113 (fun _ h => h) rfl (by decide) dX9_beginAt_55 ?_
      refine T_iload_n C.1 dX9_beginAt_58 1 rfl ?_
      refine T_iconst C.1 dX9_beginAt_59 ?_
      refine T_iast C.1 LyI_Lay sh123 le123 dX9_beginAt_60 (fun m2 => ?_)
      refine T_aload_n C.1 dX9_beginAt_61 0 rfl ?_
      refine T_getR (x := 124) C.1 fd_X9_44 (fun _ _ _ _ => rfl) sh113 le113 (fun _ h => h) rfl (by decide) dX9_beginAt_62 ?_
      refine T_iload_n C.1 dX9_beginAt_65 1 rfl ?_
      refine T_iconst C.1 dX9_beginAt_66 ?_
      refine T_iast C.1 LyI_Lay sh124 le124 dX9_beginAt_67 (fun m3 => ?_)
      refine T_aload_n C.1 dX9_beginAt_68 0 rfl ?_
      refine T_getR (x := 121) C.1 fd_X9_35 (fun _ _ _ _ => rfl) sh113 le113 (fun _ h => h) rfl (by decide) dX9_beginAt_69 ?_
      refine T_iload_n C.1 dX9_beginAt_72 1 rfl ?_
      refine T_aload_n C.1 dX9_beginAt_73 0 rfl ?_
      refine T_getI C.1 fd_X9_155 (fun _ _ _ _ => rfl) sh113 le113 dX9_beginAt_74 ?_
      refine T_if_le (tgt := 89) C.1 dX9_beginAt_77 (by decide) ?_ ?_
      · refine T_iconst C.1 dX9_beginAt_89 ?_
        exact T_sub [0, 1] rfl (t_X9_beginAt_90 C a1 (iI (-1)) a1 m3)
      · refine T_aload_n C.1 dX9_beginAt_80 0 rfl ?_
        refine T_getR (x := 117) C.1 fd_X9_23 (fun _ _ _ _ => rfl) sh113 le113 (fun _ h => h) rfl (by decide) dX9_beginAt_81 ?_
        refine T_iconst C.1 dX9_beginAt_84 ?_
        refine T_iald C.1 dX9_beginAt_85 sh117 le117 (fun j4 => ?_)
        refine T_goto (tgt := 90) C.1 dX9_beginAt_86 (by decide) ?_
        exact T_sub [0, 1] rfl (t_X9_beginAt_90 C a1 (gI m3 117 j4) a1 m3)
    · refine T_aload_n C.1 dX9_beginAt_10 0 rfl ?_
      refine T_getR (x := 118) C.1 fd_X9_26 (fun _ _ _ _ => rfl) sh113 le113 (fun _ h => h) rfl (by decide) dX9_beginAt_11 ?_
      refine T_bipush C.1 dX9_beginAt_14 rfl ?_
      refine T_iload_n C.1 dX9_beginAt_16 1 rfl ?_
      refine T_imul C.1 dX9_beginAt_17 ?_
      refine T_iload_n C.1 dX9_beginAt_18 2 rfl ?_
      refine T_iadd C.1 dX9_beginAt_19 ?_
      refine T_iconst C.1 dX9_beginAt_20 ?_
      refine T_iast C.1 LyI_Lay sh118 le118 dX9_beginAt_21 (fun m5 => ?_)
      refine T_aload_n C.1 dX9_beginAt_22 0 rfl ?_
      refine T_getR (x := 119) C.1 fd_X9_29 (fun _ _ _ _ => rfl) sh113 le113 (fun _ h => h) rfl (by decide) dX9_beginAt_23 ?_
      refine T_bipush C.1 dX9_beginAt_26 rfl ?_
      refine T_iload_n C.1 dX9_beginAt_28 1 rfl ?_
      refine T_imul C.1 dX9_beginAt_29 ?_
      refine T_iload_n C.1 dX9_beginAt_30 2 rfl ?_
      refine T_iadd C.1 dX9_beginAt_31 ?_
      refine T_iconst C.1 dX9_beginAt_32 ?_
      refine T_iast C.1 LyI_Lay sh119 le119 dX9_beginAt_33 (fun m6 => ?_)
      refine T_iincN C.1 (fun v7 => [(2, .int v7), (0, .ref (cx.2.2.1 + 113)), (1, .int a1)]) dX9_beginAt_34 2 rfl (by decide) (fun _ => rfl) (fun v7 => ?_)
      refine T_goto (tgt := 2) C.1 dX9_beginAt_37 (by decide) ?_
      exact T_sub [1, 2, 0] rfl (ih a1 v7 m6)
def F_X9_beginAt  (x1 : Int32) (m : Mm) : Option (Unit × Mm) :=
  F_X9_beginAt_2 FU x1 (iI 0) m
set_option maxRecDepth 100000 in
set_option maxHeartbeats 4000000 in
theorem c_X9_beginAt (ll : Launch) (cx : CX) (x1 : Int32) (m : Mm) : MT ll yX9_beginAt cX9_beginAt 3 (none) rm_X9_beginAt cx NN NN Lay cvV 0 0 [.ref (cx.2.2.1 + 113), .int x1] m (F_X9_beginAt x1 m) := by
  refine MT_of (by decide) (Nat.le_of_ble_eq_true rfl) ?_
  intro pp ee ss mm aa bb me co hK hr hk hn
  have C : CM pp ss mm aa me co cX9_beginAt 3 RX9 cx (none) := ⟨hK, hr, hk⟩
  show TV pp ll ee rm_X9_beginAt ss mm aa bb me co 3 cx 0 [(0, .ref (cx.2.2.1 + 113)), (1, .int x1)] [] m (F_X9_beginAt x1 m)
  unfold F_X9_beginAt
  refine T_iconst C.1 dX9_beginAt_0 ?_
  refine T_istore_n (lv' := [(2, .int (iI 0)), (0, .ref (cx.2.2.1 + 113)), (1, .int x1)]) C.1 dX9_beginAt_1 (by decide) rfl ?_
  exact T_sub [1, 2, 0] rfl (t_X9_beginAt_2 C FU x1 (iI 0) m)
def rm_X9_addPerson : Room := { frames := 2, cells := 0, slots := 0, locals := 62 }
def F_X9_addPerson  (x1 : Int32) (m : Mm) : Option (Int32 × Mm) :=
  wrI 7 m 116 (gI m 113 1) x1 fun m1 =>
  wrI 7 m1 117 (gI m1 113 1) (gI m1 113 1) fun m2 =>
  nm (pI m2 113 1 ((gI m2 113 1) + (iI 1))) fun m3 =>
  bnd (F_X9_beginAt (iI 0) m3) fun _ m5 =>
  some (((gI m5 113 1) - (iI 1)), m5)
set_option maxRecDepth 100000 in
set_option maxHeartbeats 4000000 in
theorem c_X9_addPerson (ll : Launch) (cx : CX) (x1 : Int32) (m : Mm) : MT ll yX9_addPerson cX9_addPerson 2 ((some .int)) rm_X9_addPerson cx NN NN Lay cvI 0 0 [.ref (cx.2.2.1 + 113), .int x1] m (F_X9_addPerson x1 m) := by
  refine MT_of (by decide) (Nat.le_of_ble_eq_true rfl) ?_
  intro pp ee ss mm aa bb me co hK hr hk hn
  have C : CM pp ss mm aa me co cX9_addPerson 2 RX9 cx ((some .int)) := ⟨hK, hr, hk⟩
  show TI pp ll ee rm_X9_addPerson ss mm aa bb me co 2 cx 0 [(0, .ref (cx.2.2.1 + 113)), (1, .int x1)] [] m (F_X9_addPerson x1 m)
  unfold F_X9_addPerson
  refine T_aload_n C.1 dX9_addPerson_0 0 rfl ?_
  refine T_getR (x := 116) C.1 fd_X9_16 (fun _ _ _ _ => rfl) sh113 le113 (fun _ h => h) rfl (by decide) dX9_addPerson_1 ?_
  refine T_aload_n C.1 dX9_addPerson_4 0 rfl ?_
  refine T_getI C.1 fd_X9_155 (fun _ _ _ _ => rfl) sh113 le113 dX9_addPerson_5 ?_
  refine T_iload_n C.1 dX9_addPerson_8 1 rfl ?_
  refine T_iast C.1 LyI_Lay sh116 le116 dX9_addPerson_9 (fun m1 => ?_)
  refine T_aload_n C.1 dX9_addPerson_10 0 rfl ?_
  refine T_getR (x := 117) C.1 fd_X9_23 (fun _ _ _ _ => rfl) sh113 le113 (fun _ h => h) rfl (by decide) dX9_addPerson_11 ?_
  refine T_aload_n C.1 dX9_addPerson_14 0 rfl ?_
  refine T_getI C.1 fd_X9_155 (fun _ _ _ _ => rfl) sh113 le113 dX9_addPerson_15 ?_
  refine T_aload_n C.1 dX9_addPerson_18 0 rfl ?_
  refine T_getI C.1 fd_X9_155 (fun _ _ _ _ => rfl) sh113 le113 dX9_addPerson_19 ?_
  refine T_iast C.1 LyI_Lay sh117 le117 dX9_addPerson_22 (fun m2 => ?_)
  refine T_aload_n C.1 dX9_addPerson_23 0 rfl ?_
  refine T_dup C.1 dX9_addPerson_24 rfl ?_
  refine T_getI C.1 fd_X9_155 (fun _ _ _ _ => rfl) sh113 le113 dX9_addPerson_25 ?_
  refine T_iconst C.1 dX9_addPerson_28 ?_
  refine T_iadd C.1 dX9_addPerson_29 ?_
  refine T_putI C.1 LyI_Lay fd_X9_155 sh113 le113 dX9_addPerson_30 (fun m3 => ?_)
  refine T_aload_n C.1 dX9_addPerson_33 0 rfl ?_
  refine T_iconst C.1 dX9_addPerson_34 ?_
  refine T_callVV (rm := rm_X9_beginAt) [.int (iI 0)] [] C.1 dX9_addPerson_35 mw_X9_beginAt wm_5_152 wm_5_154 wm_p_36 ⟨Nat.le_of_ble_eq_true rfl, Nat.le_of_ble_eq_true rfl⟩ ⟨rfl, rfl⟩ ⟨Nat.zero_le _, Nat.zero_le _⟩ rfl rfl (Nat.le_of_ble_eq_true rfl) sh113 le113 ⟨rfl, rfl⟩ (c_X9_beginAt ll cx (iI 0) m3) (fun u4 m5 => ?_)
  refine T_aload_n C.1 dX9_addPerson_38 0 rfl ?_
  refine T_getI C.1 fd_X9_155 (fun _ _ _ _ => rfl) sh113 le113 dX9_addPerson_39 ?_
  refine T_iconst C.1 dX9_addPerson_42 ?_
  refine T_isub C.1 dX9_addPerson_43 ?_
  exact T_iret C.1 C.2.1 C.2.2 dX9_addPerson_44
def rm_X9_person : Room := { frames := 3, cells := 0, slots := 0, locals := 83 }
def F_X9_person  (x1 : Int32) (m : Mm) : Option (Int32 × Mm) :=
  bnd (F_X9_in x1 (iI 0) (iI 2) m) fun v1 m2 =>
  (if v1 = iI 0 then
    some ((iI (-1)), m2)
  else
    (if (gI m2 113 15) ≤ iI 0 then
      (if (gI m2 113 1) = (iI 7) then
        some ((iI (-3)), m2)
      else
        bnd (F_X9_addPerson x1 m2) fun v3 m4 =>
        some (v3, m4))
    else
      some ((iI (-5)), m2)))
set_option maxRecDepth 100000 in
set_option maxHeartbeats 4000000 in
theorem c_X9_person (ll : Launch) (cx : CX) (x1 : Int32) (m : Mm) : MT ll yX9_person cX9_person 2 ((some .int)) rm_X9_person cx NN NN Lay cvI 0 0 [.ref (cx.2.2.1 + 113), .int x1] m (F_X9_person x1 m) := by
  refine MT_of (by decide) (Nat.le_of_ble_eq_true rfl) ?_
  intro pp ee ss mm aa bb me co hK hr hk hn
  have C : CM pp ss mm aa me co cX9_person 2 RX9 cx ((some .int)) := ⟨hK, hr, hk⟩
  show TI pp ll ee rm_X9_person ss mm aa bb me co 2 cx 0 [(0, .ref (cx.2.2.1 + 113)), (1, .int x1)] [] m (F_X9_person x1 m)
  unfold F_X9_person
  refine T_iload_n C.1 dX9_person_0 1 rfl ?_
  refine T_iconst C.1 dX9_person_1 ?_
  refine T_iconst C.1 dX9_person_2 ?_
  refine T_callSI (rm := rm_X9_in) [.int x1, .int (iI 0), .int (iI 2)] [] C.1 dX9_person_3 mw_X9_in wm_5_145 wm_5_146 ⟨Nat.le_of_ble_eq_true rfl, Nat.le_of_ble_eq_true rfl⟩ ⟨rfl, rfl⟩ ⟨Nat.zero_le _, Nat.zero_le _⟩ rfl rfl (Nat.le_of_ble_eq_true rfl) (c_X9_in ll cx x1 (iI 0) (iI 2) m) (fun v1 m2 => ?_)
  refine T_if_ne (tgt := 11) C.1 dX9_person_6 (by decide) ?_ ?_
  · refine T_aload_n C.1 dX9_person_11 0 rfl ?_
    refine T_getI C.1 fd_X9_166 (fun _ _ _ _ => rfl) sh113 le113 dX9_person_12 ?_
    refine T_if_le (tgt := 21) C.1 dX9_person_15 (by decide) ?_ ?_
    · refine T_aload_n C.1 dX9_person_21 0 rfl ?_
      refine T_getI C.1 fd_X9_155 (fun _ _ _ _ => rfl) sh113 le113 dX9_person_22 ?_
      refine T_bipush C.1 dX9_person_25 rfl ?_
      refine T_icmp_ne (tgt := 35) C.1 dX9_person_27 (by decide) ?_ ?_
      · refine T_aload_n C.1 dX9_person_35 0 rfl ?_
        refine T_iload_n C.1 dX9_person_36 1 rfl ?_
        refine T_callVI (rm := rm_X9_addPerson) [.int x1] [] C.1 dX9_person_37 mw_X9_addPerson wm_5_148 wm_5_150 wm_p_35 ⟨Nat.le_of_ble_eq_true rfl, Nat.le_of_ble_eq_true rfl⟩ ⟨rfl, rfl⟩ ⟨Nat.zero_le _, Nat.zero_le _⟩ rfl rfl (Nat.le_of_ble_eq_true rfl) sh113 le113 ⟨rfl, rfl⟩ (c_X9_addPerson ll cx x1 m2) (fun v3 m4 => ?_)
        exact T_iret C.1 C.2.1 C.2.2 dX9_person_40
      · refine T_bipush C.1 dX9_person_30 rfl ?_
        refine T_goto (tgt := 40) C.1 dX9_person_32 (by decide) ?_
        exact T_iret C.1 C.2.1 C.2.2 dX9_person_40
    · refine T_bipush C.1 dX9_person_18 rfl ?_
      exact T_iret C.1 C.2.1 C.2.2 dX9_person_20
  · refine T_iconst C.1 dX9_person_9 ?_
    exact T_iret C.1 C.2.1 C.2.2 dX9_person_10
def rm_X9_isShelf : Room := { frames := 2, cells := 0, slots := 0, locals := 62 }
def F_X9_isShelf  (x1 : Int32) (m : Mm) : Option (Int32 × Mm) :=
  bnd (F_X9_in x1 (iI 0) (iI 5) m) fun v1 m2 =>
  rz v1 m2
set_option maxRecDepth 100000 in
set_option maxHeartbeats 4000000 in
theorem c_X9_isShelf (ll : Launch) (cx : CX) (x1 : Int32) (m : Mm) : MT ll yX9_isShelf cX9_isShelf 1 ((some .boolean)) rm_X9_isShelf cx NN NN Lay cvI 0 0 [.int x1] m (F_X9_isShelf x1 m) := by
  refine MT_of (by decide) (Nat.le_of_ble_eq_true rfl) ?_
  intro pp ee ss mm aa bb me co hK hr hk hn
  have C : CM pp ss mm aa me co cX9_isShelf 1 RX9 cx ((some .boolean)) := ⟨hK, hr, hk⟩
  show TI pp ll ee rm_X9_isShelf ss mm aa bb me co 1 cx 0 [(0, .int x1)] [] m (F_X9_isShelf x1 m)
  unfold F_X9_isShelf
  refine T_iload_n C.1 dX9_isShelf_0 0 rfl ?_
  refine T_iconst C.1 dX9_isShelf_1 ?_
  refine T_iconst C.1 dX9_isShelf_2 ?_
  refine T_callSI (rm := rm_X9_in) [.int x1, .int (iI 0), .int (iI 5)] [] C.1 dX9_isShelf_3 mw_X9_in wm_5_145 wm_5_146 ⟨Nat.le_of_ble_eq_true rfl, Nat.le_of_ble_eq_true rfl⟩ ⟨rfl, rfl⟩ ⟨Nat.zero_le _, Nat.zero_le _⟩ rfl rfl (Nat.le_of_ble_eq_true rfl) (c_X9_in ll cx x1 (iI 0) (iI 5) m) (fun v1 m2 => ?_)
  exact T_zret C.1 C.2.1 C.2.2 dX9_isShelf_6
def rm_X9_people : Room := { frames := 3, cells := 0, slots := 0, locals := 83 }
def F_X9_people_68  : Nat → Int32 → Int32 → Int32 → Int32 → Mm → Option (Int32 × Mm)
  | 0, _, _, _, _, _ => none
  | f + 1, a1, a2, a3, a4, m =>
    (if a3 ≤ a4 then
      some (a3, m)
    else
      nm ((a2.toInt64) + (a4.toInt64)) fun w1 =>
      (if (lg_cmp w1 (iL 0)) < iI 0 then
        some (a4, m)
      else
        rd 6 a1 fun j2 =>
        (if iI 0 ≤ (lg_cmp w1 ((gI m 154 j2).toInt64)) then
          some (a4, m)
        else
          (if (gI m 113 1) = (iI 7) then
            some (a4, m)
          else
            rd 360 (((iI 60) * a1) + (w1.toInt32)) fun j3 =>
            nm ((gL m 155 j3).toInt32) fun v4 =>
            bnd (F_X9_in v4 (iI 0) (iI 2) m) fun v5 m6 =>
            (if v5 = iI 0 then
              some (a4, m6)
            else
              bnd (F_X9_addPerson v4 m6) fun v7 m8 =>
              nm (a4 + (iI 1)) fun v9 =>
              F_X9_people_68  f a1 a2 a3 v9 m8)))))
set_option maxRecDepth 100000 in
set_option maxHeartbeats 4000000 in
theorem t_X9_people_68 {pp : Program} {ll : Launch} {ee : Env} {ss : State} {mm : MethodId} {aa : Array Value} {bb : List Frame} {me : Method} {co : Code} {cx : CX}     (C : CM pp ss mm aa me co cX9_people 8 RX9 cx ((some .int)))    : ∀ (f : Nat) (a1 : Int32) (a2 : Int32) (a3 : Int32) (a4 : Int32) (m : Mm), TI pp ll ee rm_X9_people ss mm aa bb me co 8 cx 68 [(0, .ref (cx.2.2.1 + 113)), (1, .int a1), (2, .int a2), (3, .int a3), (4, .int a4)] [] m (F_X9_people_68  f a1 a2 a3 a4 m) := by
  intro f
  induction f with
  | zero => exact fun _ _ _ _ _ => T_none
  | succ f ih =>
    intro a1 a2 a3 a4 m
    unfold F_X9_people_68
    refine T_iload C.1 dX9_people_68 4 rfl ?_
    refine T_iload_n C.1 dX9_people_70 3 rfl ?_
    refine T_icmp_ge (tgt := 156) C.1 dX9_people_71 (by decide) ?_ ?_
    · refine T_iload_n C.1 dX9_people_156 3 rfl ?_
      exact T_iret C.1 C.2.1 C.2.2 dX9_people_157
    · refine T_iload_n C.1 dX9_people_74 2 rfl ?_
      refine T_i2l C.1 dX9_people_75 ?_
      refine T_iload C.1 dX9_people_76 4 rfl ?_
      refine T_i2l C.1 dX9_people_78 ?_
      refine T_ladd C.1 dX9_people_79 ?_
      refine T_lstoreN C.1 (fun w1 => [(5, .long w1), (0, .ref (cx.2.2.1 + 113)), (1, .int a1), (2, .int a2), (3, .int a3), (4, .int a4)]) dX9_people_80 (by decide) (fun _ => rfl) (fun w1 => ?_)
      refine T_lload C.1 dX9_people_82 0 rfl ?_
      refine T_lconst (x := iL 0) C.1 dX9_people_84 rfl ?_
      refine T_lcmp C.1 dX9_people_85 ?_
      refine T_if_lt (tgt := 111) C.1 dX9_people_86 (by decide) ?_ ?_
      · refine T_iload C.1 dX9_people_111 5 rfl ?_
        exact T_iret C.1 C.2.1 C.2.2 dX9_people_113
      · refine T_lload C.1 dX9_people_89 0 rfl ?_
        refine T_aload_n C.1 dX9_people_91 1 rfl ?_
        refine T_getR (x := 154) C.1 fd_X9_142 (fun _ _ _ _ => rfl) sh113 le113 (fun _ h => h) rfl (by decide) dX9_people_92 ?_
        refine T_iload_n C.1 dX9_people_95 2 rfl ?_
        refine T_iald C.1 dX9_people_96 sh154 le154 (fun j2 => ?_)
        refine T_i2l C.1 dX9_people_97 ?_
        refine T_lcmp C.1 dX9_people_98 ?_
        refine T_if_ge (tgt := 111) C.1 dX9_people_99 (by decide) ?_ ?_
        · refine T_iload C.1 dX9_people_111 5 rfl ?_
          exact T_iret C.1 C.2.1 C.2.2 dX9_people_113
        · refine T_aload_n C.1 dX9_people_102 1 rfl ?_
          refine T_getI C.1 fd_X9_155 (fun _ _ _ _ => rfl) sh113 le113 dX9_people_103 ?_
          refine T_bipush C.1 dX9_people_106 rfl ?_
          refine T_icmp_ne (tgt := 114) C.1 dX9_people_108 (by decide) ?_ ?_
          · refine T_aload_n C.1 dX9_people_114 1 rfl ?_
            refine T_getR (x := 155) C.1 fd_X9_145 (fun _ _ _ _ => rfl) sh113 le113 (fun _ h => h) rfl (by decide) dX9_people_115 ?_
            refine T_bipush C.1 dX9_people_118 rfl ?_
            refine T_iload_n C.1 dX9_people_120 2 rfl ?_
            refine T_imul C.1 dX9_people_121 ?_
            refine T_lload C.1 dX9_people_122 0 rfl ?_
            refine T_l2i C.1 dX9_people_124 ?_
            refine T_iadd C.1 dX9_people_125 ?_
            refine T_lald C.1 dX9_people_126 sh155 le155 (fun j3 => ?_)
            refine T_l2i C.1 dX9_people_127 ?_
            refine T_istoreN C.1 (fun v4 => [(7, .int v4), (5, .long w1), (0, .ref (cx.2.2.1 + 113)), (1, .int a1), (2, .int a2), (3, .int a3), (4, .int a4)]) dX9_people_128 (by decide) (fun _ => rfl) (fun v4 => ?_)
            refine T_iload C.1 dX9_people_130 0 rfl ?_
            refine T_iconst C.1 dX9_people_132 ?_
            refine T_iconst C.1 dX9_people_133 ?_
            refine T_callSI (rm := rm_X9_in) [.int v4, .int (iI 0), .int (iI 2)] [] C.1 dX9_people_134 mw_X9_in wm_5_145 wm_5_146 ⟨Nat.le_of_ble_eq_true rfl, Nat.le_of_ble_eq_true rfl⟩ ⟨rfl, rfl⟩ ⟨Nat.zero_le _, Nat.zero_le _⟩ rfl rfl (Nat.le_of_ble_eq_true rfl) (c_X9_in ll cx v4 (iI 0) (iI 2) m) (fun v5 m6 => ?_)
            refine T_if_ne (tgt := 143) C.1 dX9_people_137 (by decide) ?_ ?_
            · refine T_aload_n C.1 dX9_people_143 2 rfl ?_
              refine T_iload C.1 dX9_people_144 0 rfl ?_
              refine T_callVI (rm := rm_X9_addPerson) [.int v4] [] C.1 dX9_people_146 mw_X9_addPerson wm_5_148 wm_5_150 wm_p_35 ⟨Nat.le_of_ble_eq_true rfl, Nat.le_of_ble_eq_true rfl⟩ ⟨rfl, rfl⟩ ⟨Nat.zero_le _, Nat.zero_le _⟩ rfl rfl (Nat.le_of_ble_eq_true rfl) sh113 le113 ⟨rfl, rfl⟩ (c_X9_addPerson ll cx v4 m6) (fun v7 m8 => ?_)
              refine T_pop C.1 dX9_people_149 rfl ?_
              refine T_iincN C.1 (fun v9 => [(4, .int v9), (7, .int v4), (5, .long w1), (0, .ref (cx.2.2.1 + 113)), (1, .int a1), (2, .int a2), (3, .int a3)]) dX9_people_150 6 rfl (by decide) (fun _ => rfl) (fun v9 => ?_)
              refine T_goto (tgt := 68) C.1 dX9_people_153 (by decide) ?_
              exact T_sub [3, 4, 5, 6, 0] rfl (ih a1 a2 a3 v9 m8)
            · refine T_iload C.1 dX9_people_140 6 rfl ?_
              exact T_iret C.1 C.2.1 C.2.2 dX9_people_142
          · refine T_iload C.1 dX9_people_111 5 rfl ?_
            exact T_iret C.1 C.2.1 C.2.2 dX9_people_113
def F_X9_people_43  (a1 : Int32) (a2 : Int32) (a3 : Int32) (m : Mm) : Option (Int32 × Mm) :=
  (if (gI m 113 15) ≤ iI 0 then
    rd 6 a1 fun j1 =>
    (if (gI m 153 j1) = (iI (-1)) then
      some ((iI 0), m)
    else
      F_X9_people_68 FU a1 a2 a3 (iI 0) m)
  else
    some ((iI (-5)), m))
set_option maxRecDepth 100000 in
set_option maxHeartbeats 4000000 in
theorem t_X9_people_43 {pp : Program} {ll : Launch} {ee : Env} {ss : State} {mm : MethodId} {aa : Array Value} {bb : List Frame} {me : Method} {co : Code} {cx : CX}     (C : CM pp ss mm aa me co cX9_people 8 RX9 cx ((some .int)))    (a1 : Int32) (a2 : Int32) (a3 : Int32) (m : Mm) : TI pp ll ee rm_X9_people ss mm aa bb me co 8 cx 43 [(0, .ref (cx.2.2.1 + 113)), (1, .int a1), (2, .int a2), (3, .int a3)] [] m (F_X9_people_43  a1 a2 a3 m) := by
  unfold F_X9_people_43
  refine T_aload_n C.1 dX9_people_43 0 rfl ?_
  refine T_getI C.1 fd_X9_166 (fun _ _ _ _ => rfl) sh113 le113 dX9_people_44 ?_
  refine T_if_le (tgt := 53) C.1 dX9_people_47 (by decide) ?_ ?_
  · refine T_aload_n C.1 dX9_people_53 0 rfl ?_
    refine T_getR (x := 153) C.1 fd_X9_139 (fun _ _ _ _ => rfl) sh113 le113 (fun _ h => h) rfl (by decide) dX9_people_54 ?_
    refine T_iload_n C.1 dX9_people_57 1 rfl ?_
    refine T_iald C.1 dX9_people_58 sh153 le153 (fun j1 => ?_)
    refine T_iconst C.1 dX9_people_59 ?_
    refine T_icmp_ne (tgt := 65) C.1 dX9_people_60 (by decide) ?_ ?_
    · refine T_iconst C.1 dX9_people_65 ?_
      refine T_istore (lv' := [(4, .int (iI 0)), (0, .ref (cx.2.2.1 + 113)), (1, .int a1), (2, .int a2), (3, .int a3)]) C.1 dX9_people_66 (by decide) rfl ?_
      exact T_sub [1, 2, 3, 4, 0] rfl (t_X9_people_68 C FU a1 a2 a3 (iI 0) m)
    · refine T_iconst C.1 dX9_people_63 ?_
      exact T_iret C.1 C.2.1 C.2.2 dX9_people_64
  · refine T_bipush C.1 dX9_people_50 rfl ?_
    exact T_iret C.1 C.2.1 C.2.2 dX9_people_52
def F_X9_people  (x1 : Int32) (x2 : Int32) (x3 : Int32) (m : Mm) : Option (Int32 × Mm) :=
  bnd (F_X9_isShelf x1 m) fun v1 m2 =>
  (if v1 = iI 0 then
    some ((iI (-1)), m2)
  else
    bnd (F_X9_in x3 (iI 1) (iI 7) m2) fun v3 m4 =>
    (if v3 = iI 0 then
      some ((iI (-1)), m4)
    else
      rd 6 x1 fun j5 =>
      (if (gI m4 153 j5) = (iI (-1)) then
        F_X9_people_43 x1 x2 x3 m4
      else
        rd 6 x1 fun j6 =>
        (if (gI m4 153 j6) = (iI (-2)) then
          F_X9_people_43 x1 x2 x3 m4
        else
          some ((iI (-12)), m4)))))
set_option maxRecDepth 100000 in
set_option maxHeartbeats 4000000 in
theorem c_X9_people (ll : Launch) (cx : CX) (x1 : Int32) (x2 : Int32) (x3 : Int32) (m : Mm) : MT ll yX9_people cX9_people 8 ((some .int)) rm_X9_people cx NN NN Lay cvI 0 0 [.ref (cx.2.2.1 + 113), .int x1, .int x2, .int x3] m (F_X9_people x1 x2 x3 m) := by
  refine MT_of (by decide) (Nat.le_of_ble_eq_true rfl) ?_
  intro pp ee ss mm aa bb me co hK hr hk hn
  have C : CM pp ss mm aa me co cX9_people 8 RX9 cx ((some .int)) := ⟨hK, hr, hk⟩
  show TI pp ll ee rm_X9_people ss mm aa bb me co 8 cx 0 [(0, .ref (cx.2.2.1 + 113)), (1, .int x1), (2, .int x2), (3, .int x3)] [] m (F_X9_people x1 x2 x3 m)
  unfold F_X9_people
  refine T_iload_n C.1 dX9_people_0 1 rfl ?_
  refine T_callSI (rm := rm_X9_isShelf) [.int x1] [] C.1 dX9_people_1 mw_X9_isShelf wm_5_160 wm_5_161 ⟨Nat.le_of_ble_eq_true rfl, Nat.le_of_ble_eq_true rfl⟩ ⟨rfl, rfl⟩ ⟨Nat.zero_le _, Nat.zero_le _⟩ rfl rfl (Nat.le_of_ble_eq_true rfl) (c_X9_isShelf ll cx x1 m) (fun v1 m2 => ?_)
  refine T_if_eq (tgt := 17) C.1 dX9_people_4 (by decide) ?_ ?_
  · refine T_iconst C.1 dX9_people_17 ?_
    exact T_iret C.1 C.2.1 C.2.2 dX9_people_18
  · refine T_iload_n C.1 dX9_people_7 3 rfl ?_
    refine T_iconst C.1 dX9_people_8 ?_
    refine T_bipush C.1 dX9_people_9 rfl ?_
    refine T_callSI (rm := rm_X9_in) [.int x3, .int (iI 1), .int (iI 7)] [] C.1 dX9_people_11 mw_X9_in wm_5_145 wm_5_146 ⟨Nat.le_of_ble_eq_true rfl, Nat.le_of_ble_eq_true rfl⟩ ⟨rfl, rfl⟩ ⟨Nat.zero_le _, Nat.zero_le _⟩ rfl rfl (Nat.le_of_ble_eq_true rfl) (c_X9_in ll cx x3 (iI 1) (iI 7) m2) (fun v3 m4 => ?_)
    refine T_if_ne (tgt := 19) C.1 dX9_people_14 (by decide) ?_ ?_
    · refine T_aload_n C.1 dX9_people_19 0 rfl ?_
      refine T_getR (x := 153) C.1 fd_X9_139 (fun _ _ _ _ => rfl) sh113 le113 (fun _ h => h) rfl (by decide) dX9_people_20 ?_
      refine T_iload_n C.1 dX9_people_23 1 rfl ?_
      refine T_iald C.1 dX9_people_24 sh153 le153 (fun j5 => ?_)
      refine T_iconst C.1 dX9_people_25 ?_
      refine T_icmp_eq (tgt := 43) C.1 dX9_people_26 (by decide) ?_ ?_
      · exact T_sub [0, 1, 2, 3] rfl (t_X9_people_43 C x1 x2 x3 m4)
      · refine T_aload_n C.1 dX9_people_29 0 rfl ?_
        refine T_getR (x := 153) C.1 fd_X9_139 (fun _ _ _ _ => rfl) sh113 le113 (fun _ h => h) rfl (by decide) dX9_people_30 ?_
        refine T_iload_n C.1 dX9_people_33 1 rfl ?_
        refine T_iald C.1 dX9_people_34 sh153 le153 (fun j6 => ?_)
        refine T_bipush C.1 dX9_people_35 rfl ?_
        refine T_icmp_eq (tgt := 43) C.1 dX9_people_37 (by decide) ?_ ?_
        · exact T_sub [0, 1, 2, 3] rfl (t_X9_people_43 C x1 x2 x3 m4)
        · refine T_bipush C.1 dX9_people_40 rfl ?_
          exact T_iret C.1 C.2.1 C.2.2 dX9_people_42
    · refine T_iconst C.1 dX9_people_17 ?_
      exact T_iret C.1 C.2.1 C.2.2 dX9_people_18
