def rm_X9_swap : Room := { frames := 4, cells := 0, slots := 0, locals := 104 }
def F_X9_swap  (x1 : Int32) (m : Mm) : Option (Int32 × Mm) :=
  bnd (F_X9_areBoth x1 m) fun v1 m2 =>
  (if v1 = iI 0 then
    some ((iI (-1)), m2)
  else
    dvI x1 (iI 10) fun v3 =>
    rmI x1 (iI 10) fun v4 =>
    (if v3 = v4 then
      some ((iI (-1)), m2)
    else
      (if (gI m2 113 15) ≤ iI 0 then
        dvI x1 (iI 10) fun v5 =>
        rmI x1 (iI 10) fun v6 =>
        bnd (F_X9_swapLot v5 v6 m2) fun _ m8 =>
        rd 7 (iI 0) fun j9 =>
        wrI 2 m8 121 (iI 0) (gI m8 117 j9) fun m10 =>
        dvI x1 (iI 10) fun v11 =>
        rd 7 v11 fun j12 =>
        some ((gI m10 117 j12), m10)
      else
        some ((iI (-5)), m2))))
set_option maxRecDepth 100000 in
set_option maxHeartbeats 4000000 in
theorem c_X9_swap (ll : Launch) (cx : CX) (x1 : Int32) (m : Mm) : MT ll yX9_swap cX9_swap 2 ((some .int)) rm_X9_swap cx NN NN Lay cvI 0 0 [.ref (cx.2.2.1 + 113), .int x1] m (F_X9_swap x1 m) := by
  refine MT_of (by decide) (Nat.le_of_ble_eq_true rfl) ?_
  intro pp ee ss mm aa bb me co hK hr hk hn
  have C : CM pp ss mm aa me co cX9_swap 2 RX9 cx ((some .int)) := ⟨hK, hr, hk⟩
  show TI pp ll ee rm_X9_swap ss mm aa bb me co 2 cx 0 [(0, .ref (cx.2.2.1 + 113)), (1, .int x1)] [] m (F_X9_swap x1 m)
  unfold F_X9_swap
  refine T_aload_n C.1 dX9_swap_0 0 rfl ?_
  refine T_iload_n C.1 dX9_swap_1 1 rfl ?_
  refine T_callVI (rm := rm_X9_areBoth) [.int x1] [] C.1 dX9_swap_2 mw_X9_areBoth wm_5_179 wm_5_181 wm_p_38 ⟨Nat.le_of_ble_eq_true rfl, Nat.le_of_ble_eq_true rfl⟩ ⟨rfl, rfl⟩ ⟨Nat.zero_le _, Nat.zero_le _⟩ rfl rfl (Nat.le_of_ble_eq_true rfl) sh113 le113 ⟨rfl, rfl⟩ (c_X9_areBoth ll cx x1 m) (fun v1 m2 => ?_)
  refine T_if_eq (tgt := 19) C.1 dX9_swap_5 (by decide) ?_ ?_
  · refine T_iconst C.1 dX9_swap_19 ?_
    exact T_iret C.1 C.2.1 C.2.2 dX9_swap_20
  · refine T_iload_n C.1 dX9_swap_8 1 rfl ?_
    refine T_bipush C.1 dX9_swap_9 rfl ?_
    refine T_idiv C.1 dX9_swap_11 (fun v3 => ?_)
    refine T_iload_n C.1 dX9_swap_12 1 rfl ?_
    refine T_bipush C.1 dX9_swap_13 rfl ?_
    refine T_irem C.1 dX9_swap_15 (fun v4 => ?_)
    refine T_icmp_ne (tgt := 21) C.1 dX9_swap_16 (by decide) ?_ ?_
    · refine T_aload_n C.1 dX9_swap_21 0 rfl ?_
      refine T_getI C.1 fd_X9_166 (fun _ _ _ _ => rfl) sh113 le113 dX9_swap_22 ?_
      refine T_if_le (tgt := 31) C.1 dX9_swap_25 (by decide) ?_ ?_
      · refine T_aload_n C.1 dX9_swap_31 0 rfl ?_
        refine T_iload_n C.1 dX9_swap_32 1 rfl ?_
        refine T_bipush C.1 dX9_swap_33 rfl ?_
        refine T_idiv C.1 dX9_swap_35 (fun v5 => ?_)
        refine T_iload_n C.1 dX9_swap_36 1 rfl ?_
        refine T_bipush C.1 dX9_swap_37 rfl ?_
        refine T_irem C.1 dX9_swap_39 (fun v6 => ?_)
        refine T_callVV (rm := rm_X9_swapLot) [.int v5, .int v6] [] C.1 dX9_swap_40 mw_X9_swapLot wm_5_213 wm_5_215 wm_p_43 ⟨Nat.le_of_ble_eq_true rfl, Nat.le_of_ble_eq_true rfl⟩ ⟨rfl, rfl⟩ ⟨Nat.zero_le _, Nat.zero_le _⟩ rfl rfl (Nat.le_of_ble_eq_true rfl) sh113 le113 ⟨rfl, rfl⟩ (c_X9_swapLot ll cx v5 v6 m2) (fun u7 m8 => ?_)
        refine T_aload_n C.1 dX9_swap_43 0 rfl ?_
        refine T_getR (x := 121) C.1 fd_X9_35 (fun _ _ _ _ => rfl) sh113 le113 (fun _ h => h) rfl (by decide) dX9_swap_44 ?_
        refine T_iconst C.1 dX9_swap_47 ?_
        refine T_aload_n C.1 dX9_swap_48 0 rfl ?_
        refine T_getR (x := 117) C.1 fd_X9_23 (fun _ _ _ _ => rfl) sh113 le113 (fun _ h => h) rfl (by decide) dX9_swap_49 ?_
        refine T_iconst C.1 dX9_swap_52 ?_
        refine T_iald C.1 dX9_swap_53 sh117 le117 (fun j9 => ?_)
        refine T_iast C.1 LyI_Lay sh121 le121 dX9_swap_54 (fun m10 => ?_)
        refine T_aload_n C.1 dX9_swap_55 0 rfl ?_
        refine T_getR (x := 117) C.1 fd_X9_23 (fun _ _ _ _ => rfl) sh113 le113 (fun _ h => h) rfl (by decide) dX9_swap_56 ?_
        refine T_iload_n C.1 dX9_swap_59 1 rfl ?_
        refine T_bipush C.1 dX9_swap_60 rfl ?_
        refine T_idiv C.1 dX9_swap_62 (fun v11 => ?_)
        refine T_iald C.1 dX9_swap_63 sh117 le117 (fun j12 => ?_)
        exact T_iret C.1 C.2.1 C.2.2 dX9_swap_64
      · refine T_bipush C.1 dX9_swap_28 rfl ?_
        exact T_iret C.1 C.2.1 C.2.2 dX9_swap_30
    · refine T_iconst C.1 dX9_swap_19 ?_
      exact T_iret C.1 C.2.1 C.2.2 dX9_swap_20
def rm_X9_feed : Room := { frames := 2, cells := 0, slots := 0, locals := 62 }
def F_X9_feed  (x1 : Int32) (m : Mm) : Option (Int32 × Mm) :=
  bnd (F_X9_in x1 (iI 0) (iI 255) m) fun v1 m2 =>
  (if v1 = iI 0 then
    some ((iI (-1)), m2)
  else
    (if (gI m2 113 27) = (iI 120) then
      some ((iI (-3)), m2)
    else
      wrI 120 m2 129 (gI m2 113 27) (nB (x1.toInt8.toInt32)) fun m3 =>
      nm (pI m3 113 27 ((gI m3 113 27) + (iI 1))) fun m4 =>
      some ((gI m4 113 27), m4)))
set_option maxRecDepth 100000 in
set_option maxHeartbeats 4000000 in
theorem c_X9_feed (ll : Launch) (cx : CX) (x1 : Int32) (m : Mm) : MT ll yX9_feed cX9_feed 2 ((some .int)) rm_X9_feed cx NN NN Lay cvI 0 0 [.ref (cx.2.2.1 + 113), .int x1] m (F_X9_feed x1 m) := by
  refine MT_of (by decide) (Nat.le_of_ble_eq_true rfl) ?_
  intro pp ee ss mm aa bb me co hK hr hk hn
  have C : CM pp ss mm aa me co cX9_feed 2 RX9 cx ((some .int)) := ⟨hK, hr, hk⟩
  show TI pp ll ee rm_X9_feed ss mm aa bb me co 2 cx 0 [(0, .ref (cx.2.2.1 + 113)), (1, .int x1)] [] m (F_X9_feed x1 m)
  unfold F_X9_feed
  refine T_iload_n C.1 dX9_feed_0 1 rfl ?_
  refine T_iconst C.1 dX9_feed_1 ?_
  refine T_sipush C.1 dX9_feed_2 rfl ?_
  refine T_callSI (rm := rm_X9_in) [.int x1, .int (iI 0), .int (iI 255)] [] C.1 dX9_feed_5 mw_X9_in wm_5_145 wm_5_146 ⟨Nat.le_of_ble_eq_true rfl, Nat.le_of_ble_eq_true rfl⟩ ⟨rfl, rfl⟩ ⟨Nat.zero_le _, Nat.zero_le _⟩ rfl rfl (Nat.le_of_ble_eq_true rfl) (c_X9_in ll cx x1 (iI 0) (iI 255) m) (fun v1 m2 => ?_)
  refine T_if_ne (tgt := 13) C.1 dX9_feed_8 (by decide) ?_ ?_
  · refine T_aload_n C.1 dX9_feed_13 0 rfl ?_
    refine T_getI C.1 fd_X9_217 (fun _ _ _ _ => rfl) sh113 le113 dX9_feed_14 ?_
    refine T_bipush C.1 dX9_feed_17 rfl ?_
    refine T_icmp_ne (tgt := 25) C.1 dX9_feed_19 (by decide) ?_ ?_
    · refine T_aload_n C.1 dX9_feed_25 0 rfl ?_
      refine T_getR (x := 129) C.1 fd_X9_62 (fun _ _ _ _ => rfl) sh113 le113 (fun _ h => h) rfl (by decide) dX9_feed_26 ?_
      refine T_aload_n C.1 dX9_feed_29 0 rfl ?_
      refine T_getI C.1 fd_X9_217 (fun _ _ _ _ => rfl) sh113 le113 dX9_feed_30 ?_
      refine T_iload_n C.1 dX9_feed_33 1 rfl ?_
      refine T_i2b C.1 dX9_feed_34 ?_
      refine T_bast C.1 LyI_Lay sh129 le129 dX9_feed_35 (fun m3 => ?_)
      refine T_aload_n C.1 dX9_feed_36 0 rfl ?_
      refine T_dup C.1 dX9_feed_37 rfl ?_
      refine T_getI C.1 fd_X9_217 (fun _ _ _ _ => rfl) sh113 le113 dX9_feed_38 ?_
      refine T_iconst C.1 dX9_feed_41 ?_
      refine T_iadd C.1 dX9_feed_42 ?_
      refine T_putI C.1 LyI_Lay fd_X9_217 sh113 le113 dX9_feed_43 (fun m4 => ?_)
      refine T_aload_n C.1 dX9_feed_46 0 rfl ?_
      refine T_getI C.1 fd_X9_217 (fun _ _ _ _ => rfl) sh113 le113 dX9_feed_47 ?_
      exact T_iret C.1 C.2.1 C.2.2 dX9_feed_50
    · refine T_bipush C.1 dX9_feed_22 rfl ?_
      exact T_iret C.1 C.2.1 C.2.2 dX9_feed_24
  · refine T_iconst C.1 dX9_feed_11 ?_
    exact T_iret C.1 C.2.1 C.2.2 dX9_feed_12
def rm_X9_look : Room := { frames := 1, cells := 0, slots := 0, locals := 40 }
def F_X9_look   (m : Mm) : Option (Int32 × Mm) :=
  (if (gI m 113 27) ≤ (gI m 113 28) then
    some ((iI (-1)), m)
  else
    rd 120 (gI m 113 28) fun j1 =>
    some ((gI m 129 j1), m))
set_option maxRecDepth 100000 in
set_option maxHeartbeats 4000000 in
theorem c_X9_look (ll : Launch) (cx : CX)  (m : Mm) : MT ll yX9_look cX9_look 1 ((some .int)) rm_X9_look cx NN NN Lay cvI 0 0 [.ref (cx.2.2.1 + 113)] m (F_X9_look  m) := by
  refine MT_of (by decide) (Nat.le_of_ble_eq_true rfl) ?_
  intro pp ee ss mm aa bb me co hK hr hk hn
  have C : CM pp ss mm aa me co cX9_look 1 RX9 cx ((some .int)) := ⟨hK, hr, hk⟩
  show TI pp ll ee rm_X9_look ss mm aa bb me co 1 cx 0 [(0, .ref (cx.2.2.1 + 113))] [] m (F_X9_look  m)
  unfold F_X9_look
  refine T_aload_n C.1 dX9_look_0 0 rfl ?_
  refine T_getI C.1 fd_X9_220 (fun _ _ _ _ => rfl) sh113 le113 dX9_look_1 ?_
  refine T_aload_n C.1 dX9_look_4 0 rfl ?_
  refine T_getI C.1 fd_X9_217 (fun _ _ _ _ => rfl) sh113 le113 dX9_look_5 ?_
  refine T_icmp_ge (tgt := 23) C.1 dX9_look_8 (by decide) ?_ ?_
  · refine T_iconst C.1 dX9_look_23 ?_
    exact T_iret C.1 C.2.1 C.2.2 dX9_look_24
  · refine T_aload_n C.1 dX9_look_11 0 rfl ?_
    refine T_getR (x := 129) C.1 fd_X9_62 (fun _ _ _ _ => rfl) sh113 le113 (fun _ h => h) rfl (by decide) dX9_look_12 ?_
    refine T_aload_n C.1 dX9_look_15 0 rfl ?_
    refine T_getI C.1 fd_X9_220 (fun _ _ _ _ => rfl) sh113 le113 dX9_look_16 ?_
    refine T_bald C.1 dX9_look_19 sh129 le129 (fun j1 => ?_)
    refine T_goto (tgt := 24) C.1 dX9_look_20 (by decide) ?_
    exact T_iret C.1 C.2.1 C.2.2 dX9_look_24
def rm_X9_faulty : Room := { frames := 1, cells := 0, slots := 0, locals := 40 }
def F_X9_faulty   (m : Mm) : Option (Unit × Mm) :=
  (if iI 0 ≤ (gI m 113 29) then
    some ((), m)
  else
    nm (pI m 113 29 (gI m 113 28)) fun m1 =>
    some ((), m1))
set_option maxRecDepth 100000 in
set_option maxHeartbeats 4000000 in
theorem c_X9_faulty (ll : Launch) (cx : CX)  (m : Mm) : MT ll yX9_faulty cX9_faulty 1 (none) rm_X9_faulty cx NN NN Lay cvV 0 0 [.ref (cx.2.2.1 + 113)] m (F_X9_faulty  m) := by
  refine MT_of (by decide) (Nat.le_of_ble_eq_true rfl) ?_
  intro pp ee ss mm aa bb me co hK hr hk hn
  have C : CM pp ss mm aa me co cX9_faulty 1 RX9 cx (none) := ⟨hK, hr, hk⟩
  show TV pp ll ee rm_X9_faulty ss mm aa bb me co 1 cx 0 [(0, .ref (cx.2.2.1 + 113))] [] m (F_X9_faulty  m)
  unfold F_X9_faulty
  refine T_aload_n C.1 dX9_faulty_0 0 rfl ?_
  refine T_getI C.1 fd_X9_223 (fun _ _ _ _ => rfl) sh113 le113 dX9_faulty_1 ?_
  refine T_if_ge (tgt := 15) C.1 dX9_faulty_4 (by decide) ?_ ?_
  · exact T_vret C.1 C.2.1 C.2.2 dX9_faulty_15
  · refine T_aload_n C.1 dX9_faulty_7 0 rfl ?_
    refine T_aload_n C.1 dX9_faulty_8 0 rfl ?_
    refine T_getI C.1 fd_X9_220 (fun _ _ _ _ => rfl) sh113 le113 dX9_faulty_9 ?_
    refine T_putI C.1 LyI_Lay fd_X9_223 sh113 le113 dX9_faulty_12 (fun m1 => ?_)
    exact T_vret C.1 C.2.1 C.2.2 dX9_faulty_15
def rm_X9_addStep : Room := { frames := 1, cells := 0, slots := 0, locals := 40 }
def F_X9_addStep  (x1 : Int32) (x2 : Int32) (m : Mm) : Option (Unit × Mm) :=
  wrI 260 m 130 ((iI 130) + (gI m 113 31)) (nB (x1.toInt8.toInt32)) fun m1 =>
  wrI 260 m1 131 ((iI 130) + (gI m1 113 31)) x2 fun m2 =>
  nm (pI m2 113 31 ((gI m2 113 31) + (iI 1))) fun m3 =>
  some ((), m3)
set_option maxRecDepth 100000 in
set_option maxHeartbeats 4000000 in
theorem c_X9_addStep (ll : Launch) (cx : CX) (x1 : Int32) (x2 : Int32) (m : Mm) : MT ll yX9_addStep cX9_addStep 3 (none) rm_X9_addStep cx NN NN Lay cvV 0 0 [.ref (cx.2.2.1 + 113), .int x1, .int x2] m (F_X9_addStep x1 x2 m) := by
  refine MT_of (by decide) (Nat.le_of_ble_eq_true rfl) ?_
  intro pp ee ss mm aa bb me co hK hr hk hn
  have C : CM pp ss mm aa me co cX9_addStep 3 RX9 cx (none) := ⟨hK, hr, hk⟩
  show TV pp ll ee rm_X9_addStep ss mm aa bb me co 3 cx 0 [(0, .ref (cx.2.2.1 + 113)), (1, .int x1), (2, .int x2)] [] m (F_X9_addStep x1 x2 m)
  unfold F_X9_addStep
  refine T_aload_n C.1 dX9_addStep_0 0 rfl ?_
  refine T_getR (x := 130) C.1 fd_X9_66 (fun _ _ _ _ => rfl) sh113 le113 (fun _ h => h) rfl (by decide) dX9_addStep_1 ?_
  refine T_sipush C.1 dX9_addStep_4 rfl ?_
  refine T_aload_n C.1 dX9_addStep_7 0 rfl ?_
  refine T_getI C.1 fd_X9_226 (fun _ _ _ _ => rfl) sh113 le113 dX9_addStep_8 ?_
  refine T_iadd C.1 dX9_addStep_11 ?_
  refine T_iload_n C.1 dX9_addStep_12 1 rfl ?_
  refine T_i2b C.1 dX9_addStep_13 ?_
  refine T_bast C.1 LyI_Lay sh130 le130 dX9_addStep_14 (fun m1 => ?_)
  refine T_aload_n C.1 dX9_addStep_15 0 rfl ?_
  refine T_getR (x := 131) C.1 fd_X9_69 (fun _ _ _ _ => rfl) sh113 le113 (fun _ h => h) rfl (by decide) dX9_addStep_16 ?_
  refine T_sipush C.1 dX9_addStep_19 rfl ?_
  refine T_aload_n C.1 dX9_addStep_22 0 rfl ?_
  refine T_getI C.1 fd_X9_226 (fun _ _ _ _ => rfl) sh113 le113 dX9_addStep_23 ?_
  refine T_iadd C.1 dX9_addStep_26 ?_
  refine T_iload_n C.1 dX9_addStep_27 2 rfl ?_
  refine T_iast C.1 LyI_Lay sh131 le131 dX9_addStep_28 (fun m2 => ?_)
  refine T_aload_n C.1 dX9_addStep_29 0 rfl ?_
  refine T_dup C.1 dX9_addStep_30 rfl ?_
  refine T_getI C.1 fd_X9_226 (fun _ _ _ _ => rfl) sh113 le113 dX9_addStep_31 ?_
  refine T_iconst C.1 dX9_addStep_34 ?_
  refine T_iadd C.1 dX9_addStep_35 ?_
  refine T_putI C.1 LyI_Lay fd_X9_226 sh113 le113 dX9_addStep_36 (fun m3 => ?_)
  exact T_vret C.1 C.2.1 C.2.2 dX9_addStep_39
def rm_X9_nameOf : Room := { frames := 1, cells := 0, slots := 0, locals := 40 }
def F_X9_nameOf  (x1 : Int32) (m : Mm) : Option (Int32 × Mm) :=
  tsw x1 (108) [(some ((iI 3), m)),
   (some ((iI (-1)), m)),
   (some ((iI (-1)), m)),
   (some ((iI 4), m)),
   (some ((iI (-1)), m)),
   (some ((iI (-1)), m)),
   (some ((iI 5), m)),
   (some ((iI (-1)), m)),
   (some ((iI 2), m)),
   (some ((iI (-1)), m)),
   (some ((iI (-1)), m)),
   (some ((iI 0), m)),
   (some ((iI 1), m))] (some ((iI (-1)), m))
set_option maxRecDepth 100000 in
set_option maxHeartbeats 4000000 in
theorem c_X9_nameOf (ll : Launch) (cx : CX) (x1 : Int32) (m : Mm) : MT ll yX9_nameOf cX9_nameOf 1 ((some .int)) rm_X9_nameOf cx NN NN Lay cvI 0 0 [.int x1] m (F_X9_nameOf x1 m) := by
  refine MT_of (by decide) (Nat.le_of_ble_eq_true rfl) ?_
  intro pp ee ss mm aa bb me co hK hr hk hn
  have C : CM pp ss mm aa me co cX9_nameOf 1 RX9 cx ((some .int)) := ⟨hK, hr, hk⟩
  show TI pp ll ee rm_X9_nameOf ss mm aa bb me co 1 cx 0 [(0, .int x1)] [] m (F_X9_nameOf x1 m)
  unfold F_X9_nameOf
  refine T_iload_n C.1 dX9_nameOf_0 0 rfl ?_
  refine T_tsw (lo := (108)) (os := [73, 79, 79, 75, 79, 79, 77, 79, 71, 79, 79, 67, 69]) C.1 dX9_nameOf_1 rfl (by decide) (tgd := 80) (by decide) ⟨⟨74, by decide, ?_⟩, ⟨80, by decide, ?_⟩, ⟨80, by decide, ?_⟩, ⟨76, by decide, ?_⟩, ⟨80, by decide, ?_⟩, ⟨80, by decide, ?_⟩, ⟨78, by decide, ?_⟩, ⟨80, by decide, ?_⟩, ⟨72, by decide, ?_⟩, ⟨80, by decide, ?_⟩, ⟨80, by decide, ?_⟩, ⟨68, by decide, ?_⟩, ⟨70, by decide, ?_⟩, trivial⟩ ?_
  · show TI pp ll ee rm_X9_nameOf ss mm aa bb me co 1 cx _ _ _ _ _
    refine T_iconst C.1 dX9_nameOf_74 ?_
    exact T_iret C.1 C.2.1 C.2.2 dX9_nameOf_75
  · show TI pp ll ee rm_X9_nameOf ss mm aa bb me co 1 cx _ _ _ _ _
    refine T_iconst C.1 dX9_nameOf_80 ?_
    exact T_iret C.1 C.2.1 C.2.2 dX9_nameOf_81
  · show TI pp ll ee rm_X9_nameOf ss mm aa bb me co 1 cx _ _ _ _ _
    refine T_iconst C.1 dX9_nameOf_80 ?_
    exact T_iret C.1 C.2.1 C.2.2 dX9_nameOf_81
  · show TI pp ll ee rm_X9_nameOf ss mm aa bb me co 1 cx _ _ _ _ _
    refine T_iconst C.1 dX9_nameOf_76 ?_
    exact T_iret C.1 C.2.1 C.2.2 dX9_nameOf_77
  · show TI pp ll ee rm_X9_nameOf ss mm aa bb me co 1 cx _ _ _ _ _
    refine T_iconst C.1 dX9_nameOf_80 ?_
    exact T_iret C.1 C.2.1 C.2.2 dX9_nameOf_81
  · show TI pp ll ee rm_X9_nameOf ss mm aa bb me co 1 cx _ _ _ _ _
    refine T_iconst C.1 dX9_nameOf_80 ?_
    exact T_iret C.1 C.2.1 C.2.2 dX9_nameOf_81
  · show TI pp ll ee rm_X9_nameOf ss mm aa bb me co 1 cx _ _ _ _ _
    refine T_iconst C.1 dX9_nameOf_78 ?_
    exact T_iret C.1 C.2.1 C.2.2 dX9_nameOf_79
  · show TI pp ll ee rm_X9_nameOf ss mm aa bb me co 1 cx _ _ _ _ _
    refine T_iconst C.1 dX9_nameOf_80 ?_
    exact T_iret C.1 C.2.1 C.2.2 dX9_nameOf_81
  · show TI pp ll ee rm_X9_nameOf ss mm aa bb me co 1 cx _ _ _ _ _
    refine T_iconst C.1 dX9_nameOf_72 ?_
    exact T_iret C.1 C.2.1 C.2.2 dX9_nameOf_73
  · show TI pp ll ee rm_X9_nameOf ss mm aa bb me co 1 cx _ _ _ _ _
    refine T_iconst C.1 dX9_nameOf_80 ?_
    exact T_iret C.1 C.2.1 C.2.2 dX9_nameOf_81
  · show TI pp ll ee rm_X9_nameOf ss mm aa bb me co 1 cx _ _ _ _ _
    refine T_iconst C.1 dX9_nameOf_80 ?_
    exact T_iret C.1 C.2.1 C.2.2 dX9_nameOf_81
  · show TI pp ll ee rm_X9_nameOf ss mm aa bb me co 1 cx _ _ _ _ _
    refine T_iconst C.1 dX9_nameOf_68 ?_
    exact T_iret C.1 C.2.1 C.2.2 dX9_nameOf_69
  · show TI pp ll ee rm_X9_nameOf ss mm aa bb me co 1 cx _ _ _ _ _
    refine T_iconst C.1 dX9_nameOf_70 ?_
    exact T_iret C.1 C.2.1 C.2.2 dX9_nameOf_71
  · show TI pp ll ee rm_X9_nameOf ss mm aa bb me co 1 cx _ _ _ _ _
    refine T_iconst C.1 dX9_nameOf_80 ?_
    exact T_iret C.1 C.2.1 C.2.2 dX9_nameOf_81
def rm_X9_opens : Room := { frames := 2, cells := 0, slots := 0, locals := 60 }
def F_X9_opens   (m : Mm) : Option (Int32 × Mm) :=
  (if (gI m 113 30) = (iI 6) then
    bnd (F_X9_faulty m) fun _ m4 =>
    rz (iI 0) m4
  else
    nm (pI m 113 30 ((gI m 113 30) + (iI 1))) fun m1 =>
    nm (pI m1 113 28 ((gI m1 113 28) + (iI 1))) fun m2 =>
    rz (iI 1) m2)
set_option maxRecDepth 100000 in
set_option maxHeartbeats 4000000 in
theorem c_X9_opens (ll : Launch) (cx : CX)  (m : Mm) : MT ll yX9_opens cX9_opens 1 ((some .boolean)) rm_X9_opens cx NN NN Lay cvI 0 0 [.ref (cx.2.2.1 + 113)] m (F_X9_opens  m) := by
  refine MT_of (by decide) (Nat.le_of_ble_eq_true rfl) ?_
  intro pp ee ss mm aa bb me co hK hr hk hn
  have C : CM pp ss mm aa me co cX9_opens 1 RX9 cx ((some .boolean)) := ⟨hK, hr, hk⟩
  show TI pp ll ee rm_X9_opens ss mm aa bb me co 1 cx 0 [(0, .ref (cx.2.2.1 + 113))] [] m (F_X9_opens  m)
  unfold F_X9_opens
  refine T_aload_n C.1 dX9_opens_0 0 rfl ?_
  refine T_getI C.1 fd_X9_229 (fun _ _ _ _ => rfl) sh113 le113 dX9_opens_1 ?_
  refine T_bipush C.1 dX9_opens_4 rfl ?_
  refine T_icmp_ne (tgt := 15) C.1 dX9_opens_6 (by decide) ?_ ?_
  · refine T_aload_n C.1 dX9_opens_15 0 rfl ?_
    refine T_dup C.1 dX9_opens_16 rfl ?_
    refine T_getI C.1 fd_X9_229 (fun _ _ _ _ => rfl) sh113 le113 dX9_opens_17 ?_
    refine T_iconst C.1 dX9_opens_20 ?_
    refine T_iadd C.1 dX9_opens_21 ?_
    refine T_putI C.1 LyI_Lay fd_X9_229 sh113 le113 dX9_opens_22 (fun m1 => ?_)
    refine T_aload_n C.1 dX9_opens_25 0 rfl ?_
    refine T_dup C.1 dX9_opens_26 rfl ?_
    refine T_getI C.1 fd_X9_220 (fun _ _ _ _ => rfl) sh113 le113 dX9_opens_27 ?_
    refine T_iconst C.1 dX9_opens_30 ?_
    refine T_iadd C.1 dX9_opens_31 ?_
    refine T_putI C.1 LyI_Lay fd_X9_220 sh113 le113 dX9_opens_32 (fun m2 => ?_)
    refine T_iconst C.1 dX9_opens_35 ?_
    exact T_zret C.1 C.2.1 C.2.2 dX9_opens_36
  · refine T_aload_n C.1 dX9_opens_9 0 rfl ?_
    refine T_callVV (rm := rm_X9_faulty) [] [] C.1 dX9_opens_10 mw_X9_faulty wm_6_32 wm_6_34 wm_p_55 ⟨Nat.le_of_ble_eq_true rfl, Nat.le_of_ble_eq_true rfl⟩ ⟨rfl, rfl⟩ ⟨Nat.zero_le _, Nat.zero_le _⟩ rfl rfl (Nat.le_of_ble_eq_true rfl) sh113 le113 ⟨rfl, rfl⟩ (c_X9_faulty ll cx m) (fun u3 m4 => ?_)
    refine T_iconst C.1 dX9_opens_13 ?_
    exact T_zret C.1 C.2.1 C.2.2 dX9_opens_14
def rm_X9_figure : Room := { frames := 2, cells := 0, slots := 0, locals := 62 }
def F_X9_figure_74  (a1 : Int32) (m : Mm) : Option (Unit × Mm) :=
  bnd (F_X9_addStep (iI 1) a1 m) fun _ m2 =>
  some ((), m2)
set_option maxRecDepth 100000 in
set_option maxHeartbeats 4000000 in
theorem t_X9_figure_74 {pp : Program} {ll : Launch} {ee : Env} {ss : State} {mm : MethodId} {aa : Array Value} {bb : List Frame} {me : Method} {co : Code} {cx : CX}     (C : CM pp ss mm aa me co cX9_figure 3 RX9 cx (none))    (a1 : Int32) (m : Mm) : TV pp ll ee rm_X9_figure ss mm aa bb me co 3 cx 74 [(0, .ref (cx.2.2.1 + 113)), (1, .int a1)] [] m (F_X9_figure_74  a1 m) := by
  unfold F_X9_figure_74
  refine T_aload_n C.1 dX9_figure_74 0 rfl ?_
  refine T_iconst C.1 dX9_figure_75 ?_
  refine T_iload_n C.1 dX9_figure_76 1 rfl ?_
  refine T_callVV (rm := rm_X9_addStep) [.int (iI 1), .int a1] [] C.1 dX9_figure_77 mw_X9_addStep wm_6_24 wm_6_26 wm_p_53 ⟨Nat.le_of_ble_eq_true rfl, Nat.le_of_ble_eq_true rfl⟩ ⟨rfl, rfl⟩ ⟨Nat.zero_le _, Nat.zero_le _⟩ rfl rfl (Nat.le_of_ble_eq_true rfl) sh113 le113 ⟨rfl, rfl⟩ (c_X9_addStep ll cx (iI 1) a1 m) (fun u1 m2 => ?_)
  exact T_vret C.1 C.2.1 C.2.2 dX9_figure_80
def F_X9_figure_70  (a1 : Int32) (m : Mm) : Option (Unit × Mm) :=
  bnd (F_X9_faulty m) fun _ m2 =>
  F_X9_figure_74 a1 m2
set_option maxRecDepth 100000 in
set_option maxHeartbeats 4000000 in
theorem t_X9_figure_70 {pp : Program} {ll : Launch} {ee : Env} {ss : State} {mm : MethodId} {aa : Array Value} {bb : List Frame} {me : Method} {co : Code} {cx : CX}     (C : CM pp ss mm aa me co cX9_figure 3 RX9 cx (none))    (a1 : Int32) (m : Mm) : TV pp ll ee rm_X9_figure ss mm aa bb me co 3 cx 70 [(0, .ref (cx.2.2.1 + 113)), (1, .int a1)] [] m (F_X9_figure_70  a1 m) := by
  unfold F_X9_figure_70
  refine T_aload_n C.1 dX9_figure_70 0 rfl ?_
  refine T_callVV (rm := rm_X9_faulty) [] [] C.1 dX9_figure_71 mw_X9_faulty wm_6_32 wm_6_34 wm_p_55 ⟨Nat.le_of_ble_eq_true rfl, Nat.le_of_ble_eq_true rfl⟩ ⟨rfl, rfl⟩ ⟨Nat.zero_le _, Nat.zero_le _⟩ rfl rfl (Nat.le_of_ble_eq_true rfl) sh113 le113 ⟨rfl, rfl⟩ (c_X9_faulty ll cx m) (fun u1 m2 => ?_)
  exact T_sub [0, 1] rfl (t_X9_figure_74 C a1 m2)
def F_X9_figure_52  (a1 : Int32) (a2 : Int32) (m : Mm) : Option (Unit × Mm) :=
  (if a2 = iI 0 then
    F_X9_figure_70 a1 m
  else
    bnd (F_X9_look m) fun v1 m2 =>
    bnd (F_X9_in v1 (iI 48) (iI 57) m2) fun v3 m4 =>
    (if v3 = iI 0 then
      F_X9_figure_74 a1 m4
    else
      F_X9_figure_70 a1 m4))
set_option maxRecDepth 100000 in
set_option maxHeartbeats 4000000 in
theorem t_X9_figure_52 {pp : Program} {ll : Launch} {ee : Env} {ss : State} {mm : MethodId} {aa : Array Value} {bb : List Frame} {me : Method} {co : Code} {cx : CX}     (C : CM pp ss mm aa me co cX9_figure 3 RX9 cx (none))    (a1 : Int32) (a2 : Int32) (m : Mm) : TV pp ll ee rm_X9_figure ss mm aa bb me co 3 cx 52 [(0, .ref (cx.2.2.1 + 113)), (1, .int a1), (2, .int a2)] [] m (F_X9_figure_52  a1 a2 m) := by
  unfold F_X9_figure_52
  refine T_iload_n C.1 dX9_figure_52 2 rfl ?_
  refine T_if_eq (tgt := 70) C.1 dX9_figure_53 (by decide) ?_ ?_
  · exact T_sub [0, 1] rfl (t_X9_figure_70 C a1 m)
  · refine T_aload_n C.1 dX9_figure_56 0 rfl ?_
    refine T_callVI (rm := rm_X9_look) [] [] C.1 dX9_figure_57 mw_X9_look wm_6_17 wm_6_19 wm_p_52 ⟨Nat.le_of_ble_eq_true rfl, Nat.le_of_ble_eq_true rfl⟩ ⟨rfl, rfl⟩ ⟨Nat.zero_le _, Nat.zero_le _⟩ rfl rfl (Nat.le_of_ble_eq_true rfl) sh113 le113 ⟨rfl, rfl⟩ (c_X9_look ll cx m) (fun v1 m2 => ?_)
    refine T_bipush C.1 dX9_figure_60 rfl ?_
    refine T_bipush C.1 dX9_figure_62 rfl ?_
    refine T_callSI (rm := rm_X9_in) [.int v1, .int (iI 48), .int (iI 57)] [] C.1 dX9_figure_64 mw_X9_in wm_5_145 wm_5_146 ⟨Nat.le_of_ble_eq_true rfl, Nat.le_of_ble_eq_true rfl⟩ ⟨rfl, rfl⟩ ⟨Nat.zero_le _, Nat.zero_le _⟩ rfl rfl (Nat.le_of_ble_eq_true rfl) (c_X9_in ll cx v1 (iI 48) (iI 57) m2) (fun v3 m4 => ?_)
    refine T_if_eq (tgt := 74) C.1 dX9_figure_67 (by decide) ?_ ?_
    · exact T_sub [0, 1] rfl (t_X9_figure_74 C a1 m4)
    · exact T_sub [0, 1] rfl (t_X9_figure_70 C a1 m4)
def F_X9_figure_4  : Nat → Int32 → Int32 → Mm → Option (Unit × Mm)
  | 0, _, _, _ => none
  | f + 1, a1, a2, m =>
    (if (iI 4) ≤ a2 then
      F_X9_figure_52 a1 a2 m
    else
      bnd (F_X9_look m) fun v1 m2 =>
      bnd (F_X9_in v1 (iI 48) (iI 57) m2) fun v3 m4 =>
      (if v3 = iI 0 then
        F_X9_figure_52 a1 a2 m4
      else
        bnd (F_X9_look m4) fun v5 m6 =>
        nm ((((iI 10) * a1) + v5) - (iI 48)) fun v7 =>
        nm (a2 + (iI 1)) fun v8 =>
        nm (pI m6 113 28 ((gI m6 113 28) + (iI 1))) fun m9 =>
        F_X9_figure_4  f v7 v8 m9))
set_option maxRecDepth 100000 in
set_option maxHeartbeats 4000000 in
theorem t_X9_figure_4 {pp : Program} {ll : Launch} {ee : Env} {ss : State} {mm : MethodId} {aa : Array Value} {bb : List Frame} {me : Method} {co : Code} {cx : CX}     (C : CM pp ss mm aa me co cX9_figure 3 RX9 cx (none))    : ∀ (f : Nat) (a1 : Int32) (a2 : Int32) (m : Mm), TV pp ll ee rm_X9_figure ss mm aa bb me co 3 cx 4 [(0, .ref (cx.2.2.1 + 113)), (1, .int a1), (2, .int a2)] [] m (F_X9_figure_4  f a1 a2 m) := by
  intro f
  induction f with
  | zero => exact fun _ _ _ => T_none
  | succ f ih =>
    intro a1 a2 m
    unfold F_X9_figure_4
    refine T_iload_n C.1 dX9_figure_4 2 rfl ?_
    refine T_iconst C.1 dX9_figure_5 ?_
    refine T_icmp_ge (tgt := 52) C.1 dX9_figure_6 (by decide) ?_ ?_
    · exact T_sub [0, 1, 2] rfl (t_X9_figure_52 C a1 a2 m)
    · refine T_aload_n C.1 dX9_figure_9 0 rfl ?_
      refine T_callVI (rm := rm_X9_look) [] [] C.1 dX9_figure_10 mw_X9_look wm_6_17 wm_6_19 wm_p_52 ⟨Nat.le_of_ble_eq_true rfl, Nat.le_of_ble_eq_true rfl⟩ ⟨rfl, rfl⟩ ⟨Nat.zero_le _, Nat.zero_le _⟩ rfl rfl (Nat.le_of_ble_eq_true rfl) sh113 le113 ⟨rfl, rfl⟩ (c_X9_look ll cx m) (fun v1 m2 => ?_)
      refine T_bipush C.1 dX9_figure_13 rfl ?_
      refine T_bipush C.1 dX9_figure_15 rfl ?_
      refine T_callSI (rm := rm_X9_in) [.int v1, .int (iI 48), .int (iI 57)] [] C.1 dX9_figure_17 mw_X9_in wm_5_145 wm_5_146 ⟨Nat.le_of_ble_eq_true rfl, Nat.le_of_ble_eq_true rfl⟩ ⟨rfl, rfl⟩ ⟨Nat.zero_le _, Nat.zero_le _⟩ rfl rfl (Nat.le_of_ble_eq_true rfl) (c_X9_in ll cx v1 (iI 48) (iI 57) m2) (fun v3 m4 => ?_)
      refine T_if_eq (tgt := 52) C.1 dX9_figure_20 (by decide) ?_ ?_
      · exact T_sub [0, 1, 2] rfl (t_X9_figure_52 C a1 a2 m4)
      · refine T_bipush C.1 dX9_figure_23 rfl ?_
        refine T_iload_n C.1 dX9_figure_25 1 rfl ?_
        refine T_imul C.1 dX9_figure_26 ?_
        refine T_aload_n C.1 dX9_figure_27 0 rfl ?_
        refine T_callVI (rm := rm_X9_look) [] [.int ((iI 10) * a1)] C.1 dX9_figure_28 mw_X9_look wm_6_17 wm_6_19 wm_p_52 ⟨Nat.le_of_ble_eq_true rfl, Nat.le_of_ble_eq_true rfl⟩ ⟨rfl, rfl⟩ ⟨Nat.zero_le _, Nat.zero_le _⟩ rfl rfl (Nat.le_of_ble_eq_true rfl) sh113 le113 ⟨rfl, rfl⟩ (c_X9_look ll cx m4) (fun v5 m6 => ?_)
        refine T_iadd C.1 dX9_figure_31 ?_
        refine T_bipush C.1 dX9_figure_32 rfl ?_
        refine T_isub C.1 dX9_figure_34 ?_
        refine T_istore_nN C.1 (fun v7 => [(1, .int v7), (0, .ref (cx.2.2.1 + 113)), (2, .int a2)]) dX9_figure_35 (by decide) (fun _ => rfl) (fun v7 => ?_)
        refine T_iincN C.1 (fun v8 => [(2, .int v8), (1, .int v7), (0, .ref (cx.2.2.1 + 113))]) dX9_figure_36 2 rfl (by decide) (fun _ => rfl) (fun v8 => ?_)
        refine T_aload_n C.1 dX9_figure_39 2 rfl ?_
        refine T_dup C.1 dX9_figure_40 rfl ?_
        refine T_getI C.1 fd_X9_220 (fun _ _ _ _ => rfl) sh113 le113 dX9_figure_41 ?_
        refine T_iconst C.1 dX9_figure_44 ?_
        refine T_iadd C.1 dX9_figure_45 ?_
        refine T_putI C.1 LyI_Lay fd_X9_220 sh113 le113 dX9_figure_46 (fun m9 => ?_)
        refine T_goto (tgt := 4) C.1 dX9_figure_49 (by decide) ?_
        exact T_sub [2, 1, 0] rfl (ih v7 v8 m9)
def F_X9_figure   (m : Mm) : Option (Unit × Mm) :=
  F_X9_figure_4 FU (iI 0) (iI 0) m
set_option maxRecDepth 100000 in
set_option maxHeartbeats 4000000 in
theorem c_X9_figure (ll : Launch) (cx : CX)  (m : Mm) : MT ll yX9_figure cX9_figure 3 (none) rm_X9_figure cx NN NN Lay cvV 0 0 [.ref (cx.2.2.1 + 113)] m (F_X9_figure  m) := by
  refine MT_of (by decide) (Nat.le_of_ble_eq_true rfl) ?_
  intro pp ee ss mm aa bb me co hK hr hk hn
  have C : CM pp ss mm aa me co cX9_figure 3 RX9 cx (none) := ⟨hK, hr, hk⟩
  show TV pp ll ee rm_X9_figure ss mm aa bb me co 3 cx 0 [(0, .ref (cx.2.2.1 + 113))] [] m (F_X9_figure  m)
  unfold F_X9_figure
  refine T_iconst C.1 dX9_figure_0 ?_
  refine T_istore_n (lv' := [(1, .int (iI 0)), (0, .ref (cx.2.2.1 + 113))]) C.1 dX9_figure_1 (by decide) rfl ?_
  refine T_iconst C.1 dX9_figure_2 ?_
  refine T_istore_n (lv' := [(2, .int (iI 0)), (1, .int (iI 0)), (0, .ref (cx.2.2.1 + 113))]) C.1 dX9_figure_3 (by decide) rfl ?_
  exact T_sub [2, 1, 0] rfl (t_X9_figure_4 C FU (iI 0) (iI 0) m)
def rmS_156 (d : Nat) : Room := { frames := 3 + d, cells := 0, slots := 0, locals := 84 + 21 * d }
def F_X9_both_4 (f_X9_compared : Mm → Option (Unit × Mm)) : Nat → Mm → Option (Unit × Mm)
  | 0, _ => none
  | f + 1, m =>
    (if iI 0 ≤ (gI m 113 29) then
      some ((), m)
    else
      bnd (F_X9_look m) fun v1 m2 =>
      (if v1 = (iI 38) then
        nm (pI m2 113 28 ((gI m2 113 28) + (iI 1))) fun m3 =>
        bnd (f_X9_compared m3) fun _ m5 =>
        bnd (F_X9_addStep (iI 38) (iI 0) m5) fun _ m7 =>
        F_X9_both_4 f_X9_compared f m7
      else
        some ((), m2)))
set_option maxRecDepth 100000 in
set_option maxHeartbeats 4000000 in
theorem t_X9_both_4 {pp : Program} {ll : Launch} {ee : Env} {ss : State} {mm : MethodId} {aa : Array Value} {bb : List Frame} {me : Method} {co : Code} {cx : CX} {dd : Nat}  {f_X9_compared : Mm → Option (Unit × Mm)}  (C : CM pp ss mm aa me co cX9_both 1 RX9 cx (none))  (hf_X9_compared : ∀  (m : Mm), MT ll yX9_compared cX9_compared 2 (none) (rmS_156 dd) cx NN NN Lay cvV 0 0 [.ref (cx.2.2.1 + 113)] m (f_X9_compared m))   : ∀ (f : Nat)  (m : Mm), TV pp ll ee (rmS_156 (dd + 1)) ss mm aa bb me co 1 cx 4 [(0, .ref (cx.2.2.1 + 113))] [] m (F_X9_both_4 f_X9_compared f m) := by
  intro f
  induction f with
  | zero => exact fun _ => T_none
  | succ f ih =>
    intro  m
    unfold F_X9_both_4
    refine T_aload_n C.1 dX9_both_4 0 rfl ?_
    refine T_getI C.1 fd_X9_223 (fun _ _ _ _ => rfl) sh113 le113 dX9_both_5 ?_
    refine T_if_ge (tgt := 44) C.1 dX9_both_8 (by decide) ?_ ?_
    · exact T_vret C.1 C.2.1 C.2.2 dX9_both_44
    · refine T_aload_n C.1 dX9_both_11 0 rfl ?_
      refine T_callVI (rm := rm_X9_look) [] [] C.1 dX9_both_12 mw_X9_look wm_6_17 wm_6_19 wm_p_52 (by constructor <;> (simp only [rmS_156, rm_X9_look]; omega)) ⟨rfl, rfl⟩ ⟨Nat.zero_le _, Nat.zero_le _⟩ rfl rfl (Nat.le_of_ble_eq_true rfl) sh113 le113 ⟨rfl, rfl⟩ (c_X9_look ll cx m) (fun v1 m2 => ?_)
      refine T_bipush C.1 dX9_both_15 rfl ?_
      refine T_icmp_ne (tgt := 44) C.1 dX9_both_17 (by decide) ?_ ?_
      · exact T_vret C.1 C.2.1 C.2.2 dX9_both_44
      · refine T_aload_n C.1 dX9_both_20 0 rfl ?_
        refine T_dup C.1 dX9_both_21 rfl ?_
        refine T_getI C.1 fd_X9_220 (fun _ _ _ _ => rfl) sh113 le113 dX9_both_22 ?_
        refine T_iconst C.1 dX9_both_25 ?_
        refine T_iadd C.1 dX9_both_26 ?_
        refine T_putI C.1 LyI_Lay fd_X9_220 sh113 le113 dX9_both_27 (fun m3 => ?_)
        refine T_aload_n C.1 dX9_both_30 0 rfl ?_
        refine T_callVV (rm := (rmS_156 dd)) [] [] C.1 dX9_both_31 mw_X9_compared wm_6_1 wm_6_3 wm_p_48 (by constructor <;> (simp only [rmS_156]; omega)) ⟨rfl, rfl⟩ ⟨Nat.zero_le _, Nat.zero_le _⟩ rfl rfl (Nat.le_of_ble_eq_true rfl) sh113 le113 ⟨rfl, rfl⟩ (hf_X9_compared m3) (fun u4 m5 => ?_)
        refine T_aload_n C.1 dX9_both_34 0 rfl ?_
        refine T_bipush C.1 dX9_both_35 rfl ?_
        refine T_iconst C.1 dX9_both_37 ?_
        refine T_callVV (rm := rm_X9_addStep) [.int (iI 38), .int (iI 0)] [] C.1 dX9_both_38 mw_X9_addStep wm_6_24 wm_6_26 wm_p_53 (by constructor <;> (simp only [rmS_156, rm_X9_addStep]; omega)) ⟨rfl, rfl⟩ ⟨Nat.zero_le _, Nat.zero_le _⟩ rfl rfl (Nat.le_of_ble_eq_true rfl) sh113 le113 ⟨rfl, rfl⟩ (c_X9_addStep ll cx (iI 38) (iI 0) m5) (fun u6 m7 => ?_)
        refine T_goto (tgt := 4) C.1 dX9_both_41 (by decide) ?_
        exact T_sub [0] rfl (ih m7)
def B_X9_both (f_X9_compared : Mm → Option (Unit × Mm))  (m : Mm) : Option (Unit × Mm) :=
  bnd (f_X9_compared m) fun _ m2 =>
  F_X9_both_4 f_X9_compared FU m2
set_option maxRecDepth 100000 in
set_option maxHeartbeats 4000000 in
theorem b_X9_both {ll : Launch} {cx : CX} {dd : Nat} (f_X9_compared : Mm → Option (Unit × Mm)) (hf_X9_compared : ∀  (m : Mm), MT ll yX9_compared cX9_compared 2 (none) (rmS_156 dd) cx NN NN Lay cvV 0 0 [.ref (cx.2.2.1 + 113)] m (f_X9_compared m))   (m : Mm) : MT ll yX9_both cX9_both 1 (none) (rmS_156 (dd + 1)) cx NN NN Lay cvV 0 0 [.ref (cx.2.2.1 + 113)] m (B_X9_both f_X9_compared  m) := by
  refine MT_of (by decide) (Nat.le_of_ble_eq_true rfl) ?_
  intro pp ee ss mm aa bb me co hK hr hk hn
  have C : CM pp ss mm aa me co cX9_both 1 RX9 cx (none) := ⟨hK, hr, hk⟩
  show TV pp ll ee (rmS_156 (dd + 1)) ss mm aa bb me co 1 cx 0 [(0, .ref (cx.2.2.1 + 113))] [] m (B_X9_both f_X9_compared  m)
  unfold B_X9_both
  refine T_aload_n C.1 dX9_both_0 0 rfl ?_
  refine T_callVV (rm := (rmS_156 dd)) [] [] C.1 dX9_both_1 mw_X9_compared wm_6_1 wm_6_3 wm_p_48 (by constructor <;> (simp only [rmS_156]; omega)) ⟨rfl, rfl⟩ ⟨Nat.zero_le _, Nat.zero_le _⟩ rfl rfl (Nat.le_of_ble_eq_true rfl) sh113 le113 ⟨rfl, rfl⟩ (hf_X9_compared m) (fun u1 m2 => ?_)
  exact T_sub [0] rfl (t_X9_both_4 C hf_X9_compared FU m2)
def F_X9_compared_35 (f_X9_sum : Mm → Option (Unit × Mm)) (a1 : Int32) (m : Mm) : Option (Unit × Mm) :=
  nm (pI m 113 28 ((gI m 113 28) + (iI 1))) fun m1 =>
  bnd (f_X9_sum m1) fun _ m3 =>
  bnd (F_X9_addStep a1 (iI 0) m3) fun _ m5 =>
  some ((), m5)
set_option maxRecDepth 100000 in
set_option maxHeartbeats 4000000 in
theorem t_X9_compared_35 {pp : Program} {ll : Launch} {ee : Env} {ss : State} {mm : MethodId} {aa : Array Value} {bb : List Frame} {me : Method} {co : Code} {cx : CX} {dd : Nat}  {f_X9_sum : Mm → Option (Unit × Mm)}  (C : CM pp ss mm aa me co cX9_compared 2 RX9 cx (none))  (hf_X9_sum : ∀  (m : Mm), MT ll yX9_sum cX9_sum 2 (none) (rmS_156 dd) cx NN NN Lay cvV 0 0 [.ref (cx.2.2.1 + 113)] m (f_X9_sum m))   (a1 : Int32) (m : Mm) : TV pp ll ee (rmS_156 (dd + 1)) ss mm aa bb me co 2 cx 35 [(0, .ref (cx.2.2.1 + 113)), (1, .int a1)] [] m (F_X9_compared_35 f_X9_sum a1 m) := by
  unfold F_X9_compared_35
  refine T_aload_n C.1 dX9_compared_35 0 rfl ?_
  refine T_dup C.1 dX9_compared_36 rfl ?_
  refine T_getI C.1 fd_X9_220 (fun _ _ _ _ => rfl) sh113 le113 dX9_compared_37 ?_
  refine T_iconst C.1 dX9_compared_40 ?_
  refine T_iadd C.1 dX9_compared_41 ?_
  refine T_putI C.1 LyI_Lay fd_X9_220 sh113 le113 dX9_compared_42 (fun m1 => ?_)
  refine T_aload_n C.1 dX9_compared_45 0 rfl ?_
  refine T_callVV (rm := (rmS_156 dd)) [] [] C.1 dX9_compared_46 mw_X9_sum wm_6_5 wm_6_7 wm_p_49 (by constructor <;> (simp only [rmS_156]; omega)) ⟨rfl, rfl⟩ ⟨Nat.zero_le _, Nat.zero_le _⟩ rfl rfl (Nat.le_of_ble_eq_true rfl) sh113 le113 ⟨rfl, rfl⟩ (hf_X9_sum m1) (fun u2 m3 => ?_)
  refine T_aload_n C.1 dX9_compared_49 0 rfl ?_
  refine T_iload_n C.1 dX9_compared_50 1 rfl ?_
  refine T_iconst C.1 dX9_compared_51 ?_
  refine T_callVV (rm := rm_X9_addStep) [.int a1, .int (iI 0)] [] C.1 dX9_compared_52 mw_X9_addStep wm_6_24 wm_6_26 wm_p_53 (by constructor <;> (simp only [rmS_156, rm_X9_addStep]; omega)) ⟨rfl, rfl⟩ ⟨Nat.zero_le _, Nat.zero_le _⟩ rfl rfl (Nat.le_of_ble_eq_true rfl) sh113 le113 ⟨rfl, rfl⟩ (c_X9_addStep ll cx a1 (iI 0) m3) (fun u4 m5 => ?_)
  exact T_vret C.1 C.2.1 C.2.2 dX9_compared_55
def B_X9_compared (f_X9_sum : Mm → Option (Unit × Mm))  (m : Mm) : Option (Unit × Mm) :=
  bnd (f_X9_sum m) fun _ m2 =>
  bnd (F_X9_look m2) fun v3 m4 =>
  (if iI 0 ≤ (gI m4 113 29) then
    some ((), m4)
  else
    (if v3 = (iI 60) then
      F_X9_compared_35 f_X9_sum v3 m4
    else
      (if v3 = (iI 61) then
        F_X9_compared_35 f_X9_sum v3 m4
      else
        (if v3 = (iI 62) then
          F_X9_compared_35 f_X9_sum v3 m4
        else
          some ((), m4)))))
set_option maxRecDepth 100000 in
set_option maxHeartbeats 4000000 in
theorem b_X9_compared {ll : Launch} {cx : CX} {dd : Nat} (f_X9_sum : Mm → Option (Unit × Mm)) (hf_X9_sum : ∀  (m : Mm), MT ll yX9_sum cX9_sum 2 (none) (rmS_156 dd) cx NN NN Lay cvV 0 0 [.ref (cx.2.2.1 + 113)] m (f_X9_sum m))   (m : Mm) : MT ll yX9_compared cX9_compared 2 (none) (rmS_156 (dd + 1)) cx NN NN Lay cvV 0 0 [.ref (cx.2.2.1 + 113)] m (B_X9_compared f_X9_sum  m) := by
  refine MT_of (by decide) (Nat.le_of_ble_eq_true rfl) ?_
  intro pp ee ss mm aa bb me co hK hr hk hn
  have C : CM pp ss mm aa me co cX9_compared 2 RX9 cx (none) := ⟨hK, hr, hk⟩
  show TV pp ll ee (rmS_156 (dd + 1)) ss mm aa bb me co 2 cx 0 [(0, .ref (cx.2.2.1 + 113))] [] m (B_X9_compared f_X9_sum  m)
  unfold B_X9_compared
  refine T_aload_n C.1 dX9_compared_0 0 rfl ?_
  refine T_callVV (rm := (rmS_156 dd)) [] [] C.1 dX9_compared_1 mw_X9_sum wm_6_5 wm_6_7 wm_p_49 (by constructor <;> (simp only [rmS_156]; omega)) ⟨rfl, rfl⟩ ⟨Nat.zero_le _, Nat.zero_le _⟩ rfl rfl (Nat.le_of_ble_eq_true rfl) sh113 le113 ⟨rfl, rfl⟩ (hf_X9_sum m) (fun u1 m2 => ?_)
  refine T_aload_n C.1 dX9_compared_4 0 rfl ?_
  refine T_callVI (rm := rm_X9_look) [] [] C.1 dX9_compared_5 mw_X9_look wm_6_17 wm_6_19 wm_p_52 (by constructor <;> (simp only [rmS_156, rm_X9_look]; omega)) ⟨rfl, rfl⟩ ⟨Nat.zero_le _, Nat.zero_le _⟩ rfl rfl (Nat.le_of_ble_eq_true rfl) sh113 le113 ⟨rfl, rfl⟩ (c_X9_look ll cx m2) (fun v3 m4 => ?_)
  refine T_istore_n (lv' := [(1, .int v3), (0, .ref (cx.2.2.1 + 113))]) C.1 dX9_compared_8 (by decide) rfl ?_
  refine T_aload_n C.1 dX9_compared_9 1 rfl ?_
  refine T_getI C.1 fd_X9_223 (fun _ _ _ _ => rfl) sh113 le113 dX9_compared_10 ?_
  refine T_if_ge (tgt := 34) C.1 dX9_compared_13 (by decide) ?_ ?_
  · exact T_vret C.1 C.2.1 C.2.2 dX9_compared_34
  · refine T_iload_n C.1 dX9_compared_16 0 rfl ?_
    refine T_bipush C.1 dX9_compared_17 rfl ?_
    refine T_icmp_eq (tgt := 35) C.1 dX9_compared_19 (by decide) ?_ ?_
    · exact T_sub [1, 0] rfl (t_X9_compared_35 C hf_X9_sum v3 m4)
    · refine T_iload_n C.1 dX9_compared_22 0 rfl ?_
      refine T_bipush C.1 dX9_compared_23 rfl ?_
      refine T_icmp_eq (tgt := 35) C.1 dX9_compared_25 (by decide) ?_ ?_
      · exact T_sub [1, 0] rfl (t_X9_compared_35 C hf_X9_sum v3 m4)
      · refine T_iload_n C.1 dX9_compared_28 0 rfl ?_
        refine T_bipush C.1 dX9_compared_29 rfl ?_
        refine T_icmp_eq (tgt := 35) C.1 dX9_compared_31 (by decide) ?_ ?_
        · exact T_sub [1, 0] rfl (t_X9_compared_35 C hf_X9_sum v3 m4)
        · exact T_vret C.1 C.2.1 C.2.2 dX9_compared_34
def F_X9_either_4 (f_X9_both : Mm → Option (Unit × Mm)) : Nat → Mm → Option (Unit × Mm)
  | 0, _ => none
  | f + 1, m =>
    (if iI 0 ≤ (gI m 113 29) then
      some ((), m)
    else
      bnd (F_X9_look m) fun v1 m2 =>
      (if v1 = (iI 124) then
        nm (pI m2 113 28 ((gI m2 113 28) + (iI 1))) fun m3 =>
        bnd (f_X9_both m3) fun _ m5 =>
        bnd (F_X9_addStep (iI 124) (iI 0) m5) fun _ m7 =>
        F_X9_either_4 f_X9_both f m7
      else
        some ((), m2)))
set_option maxRecDepth 100000 in
set_option maxHeartbeats 4000000 in
theorem t_X9_either_4 {pp : Program} {ll : Launch} {ee : Env} {ss : State} {mm : MethodId} {aa : Array Value} {bb : List Frame} {me : Method} {co : Code} {cx : CX} {dd : Nat}  {f_X9_both : Mm → Option (Unit × Mm)}  (C : CM pp ss mm aa me co cX9_either 1 RX9 cx (none))  (hf_X9_both : ∀  (m : Mm), MT ll yX9_both cX9_both 1 (none) (rmS_156 dd) cx NN NN Lay cvV 0 0 [.ref (cx.2.2.1 + 113)] m (f_X9_both m))   : ∀ (f : Nat)  (m : Mm), TV pp ll ee (rmS_156 (dd + 1)) ss mm aa bb me co 1 cx 4 [(0, .ref (cx.2.2.1 + 113))] [] m (F_X9_either_4 f_X9_both f m) := by
  intro f
  induction f with
  | zero => exact fun _ => T_none
  | succ f ih =>
    intro  m
    unfold F_X9_either_4
    refine T_aload_n C.1 dX9_either_4 0 rfl ?_
    refine T_getI C.1 fd_X9_223 (fun _ _ _ _ => rfl) sh113 le113 dX9_either_5 ?_
    refine T_if_ge (tgt := 44) C.1 dX9_either_8 (by decide) ?_ ?_
    · exact T_vret C.1 C.2.1 C.2.2 dX9_either_44
    · refine T_aload_n C.1 dX9_either_11 0 rfl ?_
      refine T_callVI (rm := rm_X9_look) [] [] C.1 dX9_either_12 mw_X9_look wm_6_17 wm_6_19 wm_p_52 (by constructor <;> (simp only [rmS_156, rm_X9_look]; omega)) ⟨rfl, rfl⟩ ⟨Nat.zero_le _, Nat.zero_le _⟩ rfl rfl (Nat.le_of_ble_eq_true rfl) sh113 le113 ⟨rfl, rfl⟩ (c_X9_look ll cx m) (fun v1 m2 => ?_)
      refine T_bipush C.1 dX9_either_15 rfl ?_
      refine T_icmp_ne (tgt := 44) C.1 dX9_either_17 (by decide) ?_ ?_
      · exact T_vret C.1 C.2.1 C.2.2 dX9_either_44
      · refine T_aload_n C.1 dX9_either_20 0 rfl ?_
        refine T_dup C.1 dX9_either_21 rfl ?_
        refine T_getI C.1 fd_X9_220 (fun _ _ _ _ => rfl) sh113 le113 dX9_either_22 ?_
        refine T_iconst C.1 dX9_either_25 ?_
        refine T_iadd C.1 dX9_either_26 ?_
        refine T_putI C.1 LyI_Lay fd_X9_220 sh113 le113 dX9_either_27 (fun m3 => ?_)
        refine T_aload_n C.1 dX9_either_30 0 rfl ?_
        refine T_callVV (rm := (rmS_156 dd)) [] [] C.1 dX9_either_31 mw_X9_both wm_5_237 wm_5_239 wm_p_47 (by constructor <;> (simp only [rmS_156]; omega)) ⟨rfl, rfl⟩ ⟨Nat.zero_le _, Nat.zero_le _⟩ rfl rfl (Nat.le_of_ble_eq_true rfl) sh113 le113 ⟨rfl, rfl⟩ (hf_X9_both m3) (fun u4 m5 => ?_)
        refine T_aload_n C.1 dX9_either_34 0 rfl ?_
        refine T_bipush C.1 dX9_either_35 rfl ?_
        refine T_iconst C.1 dX9_either_37 ?_
        refine T_callVV (rm := rm_X9_addStep) [.int (iI 124), .int (iI 0)] [] C.1 dX9_either_38 mw_X9_addStep wm_6_24 wm_6_26 wm_p_53 (by constructor <;> (simp only [rmS_156, rm_X9_addStep]; omega)) ⟨rfl, rfl⟩ ⟨Nat.zero_le _, Nat.zero_le _⟩ rfl rfl (Nat.le_of_ble_eq_true rfl) sh113 le113 ⟨rfl, rfl⟩ (c_X9_addStep ll cx (iI 124) (iI 0) m5) (fun u6 m7 => ?_)
        refine T_goto (tgt := 4) C.1 dX9_either_41 (by decide) ?_
        exact T_sub [0] rfl (ih m7)
def B_X9_either (f_X9_both : Mm → Option (Unit × Mm))  (m : Mm) : Option (Unit × Mm) :=
  bnd (f_X9_both m) fun _ m2 =>
  F_X9_either_4 f_X9_both FU m2
set_option maxRecDepth 100000 in
set_option maxHeartbeats 4000000 in
theorem b_X9_either {ll : Launch} {cx : CX} {dd : Nat} (f_X9_both : Mm → Option (Unit × Mm)) (hf_X9_both : ∀  (m : Mm), MT ll yX9_both cX9_both 1 (none) (rmS_156 dd) cx NN NN Lay cvV 0 0 [.ref (cx.2.2.1 + 113)] m (f_X9_both m))   (m : Mm) : MT ll yX9_either cX9_either 1 (none) (rmS_156 (dd + 1)) cx NN NN Lay cvV 0 0 [.ref (cx.2.2.1 + 113)] m (B_X9_either f_X9_both  m) := by
  refine MT_of (by decide) (Nat.le_of_ble_eq_true rfl) ?_
  intro pp ee ss mm aa bb me co hK hr hk hn
  have C : CM pp ss mm aa me co cX9_either 1 RX9 cx (none) := ⟨hK, hr, hk⟩
  show TV pp ll ee (rmS_156 (dd + 1)) ss mm aa bb me co 1 cx 0 [(0, .ref (cx.2.2.1 + 113))] [] m (B_X9_either f_X9_both  m)
  unfold B_X9_either
  refine T_aload_n C.1 dX9_either_0 0 rfl ?_
  refine T_callVV (rm := (rmS_156 dd)) [] [] C.1 dX9_either_1 mw_X9_both wm_5_237 wm_5_239 wm_p_47 (by constructor <;> (simp only [rmS_156]; omega)) ⟨rfl, rfl⟩ ⟨Nat.zero_le _, Nat.zero_le _⟩ rfl rfl (Nat.le_of_ble_eq_true rfl) sh113 le113 ⟨rfl, rfl⟩ (hf_X9_both m) (fun u1 m2 => ?_)
  exact T_sub [0] rfl (t_X9_either_4 C hf_X9_both FU m2)
def F_X9_operand_80 (f_X9_either : Mm → Option (Unit × Mm)) (f_X9_operand : Mm → Option (Unit × Mm)) (a1 : Int32) (m : Mm) : Option (Unit × Mm) :=
  bnd (F_X9_addStep a1 (iI 0) m) fun _ m2 =>
  some ((), m2)
set_option maxRecDepth 100000 in
set_option maxHeartbeats 4000000 in
theorem t_X9_operand_80 {pp : Program} {ll : Launch} {ee : Env} {ss : State} {mm : MethodId} {aa : Array Value} {bb : List Frame} {me : Method} {co : Code} {cx : CX} {dd : Nat}  {f_X9_either : Mm → Option (Unit × Mm)} {f_X9_operand : Mm → Option (Unit × Mm)}  (C : CM pp ss mm aa me co cX9_operand 2 RX9 cx (none))  (hf_X9_either : ∀  (m : Mm), MT ll yX9_either cX9_either 1 (none) (rmS_156 dd) cx NN NN Lay cvV 0 0 [.ref (cx.2.2.1 + 113)] m (f_X9_either m)) (hf_X9_operand : ∀  (m : Mm), MT ll yX9_operand cX9_operand 2 (none) (rmS_156 dd) cx NN NN Lay cvV 0 0 [.ref (cx.2.2.1 + 113)] m (f_X9_operand m))   (a1 : Int32) (m : Mm) : TV pp ll ee (rmS_156 (dd + 1)) ss mm aa bb me co 2 cx 80 [] [.int a1, .ref (cx.2.2.1 + 113)] m (F_X9_operand_80 f_X9_either f_X9_operand a1 m) := by
  unfold F_X9_operand_80
  refine T_iconst C.1 dX9_operand_80 ?_
  refine T_callVV (rm := rm_X9_addStep) [.int a1, .int (iI 0)] [] C.1 dX9_operand_81 mw_X9_addStep wm_6_24 wm_6_26 wm_p_53 (by constructor <;> (simp only [rmS_156, rm_X9_addStep]; omega)) ⟨rfl, rfl⟩ ⟨Nat.zero_le _, Nat.zero_le _⟩ rfl rfl (Nat.le_of_ble_eq_true rfl) sh113 le113 ⟨rfl, rfl⟩ (c_X9_addStep ll cx a1 (iI 0) m) (fun u1 m2 => ?_)
  refine T_goto (tgt := 154) C.1 dX9_operand_84 (by decide) ?_
  exact T_vret C.1 C.2.1 C.2.2 dX9_operand_154
def F_X9_operand_46 (f_X9_either : Mm → Option (Unit × Mm)) (f_X9_operand : Mm → Option (Unit × Mm)) (a1 : Int32) (m : Mm) : Option (Unit × Mm) :=
  bnd (F_X9_opens m) fun v1 m2 =>
  (if v1 = iI 0 then
    some ((), m2)
  else
    bnd (f_X9_operand m2) fun _ m4 =>
    nm (pI m4 113 30 ((gI m4 113 30) - (iI 1))) fun m5 =>
    (if a1 = (iI 33) then
      F_X9_operand_80 f_X9_either f_X9_operand (iI 3) m5
    else
      F_X9_operand_80 f_X9_either f_X9_operand (iI 4) m5))
set_option maxRecDepth 100000 in
set_option maxHeartbeats 4000000 in
theorem t_X9_operand_46 {pp : Program} {ll : Launch} {ee : Env} {ss : State} {mm : MethodId} {aa : Array Value} {bb : List Frame} {me : Method} {co : Code} {cx : CX} {dd : Nat}  {f_X9_either : Mm → Option (Unit × Mm)} {f_X9_operand : Mm → Option (Unit × Mm)}  (C : CM pp ss mm aa me co cX9_operand 2 RX9 cx (none))  (hf_X9_either : ∀  (m : Mm), MT ll yX9_either cX9_either 1 (none) (rmS_156 dd) cx NN NN Lay cvV 0 0 [.ref (cx.2.2.1 + 113)] m (f_X9_either m)) (hf_X9_operand : ∀  (m : Mm), MT ll yX9_operand cX9_operand 2 (none) (rmS_156 dd) cx NN NN Lay cvV 0 0 [.ref (cx.2.2.1 + 113)] m (f_X9_operand m))   (a1 : Int32) (m : Mm) : TV pp ll ee (rmS_156 (dd + 1)) ss mm aa bb me co 2 cx 46 [(0, .ref (cx.2.2.1 + 113)), (1, .int a1)] [] m (F_X9_operand_46 f_X9_either f_X9_operand a1 m) := by
  unfold F_X9_operand_46
  refine T_aload_n C.1 dX9_operand_46 0 rfl ?_
  refine T_callVI (rm := rm_X9_opens) [] [] C.1 dX9_operand_47 mw_X9_opens wm_6_28 wm_6_30 wm_p_54 (by constructor <;> (simp only [rmS_156, rm_X9_opens]; omega)) ⟨rfl, rfl⟩ ⟨Nat.zero_le _, Nat.zero_le _⟩ rfl rfl (Nat.le_of_ble_eq_true rfl) sh113 le113 ⟨rfl, rfl⟩ (c_X9_opens ll cx m) (fun v1 m2 => ?_)
  refine T_if_ne (tgt := 54) C.1 dX9_operand_50 (by decide) ?_ ?_
  · refine T_aload_n C.1 dX9_operand_54 0 rfl ?_
    refine T_callVV (rm := (rmS_156 dd)) [] [] C.1 dX9_operand_55 mw_X9_operand wm_6_13 wm_6_15 wm_p_51 (by constructor <;> (simp only [rmS_156]; omega)) ⟨rfl, rfl⟩ ⟨Nat.zero_le _, Nat.zero_le _⟩ rfl rfl (Nat.le_of_ble_eq_true rfl) sh113 le113 ⟨rfl, rfl⟩ (hf_X9_operand m2) (fun u3 m4 => ?_)
    refine T_aload_n C.1 dX9_operand_58 0 rfl ?_
    refine T_dup C.1 dX9_operand_59 rfl ?_
    refine T_getI C.1 fd_X9_229 (fun _ _ _ _ => rfl) sh113 le113 dX9_operand_60 ?_
    refine T_iconst C.1 dX9_operand_63 ?_
    refine T_isub C.1 dX9_operand_64 ?_
    refine T_putI C.1 LyI_Lay fd_X9_229 sh113 le113 dX9_operand_65 (fun m5 => ?_)
    refine T_aload_n C.1 dX9_operand_68 0 rfl ?_
    refine T_iload_n C.1 dX9_operand_69 1 rfl ?_
    refine T_bipush C.1 dX9_operand_70 rfl ?_
    refine T_icmp_ne (tgt := 79) C.1 dX9_operand_72 (by decide) ?_ ?_
    · refine T_iconst C.1 dX9_operand_79 ?_
      exact T_sub [] rfl (t_X9_operand_80 C hf_X9_either hf_X9_operand (iI 4) m5)
    · refine T_iconst C.1 dX9_operand_75 ?_
      refine T_goto (tgt := 80) C.1 dX9_operand_76 (by decide) ?_
      exact T_sub [] rfl (t_X9_operand_80 C hf_X9_either hf_X9_operand (iI 3) m5)
  · exact T_vret C.1 C.2.1 C.2.2 dX9_operand_53
def B_X9_operand (f_X9_either : Mm → Option (Unit × Mm)) (f_X9_operand : Mm → Option (Unit × Mm))  (m : Mm) : Option (Unit × Mm) :=
  bnd (F_X9_look m) fun v1 m2 =>
  bnd (F_X9_nameOf v1 m2) fun v3 m4 =>
  (if v3 < iI 0 then
    (if v1 = (iI 33) then
      F_X9_operand_46 f_X9_either f_X9_operand v1 m4
    else
      (if v1 = (iI 45) then
        F_X9_operand_46 f_X9_either f_X9_operand v1 m4
      else
        (if v1 = (iI 40) then
          bnd (F_X9_opens m4) fun v7 m8 =>
          (if v7 = iI 0 then
            some ((), m8)
          else
            bnd (f_X9_either m8) fun _ m10 =>
            (if (gI m10 113 29) < iI 0 then
              bnd (F_X9_look m10) fun v11 m12 =>
              (if v11 = (iI 41) then
                nm (pI m12 113 28 ((gI m12 113 28) + (iI 1))) fun m13 =>
                nm (pI m13 113 30 ((gI m13 113 30) - (iI 1))) fun m14 =>
                some ((), m14)
              else
                bnd (F_X9_faulty m12) fun _ m16 =>
                some ((), m16))
            else
              some ((), m10)))
        else
          bnd (F_X9_figure m4) fun _ m6 =>
          some ((), m6))))
  else
    bnd (F_X9_nameOf v1 m4) fun v17 m18 =>
    bnd (F_X9_addStep (iI 2) v17 m18) fun _ m20 =>
    nm (pI m20 113 28 ((gI m20 113 28) + (iI 1))) fun m21 =>
    some ((), m21))
set_option maxRecDepth 100000 in
set_option maxHeartbeats 4000000 in
theorem b_X9_operand {ll : Launch} {cx : CX} {dd : Nat} (f_X9_either : Mm → Option (Unit × Mm)) (f_X9_operand : Mm → Option (Unit × Mm)) (hf_X9_either : ∀  (m : Mm), MT ll yX9_either cX9_either 1 (none) (rmS_156 dd) cx NN NN Lay cvV 0 0 [.ref (cx.2.2.1 + 113)] m (f_X9_either m)) (hf_X9_operand : ∀  (m : Mm), MT ll yX9_operand cX9_operand 2 (none) (rmS_156 dd) cx NN NN Lay cvV 0 0 [.ref (cx.2.2.1 + 113)] m (f_X9_operand m))   (m : Mm) : MT ll yX9_operand cX9_operand 2 (none) (rmS_156 (dd + 1)) cx NN NN Lay cvV 0 0 [.ref (cx.2.2.1 + 113)] m (B_X9_operand f_X9_either f_X9_operand  m) := by
  refine MT_of (by decide) (Nat.le_of_ble_eq_true rfl) ?_
  intro pp ee ss mm aa bb me co hK hr hk hn
  have C : CM pp ss mm aa me co cX9_operand 2 RX9 cx (none) := ⟨hK, hr, hk⟩
  show TV pp ll ee (rmS_156 (dd + 1)) ss mm aa bb me co 2 cx 0 [(0, .ref (cx.2.2.1 + 113))] [] m (B_X9_operand f_X9_either f_X9_operand  m)
  unfold B_X9_operand
  refine T_aload_n C.1 dX9_operand_0 0 rfl ?_
  refine T_callVI (rm := rm_X9_look) [] [] C.1 dX9_operand_1 mw_X9_look wm_6_17 wm_6_19 wm_p_52 (by constructor <;> (simp only [rmS_156, rm_X9_look]; omega)) ⟨rfl, rfl⟩ ⟨Nat.zero_le _, Nat.zero_le _⟩ rfl rfl (Nat.le_of_ble_eq_true rfl) sh113 le113 ⟨rfl, rfl⟩ (c_X9_look ll cx m) (fun v1 m2 => ?_)
  refine T_istore_n (lv' := [(1, .int v1), (0, .ref (cx.2.2.1 + 113))]) C.1 dX9_operand_4 (by decide) rfl ?_
  refine T_iload_n C.1 dX9_operand_5 0 rfl ?_
  refine T_callSI (rm := rm_X9_nameOf) [.int v1] [] C.1 dX9_operand_6 mw_X9_nameOf wm_6_21 wm_6_22 (by constructor <;> (simp only [rmS_156, rm_X9_nameOf]; omega)) ⟨rfl, rfl⟩ ⟨Nat.zero_le _, Nat.zero_le _⟩ rfl rfl (Nat.le_of_ble_eq_true rfl) (c_X9_nameOf ll cx v1 m2) (fun v3 m4 => ?_)
  refine T_if_lt (tgt := 34) C.1 dX9_operand_9 (by decide) ?_ ?_
  · refine T_iload_n C.1 dX9_operand_34 0 rfl ?_
    refine T_bipush C.1 dX9_operand_35 rfl ?_
    refine T_icmp_eq (tgt := 46) C.1 dX9_operand_37 (by decide) ?_ ?_
    · exact T_sub [1, 0] rfl (t_X9_operand_46 C hf_X9_either hf_X9_operand v1 m4)
    · refine T_iload_n C.1 dX9_operand_40 0 rfl ?_
      refine T_bipush C.1 dX9_operand_41 rfl ?_
      refine T_icmp_ne (tgt := 87) C.1 dX9_operand_43 (by decide) ?_ ?_
      · refine T_iload_n C.1 dX9_operand_87 0 rfl ?_
        refine T_bipush C.1 dX9_operand_88 rfl ?_
        refine T_icmp_ne (tgt := 150) C.1 dX9_operand_90 (by decide) ?_ ?_
        · refine T_aload_n C.1 dX9_operand_150 1 rfl ?_
          refine T_callVV (rm := rm_X9_figure) [] [] C.1 dX9_operand_151 mw_X9_figure wm_6_36 wm_6_38 wm_p_56 (by constructor <;> (simp only [rmS_156, rm_X9_figure]; omega)) ⟨rfl, rfl⟩ ⟨Nat.zero_le _, Nat.zero_le _⟩ rfl rfl (Nat.le_of_ble_eq_true rfl) sh113 le113 ⟨rfl, rfl⟩ (c_X9_figure ll cx m4) (fun u5 m6 => ?_)
          exact T_vret C.1 C.2.1 C.2.2 dX9_operand_154
        · refine T_aload_n C.1 dX9_operand_93 1 rfl ?_
          refine T_callVI (rm := rm_X9_opens) [] [] C.1 dX9_operand_94 mw_X9_opens wm_6_28 wm_6_30 wm_p_54 (by constructor <;> (simp only [rmS_156, rm_X9_opens]; omega)) ⟨rfl, rfl⟩ ⟨Nat.zero_le _, Nat.zero_le _⟩ rfl rfl (Nat.le_of_ble_eq_true rfl) sh113 le113 ⟨rfl, rfl⟩ (c_X9_opens ll cx m4) (fun v7 m8 => ?_)
          refine T_if_ne (tgt := 101) C.1 dX9_operand_97 (by decide) ?_ ?_
          · refine T_aload_n C.1 dX9_operand_101 1 rfl ?_
            refine T_callVV (rm := (rmS_156 dd)) [] [] C.1 dX9_operand_102 mw_X9_either wm_5_233 wm_5_235 wm_p_46 (by constructor <;> (simp only [rmS_156]; omega)) ⟨rfl, rfl⟩ ⟨Nat.zero_le _, Nat.zero_le _⟩ rfl rfl (Nat.le_of_ble_eq_true rfl) sh113 le113 ⟨rfl, rfl⟩ (hf_X9_either m8) (fun u9 m10 => ?_)
            refine T_aload_n C.1 dX9_operand_105 1 rfl ?_
            refine T_getI C.1 fd_X9_223 (fun _ _ _ _ => rfl) sh113 le113 dX9_operand_106 ?_
            refine T_if_lt (tgt := 113) C.1 dX9_operand_109 (by decide) ?_ ?_
            · refine T_aload_n C.1 dX9_operand_113 1 rfl ?_
              refine T_callVI (rm := rm_X9_look) [] [] C.1 dX9_operand_114 mw_X9_look wm_6_17 wm_6_19 wm_p_52 (by constructor <;> (simp only [rmS_156, rm_X9_look]; omega)) ⟨rfl, rfl⟩ ⟨Nat.zero_le _, Nat.zero_le _⟩ rfl rfl (Nat.le_of_ble_eq_true rfl) sh113 le113 ⟨rfl, rfl⟩ (c_X9_look ll cx m10) (fun v11 m12 => ?_)
              refine T_bipush C.1 dX9_operand_117 rfl ?_
              refine T_icmp_eq (tgt := 127) C.1 dX9_operand_119 (by decide) ?_ ?_
              · refine T_aload_n C.1 dX9_operand_127 1 rfl ?_
                refine T_dup C.1 dX9_operand_128 rfl ?_
                refine T_getI C.1 fd_X9_220 (fun _ _ _ _ => rfl) sh113 le113 dX9_operand_129 ?_
                refine T_iconst C.1 dX9_operand_132 ?_
                refine T_iadd C.1 dX9_operand_133 ?_
                refine T_putI C.1 LyI_Lay fd_X9_220 sh113 le113 dX9_operand_134 (fun m13 => ?_)
                refine T_aload_n C.1 dX9_operand_137 1 rfl ?_
                refine T_dup C.1 dX9_operand_138 rfl ?_
                refine T_getI C.1 fd_X9_229 (fun _ _ _ _ => rfl) sh113 le113 dX9_operand_139 ?_
                refine T_iconst C.1 dX9_operand_142 ?_
                refine T_isub C.1 dX9_operand_143 ?_
                refine T_putI C.1 LyI_Lay fd_X9_229 sh113 le113 dX9_operand_144 (fun m14 => ?_)
                refine T_goto (tgt := 154) C.1 dX9_operand_147 (by decide) ?_
                exact T_vret C.1 C.2.1 C.2.2 dX9_operand_154
              · refine T_aload_n C.1 dX9_operand_122 1 rfl ?_
                refine T_callVV (rm := rm_X9_faulty) [] [] C.1 dX9_operand_123 mw_X9_faulty wm_6_32 wm_6_34 wm_p_55 (by constructor <;> (simp only [rmS_156, rm_X9_faulty]; omega)) ⟨rfl, rfl⟩ ⟨Nat.zero_le _, Nat.zero_le _⟩ rfl rfl (Nat.le_of_ble_eq_true rfl) sh113 le113 ⟨rfl, rfl⟩ (c_X9_faulty ll cx m12) (fun u15 m16 => ?_)
                exact T_vret C.1 C.2.1 C.2.2 dX9_operand_126
            · exact T_vret C.1 C.2.1 C.2.2 dX9_operand_112
          · exact T_vret C.1 C.2.1 C.2.2 dX9_operand_100
      · exact T_sub [1, 0] rfl (t_X9_operand_46 C hf_X9_either hf_X9_operand v1 m4)
  · refine T_aload_n C.1 dX9_operand_12 1 rfl ?_
    refine T_iconst C.1 dX9_operand_13 ?_
    refine T_iload_n C.1 dX9_operand_14 0 rfl ?_
    refine T_callSI (rm := rm_X9_nameOf) [.int v1] [.int (iI 2), .ref (cx.2.2.1 + 113)] C.1 dX9_operand_15 mw_X9_nameOf wm_6_21 wm_6_22 (by constructor <;> (simp only [rmS_156, rm_X9_nameOf]; omega)) ⟨rfl, rfl⟩ ⟨Nat.zero_le _, Nat.zero_le _⟩ rfl rfl (Nat.le_of_ble_eq_true rfl) (c_X9_nameOf ll cx v1 m4) (fun v17 m18 => ?_)
    refine T_callVV (rm := rm_X9_addStep) [.int (iI 2), .int v17] [] C.1 dX9_operand_18 mw_X9_addStep wm_6_24 wm_6_26 wm_p_53 (by constructor <;> (simp only [rmS_156, rm_X9_addStep]; omega)) ⟨rfl, rfl⟩ ⟨Nat.zero_le _, Nat.zero_le _⟩ rfl rfl (Nat.le_of_ble_eq_true rfl) sh113 le113 ⟨rfl, rfl⟩ (c_X9_addStep ll cx (iI 2) v17 m18) (fun u19 m20 => ?_)
    refine T_aload_n C.1 dX9_operand_21 1 rfl ?_
    refine T_dup C.1 dX9_operand_22 rfl ?_
    refine T_getI C.1 fd_X9_220 (fun _ _ _ _ => rfl) sh113 le113 dX9_operand_23 ?_
    refine T_iconst C.1 dX9_operand_26 ?_
    refine T_iadd C.1 dX9_operand_27 ?_
    refine T_putI C.1 LyI_Lay fd_X9_220 sh113 le113 dX9_operand_28 (fun m21 => ?_)
    refine T_goto (tgt := 154) C.1 dX9_operand_31 (by decide) ?_
    exact T_vret C.1 C.2.1 C.2.2 dX9_operand_154
def F_X9_product_38 (k_4 : Mm → Option (Unit × Mm)) (f_X9_operand : Mm → Option (Unit × Mm))  (m : Mm) : Option (Unit × Mm) :=
  bnd (F_X9_look m) fun v1 m2 =>
  nm (pI m2 113 28 ((gI m2 113 28) + (iI 1))) fun m3 =>
  bnd (f_X9_operand m3) fun _ m5 =>
  bnd (F_X9_addStep v1 (iI 0) m5) fun _ m7 =>
  k_4 m7
set_option maxRecDepth 100000 in
set_option maxHeartbeats 4000000 in
theorem t_X9_product_38 {pp : Program} {ll : Launch} {ee : Env} {ss : State} {mm : MethodId} {aa : Array Value} {bb : List Frame} {me : Method} {co : Code} {cx : CX} {dd : Nat} {k_4 : Mm → Option (Unit × Mm)} {f_X9_operand : Mm → Option (Unit × Mm)}  (C : CM pp ss mm aa me co cX9_product 2 RX9 cx (none))  (hf_X9_operand : ∀  (m : Mm), MT ll yX9_operand cX9_operand 2 (none) (rmS_156 dd) cx NN NN Lay cvV 0 0 [.ref (cx.2.2.1 + 113)] m (f_X9_operand m))  (hk_4 : ∀  (m : Mm), TV pp ll ee (rmS_156 (dd + 1)) ss mm aa bb me co 2 cx 4 [(0, .ref (cx.2.2.1 + 113))] [] m (k_4 m))  (m : Mm) : TV pp ll ee (rmS_156 (dd + 1)) ss mm aa bb me co 2 cx 38 [(0, .ref (cx.2.2.1 + 113))] [] m (F_X9_product_38 k_4 f_X9_operand m) := by
  unfold F_X9_product_38
  refine T_aload_n C.1 dX9_product_38 0 rfl ?_
  refine T_callVI (rm := rm_X9_look) [] [] C.1 dX9_product_39 mw_X9_look wm_6_17 wm_6_19 wm_p_52 (by constructor <;> (simp only [rmS_156, rm_X9_look]; omega)) ⟨rfl, rfl⟩ ⟨Nat.zero_le _, Nat.zero_le _⟩ rfl rfl (Nat.le_of_ble_eq_true rfl) sh113 le113 ⟨rfl, rfl⟩ (c_X9_look ll cx m) (fun v1 m2 => ?_)
  refine T_istore_n (lv' := [(1, .int v1), (0, .ref (cx.2.2.1 + 113))]) C.1 dX9_product_42 (by decide) rfl ?_
  refine T_aload_n C.1 dX9_product_43 1 rfl ?_
  refine T_dup C.1 dX9_product_44 rfl ?_
  refine T_getI C.1 fd_X9_220 (fun _ _ _ _ => rfl) sh113 le113 dX9_product_45 ?_
  refine T_iconst C.1 dX9_product_48 ?_
  refine T_iadd C.1 dX9_product_49 ?_
  refine T_putI C.1 LyI_Lay fd_X9_220 sh113 le113 dX9_product_50 (fun m3 => ?_)
  refine T_aload_n C.1 dX9_product_53 1 rfl ?_
  refine T_callVV (rm := (rmS_156 dd)) [] [] C.1 dX9_product_54 mw_X9_operand wm_6_13 wm_6_15 wm_p_51 (by constructor <;> (simp only [rmS_156]; omega)) ⟨rfl, rfl⟩ ⟨Nat.zero_le _, Nat.zero_le _⟩ rfl rfl (Nat.le_of_ble_eq_true rfl) sh113 le113 ⟨rfl, rfl⟩ (hf_X9_operand m3) (fun u4 m5 => ?_)
  refine T_aload_n C.1 dX9_product_57 1 rfl ?_
  refine T_iload_n C.1 dX9_product_58 0 rfl ?_
  refine T_iconst C.1 dX9_product_59 ?_
  refine T_callVV (rm := rm_X9_addStep) [.int v1, .int (iI 0)] [] C.1 dX9_product_60 mw_X9_addStep wm_6_24 wm_6_26 wm_p_53 (by constructor <;> (simp only [rmS_156, rm_X9_addStep]; omega)) ⟨rfl, rfl⟩ ⟨Nat.zero_le _, Nat.zero_le _⟩ rfl rfl (Nat.le_of_ble_eq_true rfl) sh113 le113 ⟨rfl, rfl⟩ (c_X9_addStep ll cx v1 (iI 0) m5) (fun u6 m7 => ?_)
  refine T_goto (tgt := 4) C.1 dX9_product_63 (by decide) ?_
  exact T_sub [1] rfl (hk_4 m7)
def F_X9_product_4 (f_X9_operand : Mm → Option (Unit × Mm)) : Nat → Mm → Option (Unit × Mm)
  | 0, _ => none
  | f + 1, m =>
    (if iI 0 ≤ (gI m 113 29) then
      some ((), m)
    else
      bnd (F_X9_look m) fun v1 m2 =>
      (if v1 = (iI 42) then
        F_X9_product_38 (F_X9_product_4 f_X9_operand f) f_X9_operand m2
      else
        bnd (F_X9_look m2) fun v3 m4 =>
        (if v3 = (iI 47) then
          F_X9_product_38 (F_X9_product_4 f_X9_operand f) f_X9_operand m4
        else
          bnd (F_X9_look m4) fun v5 m6 =>
          (if v5 = (iI 37) then
            F_X9_product_38 (F_X9_product_4 f_X9_operand f) f_X9_operand m6
          else
            some ((), m6)))))
set_option maxRecDepth 100000 in
set_option maxHeartbeats 4000000 in
theorem t_X9_product_4 {pp : Program} {ll : Launch} {ee : Env} {ss : State} {mm : MethodId} {aa : Array Value} {bb : List Frame} {me : Method} {co : Code} {cx : CX} {dd : Nat}  {f_X9_operand : Mm → Option (Unit × Mm)}  (C : CM pp ss mm aa me co cX9_product 2 RX9 cx (none))  (hf_X9_operand : ∀  (m : Mm), MT ll yX9_operand cX9_operand 2 (none) (rmS_156 dd) cx NN NN Lay cvV 0 0 [.ref (cx.2.2.1 + 113)] m (f_X9_operand m))   : ∀ (f : Nat)  (m : Mm), TV pp ll ee (rmS_156 (dd + 1)) ss mm aa bb me co 2 cx 4 [(0, .ref (cx.2.2.1 + 113))] [] m (F_X9_product_4 f_X9_operand f m) := by
  intro f
  induction f with
  | zero => exact fun _ => T_none
  | succ f ih =>
    intro  m
    unfold F_X9_product_4
    refine T_aload_n C.1 dX9_product_4 0 rfl ?_
    refine T_getI C.1 fd_X9_223 (fun _ _ _ _ => rfl) sh113 le113 dX9_product_5 ?_
    refine T_if_ge (tgt := 66) C.1 dX9_product_8 (by decide) ?_ ?_
    · exact T_vret C.1 C.2.1 C.2.2 dX9_product_66
    · refine T_aload_n C.1 dX9_product_11 0 rfl ?_
      refine T_callVI (rm := rm_X9_look) [] [] C.1 dX9_product_12 mw_X9_look wm_6_17 wm_6_19 wm_p_52 (by constructor <;> (simp only [rmS_156, rm_X9_look]; omega)) ⟨rfl, rfl⟩ ⟨Nat.zero_le _, Nat.zero_le _⟩ rfl rfl (Nat.le_of_ble_eq_true rfl) sh113 le113 ⟨rfl, rfl⟩ (c_X9_look ll cx m) (fun v1 m2 => ?_)
      refine T_bipush C.1 dX9_product_15 rfl ?_
      refine T_icmp_eq (tgt := 38) C.1 dX9_product_17 (by decide) ?_ ?_
      · exact T_sub [0] rfl (t_X9_product_38 C hf_X9_operand (ih) m2)
      · refine T_aload_n C.1 dX9_product_20 0 rfl ?_
        refine T_callVI (rm := rm_X9_look) [] [] C.1 dX9_product_21 mw_X9_look wm_6_17 wm_6_19 wm_p_52 (by constructor <;> (simp only [rmS_156, rm_X9_look]; omega)) ⟨rfl, rfl⟩ ⟨Nat.zero_le _, Nat.zero_le _⟩ rfl rfl (Nat.le_of_ble_eq_true rfl) sh113 le113 ⟨rfl, rfl⟩ (c_X9_look ll cx m2) (fun v3 m4 => ?_)
        refine T_bipush C.1 dX9_product_24 rfl ?_
        refine T_icmp_eq (tgt := 38) C.1 dX9_product_26 (by decide) ?_ ?_
        · exact T_sub [0] rfl (t_X9_product_38 C hf_X9_operand (ih) m4)
        · refine T_aload_n C.1 dX9_product_29 0 rfl ?_
          refine T_callVI (rm := rm_X9_look) [] [] C.1 dX9_product_30 mw_X9_look wm_6_17 wm_6_19 wm_p_52 (by constructor <;> (simp only [rmS_156, rm_X9_look]; omega)) ⟨rfl, rfl⟩ ⟨Nat.zero_le _, Nat.zero_le _⟩ rfl rfl (Nat.le_of_ble_eq_true rfl) sh113 le113 ⟨rfl, rfl⟩ (c_X9_look ll cx m4) (fun v5 m6 => ?_)
          refine T_bipush C.1 dX9_product_33 rfl ?_
          refine T_icmp_ne (tgt := 66) C.1 dX9_product_35 (by decide) ?_ ?_
          · exact T_vret C.1 C.2.1 C.2.2 dX9_product_66
          · exact T_sub [0] rfl (t_X9_product_38 C hf_X9_operand (ih) m6)
def B_X9_product (f_X9_operand : Mm → Option (Unit × Mm))  (m : Mm) : Option (Unit × Mm) :=
  bnd (f_X9_operand m) fun _ m2 =>
  F_X9_product_4 f_X9_operand FU m2
set_option maxRecDepth 100000 in
set_option maxHeartbeats 4000000 in
theorem b_X9_product {ll : Launch} {cx : CX} {dd : Nat} (f_X9_operand : Mm → Option (Unit × Mm)) (hf_X9_operand : ∀  (m : Mm), MT ll yX9_operand cX9_operand 2 (none) (rmS_156 dd) cx NN NN Lay cvV 0 0 [.ref (cx.2.2.1 + 113)] m (f_X9_operand m))   (m : Mm) : MT ll yX9_product cX9_product 2 (none) (rmS_156 (dd + 1)) cx NN NN Lay cvV 0 0 [.ref (cx.2.2.1 + 113)] m (B_X9_product f_X9_operand  m) := by
  refine MT_of (by decide) (Nat.le_of_ble_eq_true rfl) ?_
  intro pp ee ss mm aa bb me co hK hr hk hn
  have C : CM pp ss mm aa me co cX9_product 2 RX9 cx (none) := ⟨hK, hr, hk⟩
  show TV pp ll ee (rmS_156 (dd + 1)) ss mm aa bb me co 2 cx 0 [(0, .ref (cx.2.2.1 + 113))] [] m (B_X9_product f_X9_operand  m)
  unfold B_X9_product
  refine T_aload_n C.1 dX9_product_0 0 rfl ?_
  refine T_callVV (rm := (rmS_156 dd)) [] [] C.1 dX9_product_1 mw_X9_operand wm_6_13 wm_6_15 wm_p_51 (by constructor <;> (simp only [rmS_156]; omega)) ⟨rfl, rfl⟩ ⟨Nat.zero_le _, Nat.zero_le _⟩ rfl rfl (Nat.le_of_ble_eq_true rfl) sh113 le113 ⟨rfl, rfl⟩ (hf_X9_operand m) (fun u1 m2 => ?_)
  exact T_sub [0] rfl (t_X9_product_4 C hf_X9_operand FU m2)
def F_X9_sum_29 (k_4 : Mm → Option (Unit × Mm)) (f_X9_product : Mm → Option (Unit × Mm))  (m : Mm) : Option (Unit × Mm) :=
  bnd (F_X9_look m) fun v1 m2 =>
  nm (pI m2 113 28 ((gI m2 113 28) + (iI 1))) fun m3 =>
  bnd (f_X9_product m3) fun _ m5 =>
  bnd (F_X9_addStep v1 (iI 0) m5) fun _ m7 =>
  k_4 m7
set_option maxRecDepth 100000 in
set_option maxHeartbeats 4000000 in
theorem t_X9_sum_29 {pp : Program} {ll : Launch} {ee : Env} {ss : State} {mm : MethodId} {aa : Array Value} {bb : List Frame} {me : Method} {co : Code} {cx : CX} {dd : Nat} {k_4 : Mm → Option (Unit × Mm)} {f_X9_product : Mm → Option (Unit × Mm)}  (C : CM pp ss mm aa me co cX9_sum 2 RX9 cx (none))  (hf_X9_product : ∀  (m : Mm), MT ll yX9_product cX9_product 2 (none) (rmS_156 dd) cx NN NN Lay cvV 0 0 [.ref (cx.2.2.1 + 113)] m (f_X9_product m))  (hk_4 : ∀  (m : Mm), TV pp ll ee (rmS_156 (dd + 1)) ss mm aa bb me co 2 cx 4 [(0, .ref (cx.2.2.1 + 113))] [] m (k_4 m))  (m : Mm) : TV pp ll ee (rmS_156 (dd + 1)) ss mm aa bb me co 2 cx 29 [(0, .ref (cx.2.2.1 + 113))] [] m (F_X9_sum_29 k_4 f_X9_product m) := by
  unfold F_X9_sum_29
  refine T_aload_n C.1 dX9_sum_29 0 rfl ?_
  refine T_callVI (rm := rm_X9_look) [] [] C.1 dX9_sum_30 mw_X9_look wm_6_17 wm_6_19 wm_p_52 (by constructor <;> (simp only [rmS_156, rm_X9_look]; omega)) ⟨rfl, rfl⟩ ⟨Nat.zero_le _, Nat.zero_le _⟩ rfl rfl (Nat.le_of_ble_eq_true rfl) sh113 le113 ⟨rfl, rfl⟩ (c_X9_look ll cx m) (fun v1 m2 => ?_)
  refine T_istore_n (lv' := [(1, .int v1), (0, .ref (cx.2.2.1 + 113))]) C.1 dX9_sum_33 (by decide) rfl ?_
  refine T_aload_n C.1 dX9_sum_34 1 rfl ?_
  refine T_dup C.1 dX9_sum_35 rfl ?_
  refine T_getI C.1 fd_X9_220 (fun _ _ _ _ => rfl) sh113 le113 dX9_sum_36 ?_
  refine T_iconst C.1 dX9_sum_39 ?_
  refine T_iadd C.1 dX9_sum_40 ?_
  refine T_putI C.1 LyI_Lay fd_X9_220 sh113 le113 dX9_sum_41 (fun m3 => ?_)
  refine T_aload_n C.1 dX9_sum_44 1 rfl ?_
  refine T_callVV (rm := (rmS_156 dd)) [] [] C.1 dX9_sum_45 mw_X9_product wm_6_9 wm_6_11 wm_p_50 (by constructor <;> (simp only [rmS_156]; omega)) ⟨rfl, rfl⟩ ⟨Nat.zero_le _, Nat.zero_le _⟩ rfl rfl (Nat.le_of_ble_eq_true rfl) sh113 le113 ⟨rfl, rfl⟩ (hf_X9_product m3) (fun u4 m5 => ?_)
  refine T_aload_n C.1 dX9_sum_48 1 rfl ?_
  refine T_iload_n C.1 dX9_sum_49 0 rfl ?_
  refine T_iconst C.1 dX9_sum_50 ?_
  refine T_callVV (rm := rm_X9_addStep) [.int v1, .int (iI 0)] [] C.1 dX9_sum_51 mw_X9_addStep wm_6_24 wm_6_26 wm_p_53 (by constructor <;> (simp only [rmS_156, rm_X9_addStep]; omega)) ⟨rfl, rfl⟩ ⟨Nat.zero_le _, Nat.zero_le _⟩ rfl rfl (Nat.le_of_ble_eq_true rfl) sh113 le113 ⟨rfl, rfl⟩ (c_X9_addStep ll cx v1 (iI 0) m5) (fun u6 m7 => ?_)
  refine T_goto (tgt := 4) C.1 dX9_sum_54 (by decide) ?_
  exact T_sub [1] rfl (hk_4 m7)
def F_X9_sum_4 (f_X9_product : Mm → Option (Unit × Mm)) : Nat → Mm → Option (Unit × Mm)
  | 0, _ => none
  | f + 1, m =>
    (if iI 0 ≤ (gI m 113 29) then
      some ((), m)
    else
      bnd (F_X9_look m) fun v1 m2 =>
      (if v1 = (iI 43) then
        F_X9_sum_29 (F_X9_sum_4 f_X9_product f) f_X9_product m2
      else
        bnd (F_X9_look m2) fun v3 m4 =>
        (if v3 = (iI 45) then
          F_X9_sum_29 (F_X9_sum_4 f_X9_product f) f_X9_product m4
        else
          some ((), m4))))
set_option maxRecDepth 100000 in
set_option maxHeartbeats 4000000 in
theorem t_X9_sum_4 {pp : Program} {ll : Launch} {ee : Env} {ss : State} {mm : MethodId} {aa : Array Value} {bb : List Frame} {me : Method} {co : Code} {cx : CX} {dd : Nat}  {f_X9_product : Mm → Option (Unit × Mm)}  (C : CM pp ss mm aa me co cX9_sum 2 RX9 cx (none))  (hf_X9_product : ∀  (m : Mm), MT ll yX9_product cX9_product 2 (none) (rmS_156 dd) cx NN NN Lay cvV 0 0 [.ref (cx.2.2.1 + 113)] m (f_X9_product m))   : ∀ (f : Nat)  (m : Mm), TV pp ll ee (rmS_156 (dd + 1)) ss mm aa bb me co 2 cx 4 [(0, .ref (cx.2.2.1 + 113))] [] m (F_X9_sum_4 f_X9_product f m) := by
  intro f
  induction f with
  | zero => exact fun _ => T_none
  | succ f ih =>
    intro  m
    unfold F_X9_sum_4
    refine T_aload_n C.1 dX9_sum_4 0 rfl ?_
    refine T_getI C.1 fd_X9_223 (fun _ _ _ _ => rfl) sh113 le113 dX9_sum_5 ?_
    refine T_if_ge (tgt := 57) C.1 dX9_sum_8 (by decide) ?_ ?_
    · exact T_vret C.1 C.2.1 C.2.2 dX9_sum_57
    · refine T_aload_n C.1 dX9_sum_11 0 rfl ?_
      refine T_callVI (rm := rm_X9_look) [] [] C.1 dX9_sum_12 mw_X9_look wm_6_17 wm_6_19 wm_p_52 (by constructor <;> (simp only [rmS_156, rm_X9_look]; omega)) ⟨rfl, rfl⟩ ⟨Nat.zero_le _, Nat.zero_le _⟩ rfl rfl (Nat.le_of_ble_eq_true rfl) sh113 le113 ⟨rfl, rfl⟩ (c_X9_look ll cx m) (fun v1 m2 => ?_)
      refine T_bipush C.1 dX9_sum_15 rfl ?_
      refine T_icmp_eq (tgt := 29) C.1 dX9_sum_17 (by decide) ?_ ?_
      · exact T_sub [0] rfl (t_X9_sum_29 C hf_X9_product (ih) m2)
      · refine T_aload_n C.1 dX9_sum_20 0 rfl ?_
        refine T_callVI (rm := rm_X9_look) [] [] C.1 dX9_sum_21 mw_X9_look wm_6_17 wm_6_19 wm_p_52 (by constructor <;> (simp only [rmS_156, rm_X9_look]; omega)) ⟨rfl, rfl⟩ ⟨Nat.zero_le _, Nat.zero_le _⟩ rfl rfl (Nat.le_of_ble_eq_true rfl) sh113 le113 ⟨rfl, rfl⟩ (c_X9_look ll cx m2) (fun v3 m4 => ?_)
        refine T_bipush C.1 dX9_sum_24 rfl ?_
        refine T_icmp_ne (tgt := 57) C.1 dX9_sum_26 (by decide) ?_ ?_
        · exact T_vret C.1 C.2.1 C.2.2 dX9_sum_57
        · exact T_sub [0] rfl (t_X9_sum_29 C hf_X9_product (ih) m4)
def B_X9_sum (f_X9_product : Mm → Option (Unit × Mm))  (m : Mm) : Option (Unit × Mm) :=
  bnd (f_X9_product m) fun _ m2 =>
  F_X9_sum_4 f_X9_product FU m2
set_option maxRecDepth 100000 in
set_option maxHeartbeats 4000000 in
theorem b_X9_sum {ll : Launch} {cx : CX} {dd : Nat} (f_X9_product : Mm → Option (Unit × Mm)) (hf_X9_product : ∀  (m : Mm), MT ll yX9_product cX9_product 2 (none) (rmS_156 dd) cx NN NN Lay cvV 0 0 [.ref (cx.2.2.1 + 113)] m (f_X9_product m))   (m : Mm) : MT ll yX9_sum cX9_sum 2 (none) (rmS_156 (dd + 1)) cx NN NN Lay cvV 0 0 [.ref (cx.2.2.1 + 113)] m (B_X9_sum f_X9_product  m) := by
  refine MT_of (by decide) (Nat.le_of_ble_eq_true rfl) ?_
  intro pp ee ss mm aa bb me co hK hr hk hn
  have C : CM pp ss mm aa me co cX9_sum 2 RX9 cx (none) := ⟨hK, hr, hk⟩
  show TV pp ll ee (rmS_156 (dd + 1)) ss mm aa bb me co 2 cx 0 [(0, .ref (cx.2.2.1 + 113))] [] m (B_X9_sum f_X9_product  m)
  unfold B_X9_sum
  refine T_aload_n C.1 dX9_sum_0 0 rfl ?_
  refine T_callVV (rm := (rmS_156 dd)) [] [] C.1 dX9_sum_1 mw_X9_product wm_6_9 wm_6_11 wm_p_50 (by constructor <;> (simp only [rmS_156]; omega)) ⟨rfl, rfl⟩ ⟨Nat.zero_le _, Nat.zero_le _⟩ rfl rfl (Nat.le_of_ble_eq_true rfl) sh113 le113 ⟨rfl, rfl⟩ (hf_X9_product m) (fun u1 m2 => ?_)
  exact T_sub [0] rfl (t_X9_sum_4 C hf_X9_product FU m2)
def R_156 : Nat → (Mm → Option (Unit × Mm)) × (Mm → Option (Unit × Mm)) × (Mm → Option (Unit × Mm)) × (Mm → Option (Unit × Mm)) × (Mm → Option (Unit × Mm)) × (Mm → Option (Unit × Mm))
  | 0 => (fun _ => none, fun _ => none, fun _ => none, fun _ => none, fun _ => none, fun _ => none)
  | d + 1 => (B_X9_both (R_156 d).2.1, B_X9_compared (R_156 d).2.2.2.2.2, B_X9_either (R_156 d).1, B_X9_operand (R_156 d).2.2.1 (R_156 d).2.2.2.1, B_X9_product (R_156 d).2.2.2.1, B_X9_sum (R_156 d).2.2.2.2.1)
set_option maxRecDepth 100000 in
set_option maxHeartbeats 4000000 in
theorem r_156 (ll : Launch) (cx : CX) : ∀ d : Nat, (∀  (m : Mm), MT ll yX9_both cX9_both 1 (none) (rmS_156 d) cx NN NN Lay cvV 0 0 [.ref (cx.2.2.1 + 113)] m ((R_156 d).1  m)) ∧ (∀  (m : Mm), MT ll yX9_compared cX9_compared 2 (none) (rmS_156 d) cx NN NN Lay cvV 0 0 [.ref (cx.2.2.1 + 113)] m ((R_156 d).2.1  m)) ∧ (∀  (m : Mm), MT ll yX9_either cX9_either 1 (none) (rmS_156 d) cx NN NN Lay cvV 0 0 [.ref (cx.2.2.1 + 113)] m ((R_156 d).2.2.1  m)) ∧ (∀  (m : Mm), MT ll yX9_operand cX9_operand 2 (none) (rmS_156 d) cx NN NN Lay cvV 0 0 [.ref (cx.2.2.1 + 113)] m ((R_156 d).2.2.2.1  m)) ∧ (∀  (m : Mm), MT ll yX9_product cX9_product 2 (none) (rmS_156 d) cx NN NN Lay cvV 0 0 [.ref (cx.2.2.1 + 113)] m ((R_156 d).2.2.2.2.1  m)) ∧ (∀  (m : Mm), MT ll yX9_sum cX9_sum 2 (none) (rmS_156 d) cx NN NN Lay cvV 0 0 [.ref (cx.2.2.1 + 113)] m ((R_156 d).2.2.2.2.2  m))
  | 0 => ⟨fun _ => fun r μ1 h => (by cases (show (none : Option (Unit × Mm)) = some (r, μ1) from h)), fun _ => fun r μ1 h => (by cases (show (none : Option (Unit × Mm)) = some (r, μ1) from h)), fun _ => fun r μ1 h => (by cases (show (none : Option (Unit × Mm)) = some (r, μ1) from h)), fun _ => fun r μ1 h => (by cases (show (none : Option (Unit × Mm)) = some (r, μ1) from h)), fun _ => fun r μ1 h => (by cases (show (none : Option (Unit × Mm)) = some (r, μ1) from h)), fun _ => fun r μ1 h => (by cases (show (none : Option (Unit × Mm)) = some (r, μ1) from h))⟩
  | d + 1 => ⟨b_X9_both _ (r_156 ll cx d).2.1, b_X9_compared _ (r_156 ll cx d).2.2.2.2.2, b_X9_either _ (r_156 ll cx d).1, b_X9_operand _ _ (r_156 ll cx d).2.2.1 (r_156 ll cx d).2.2.2.1, b_X9_product _ (r_156 ll cx d).2.2.2.1, b_X9_sum _ (r_156 ll cx d).2.2.2.2.1⟩
def F_X9_both  (m : Mm) : Option (Unit × Mm) := (R_156 900).1  m
theorem c_X9_both (ll : Launch) (cx : CX)  (m : Mm) : MT ll yX9_both cX9_both 1 (none) (rmS_156 900) cx NN NN Lay cvV 0 0 [.ref (cx.2.2.1 + 113)] m (F_X9_both  m) := (r_156 ll cx 900).1  m
def F_X9_compared  (m : Mm) : Option (Unit × Mm) := (R_156 900).2.1  m
theorem c_X9_compared (ll : Launch) (cx : CX)  (m : Mm) : MT ll yX9_compared cX9_compared 2 (none) (rmS_156 900) cx NN NN Lay cvV 0 0 [.ref (cx.2.2.1 + 113)] m (F_X9_compared  m) := (r_156 ll cx 900).2.1  m
def F_X9_either  (m : Mm) : Option (Unit × Mm) := (R_156 900).2.2.1  m
theorem c_X9_either (ll : Launch) (cx : CX)  (m : Mm) : MT ll yX9_either cX9_either 1 (none) (rmS_156 900) cx NN NN Lay cvV 0 0 [.ref (cx.2.2.1 + 113)] m (F_X9_either  m) := (r_156 ll cx 900).2.2.1  m
def F_X9_operand  (m : Mm) : Option (Unit × Mm) := (R_156 900).2.2.2.1  m
theorem c_X9_operand (ll : Launch) (cx : CX)  (m : Mm) : MT ll yX9_operand cX9_operand 2 (none) (rmS_156 900) cx NN NN Lay cvV 0 0 [.ref (cx.2.2.1 + 113)] m (F_X9_operand  m) := (r_156 ll cx 900).2.2.2.1  m
def F_X9_product  (m : Mm) : Option (Unit × Mm) := (R_156 900).2.2.2.2.1  m
theorem c_X9_product (ll : Launch) (cx : CX)  (m : Mm) : MT ll yX9_product cX9_product 2 (none) (rmS_156 900) cx NN NN Lay cvV 0 0 [.ref (cx.2.2.1 + 113)] m (F_X9_product  m) := (r_156 ll cx 900).2.2.2.2.1  m
def F_X9_sum  (m : Mm) : Option (Unit × Mm) := (R_156 900).2.2.2.2.2  m
theorem c_X9_sum (ll : Launch) (cx : CX)  (m : Mm) : MT ll yX9_sum cX9_sum 2 (none) (rmS_156 900) cx NN NN Lay cvV 0 0 [.ref (cx.2.2.1 + 113)] m (F_X9_sum  m) := (r_156 ll cx 900).2.2.2.2.2  m
