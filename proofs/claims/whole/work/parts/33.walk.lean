def rm_X9_guessOf : Room := { frames := 2, cells := 0, slots := 0, locals := 62 }
def F_X9_guessOf_5  : Nat → Int32 → Int32 → Int32 → Int32 → Mm → Option (Int32 × Mm)
  | 0, _, _, _, _, _ => none
  | f + 1, a1, a2, a3, a4, m =>
    (if (gI m 113 1) ≤ a4 then
      rd 2 a1 fun j1 =>
      bnd (F_X9_bitsOf (gI m 120 j1) m) fun v2 m3 =>
      dvI a3 v2 fun v4 =>
      some (v4, m3)
    else
      rd 2 a1 fun j5 =>
      bnd (F_X9_bit (gI m 120 j5) a4 m) fun v6 m7 =>
      rd 49 (((iI 7) * a2) + a4) fun j8 =>
      nm (a3 + (v6 * (gI m7 114 j8))) fun v9 =>
      nm (a4 + (iI 1)) fun v10 =>
      F_X9_guessOf_5  f a1 a2 v9 v10 m7)
set_option maxRecDepth 100000 in
set_option maxHeartbeats 4000000 in
theorem t_X9_guessOf_5 {pp : Program} {ll : Launch} {ee : Env} {ss : State} {mm : MethodId} {aa : Array Value} {bb : List Frame} {me : Method} {co : Code} {cx : CX}     (C : CM pp ss mm aa me co cX9_guessOf 5 RX9 cx ((some .int)))    : ∀ (f : Nat) (a1 : Int32) (a2 : Int32) (a3 : Int32) (a4 : Int32) (m : Mm), TI pp ll ee rm_X9_guessOf ss mm aa bb me co 5 cx 5 [(0, .ref (cx.2.2.1 + 113)), (1, .int a1), (2, .int a2), (3, .int a3), (4, .int a4)] [] m (F_X9_guessOf_5  f a1 a2 a3 a4 m) := by
  intro f
  induction f with
  | zero => exact fun _ _ _ _ _ => T_none
  | succ f ih =>
    intro a1 a2 a3 a4 m
    unfold F_X9_guessOf_5
    refine T_iload C.1 dX9_guessOf_5 4 rfl ?_
    refine T_aload_n C.1 dX9_guessOf_7 0 rfl ?_
    refine T_getI C.1 fd_X9_155 (fun _ _ _ _ => rfl) sh113 le113 dX9_guessOf_8 ?_
    refine T_icmp_ge (tgt := 47) C.1 dX9_guessOf_11 (by decide) ?_ ?_
    · refine T_iload_n C.1 dX9_guessOf_47 3 rfl ?_
      refine T_aload_n C.1 dX9_guessOf_48 0 rfl ?_
      refine T_getR (x := 120) C.1 fd_X9_32 (fun _ _ _ _ => rfl) sh113 le113 (fun _ h => h) rfl (by decide) dX9_guessOf_49 ?_
      refine T_iload_n C.1 dX9_guessOf_52 1 rfl ?_
      refine T_iald C.1 dX9_guessOf_53 sh120 le120 (fun j1 => ?_)
      refine T_callSI (rm := rm_X9_bitsOf) [.int (gI m 120 j1)] [.int a3] C.1 dX9_guessOf_54 mw_X9_bitsOf wm_6_92 wm_6_93 ⟨Nat.le_of_ble_eq_true rfl, Nat.le_of_ble_eq_true rfl⟩ ⟨rfl, rfl⟩ ⟨Nat.zero_le _, Nat.zero_le _⟩ rfl rfl (Nat.le_of_ble_eq_true rfl) (c_X9_bitsOf ll cx (gI m 120 j1) m) (fun v2 m3 => ?_)
      refine T_idiv C.1 dX9_guessOf_57 (fun v4 => ?_)
      exact T_iret C.1 C.2.1 C.2.2 dX9_guessOf_58
    · refine T_iload_n C.1 dX9_guessOf_14 3 rfl ?_
      refine T_aload_n C.1 dX9_guessOf_15 0 rfl ?_
      refine T_getR (x := 120) C.1 fd_X9_32 (fun _ _ _ _ => rfl) sh113 le113 (fun _ h => h) rfl (by decide) dX9_guessOf_16 ?_
      refine T_iload_n C.1 dX9_guessOf_19 1 rfl ?_
      refine T_iald C.1 dX9_guessOf_20 sh120 le120 (fun j5 => ?_)
      refine T_iload C.1 dX9_guessOf_21 4 rfl ?_
      refine T_callSI (rm := rm_X9_bit) [.int (gI m 120 j5), .int a4] [.int a3] C.1 dX9_guessOf_23 mw_X9_bit wm_5_206 wm_5_207 ⟨Nat.le_of_ble_eq_true rfl, Nat.le_of_ble_eq_true rfl⟩ ⟨rfl, rfl⟩ ⟨Nat.zero_le _, Nat.zero_le _⟩ rfl rfl (Nat.le_of_ble_eq_true rfl) (c_X9_bit ll cx (gI m 120 j5) a4 m) (fun v6 m7 => ?_)
      refine T_aload_n C.1 dX9_guessOf_26 0 rfl ?_
      refine T_getR (x := 114) C.1 fd_X9_7 (fun _ _ _ _ => rfl) sh113 le113 (fun _ h => h) rfl (by decide) dX9_guessOf_27 ?_
      refine T_bipush C.1 dX9_guessOf_30 rfl ?_
      refine T_iload_n C.1 dX9_guessOf_32 2 rfl ?_
      refine T_imul C.1 dX9_guessOf_33 ?_
      refine T_iload C.1 dX9_guessOf_34 4 rfl ?_
      refine T_iadd C.1 dX9_guessOf_36 ?_
      refine T_iald C.1 dX9_guessOf_37 sh114 le114 (fun j8 => ?_)
      refine T_imul C.1 dX9_guessOf_38 ?_
      refine T_iadd C.1 dX9_guessOf_39 ?_
      refine T_istore_nN C.1 (fun v9 => [(3, .int v9), (0, .ref (cx.2.2.1 + 113)), (1, .int a1), (2, .int a2), (4, .int a4)]) dX9_guessOf_40 (by decide) (fun _ => rfl) (fun v9 => ?_)
      refine T_iincN C.1 (fun v10 => [(4, .int v10), (3, .int v9), (0, .ref (cx.2.2.1 + 113)), (1, .int a1), (2, .int a2)]) dX9_guessOf_41 4 rfl (by decide) (fun _ => rfl) (fun v10 => ?_)
      refine T_goto (tgt := 5) C.1 dX9_guessOf_44 (by decide) ?_
      exact T_sub [2, 3, 4, 1, 0] rfl (ih a1 a2 v9 v10 m7)
def F_X9_guessOf  (x1 : Int32) (x2 : Int32) (m : Mm) : Option (Int32 × Mm) :=
  F_X9_guessOf_5 FU x1 x2 (iI 0) (iI 0) m
set_option maxRecDepth 100000 in
set_option maxHeartbeats 4000000 in
theorem c_X9_guessOf (ll : Launch) (cx : CX) (x1 : Int32) (x2 : Int32) (m : Mm) : MT ll yX9_guessOf cX9_guessOf 5 ((some .int)) rm_X9_guessOf cx NN NN Lay cvI 0 0 [.ref (cx.2.2.1 + 113), .int x1, .int x2] m (F_X9_guessOf x1 x2 m) := by
  refine MT_of (by decide) (Nat.le_of_ble_eq_true rfl) ?_
  intro pp ee ss mm aa bb me co hK hr hk hn
  have C : CM pp ss mm aa me co cX9_guessOf 5 RX9 cx ((some .int)) := ⟨hK, hr, hk⟩
  show TI pp ll ee rm_X9_guessOf ss mm aa bb me co 5 cx 0 [(0, .ref (cx.2.2.1 + 113)), (1, .int x1), (2, .int x2)] [] m (F_X9_guessOf x1 x2 m)
  unfold F_X9_guessOf
  refine T_iconst C.1 dX9_guessOf_0 ?_
  refine T_istore_n (lv' := [(3, .int (iI 0)), (0, .ref (cx.2.2.1 + 113)), (1, .int x1), (2, .int x2)]) C.1 dX9_guessOf_1 (by decide) rfl ?_
  refine T_iconst C.1 dX9_guessOf_2 ?_
  refine T_istore (lv' := [(4, .int (iI 0)), (3, .int (iI 0)), (0, .ref (cx.2.2.1 + 113)), (1, .int x1), (2, .int x2)]) C.1 dX9_guessOf_3 (by decide) rfl ?_
  exact T_sub [2, 3, 4, 1, 0] rfl (t_X9_guessOf_5 C FU x1 x2 (iI 0) (iI 0) m)
def rm_X9_mayTake : Room := { frames := 1, cells := 0, slots := 0, locals := 40 }
def F_X9_mayTake  (x1 : Int32) (x2 : Int32) (m : Mm) : Option (Int32 × Mm) :=
  rd 14 (((iI 7) * x1) + x2) fun j1 =>
  (if (gI m 118 j1) < iI 0 then
    rz (iI 0) m
  else
    rd 14 (((iI 7) * x1) + x2) fun j2 =>
    rd 2 x1 fun j3 =>
    (if (gI m 118 j2) = (gI m 121 j3) then
      rz (iI 0) m
    else
      rd 14 (((iI 7) * x1) + x2) fun j4 =>
      (if (gI m 113 5) ≤ (gI m 119 j4) then
        rz (iI 0) m
      else
        rd 2 x1 fun j5 =>
        (if (gI m 123 j5) = x2 then
          rz (iI 0) m
        else
          rz (iI 1) m))))
set_option maxRecDepth 100000 in
set_option maxHeartbeats 4000000 in
theorem c_X9_mayTake (ll : Launch) (cx : CX) (x1 : Int32) (x2 : Int32) (m : Mm) : MT ll yX9_mayTake cX9_mayTake 3 ((some .boolean)) rm_X9_mayTake cx NN NN Lay cvI 0 0 [.ref (cx.2.2.1 + 113), .int x1, .int x2] m (F_X9_mayTake x1 x2 m) := by
  refine MT_of (by decide) (Nat.le_of_ble_eq_true rfl) ?_
  intro pp ee ss mm aa bb me co hK hr hk hn
  have C : CM pp ss mm aa me co cX9_mayTake 3 RX9 cx ((some .boolean)) := ⟨hK, hr, hk⟩
  show TI pp ll ee rm_X9_mayTake ss mm aa bb me co 3 cx 0 [(0, .ref (cx.2.2.1 + 113)), (1, .int x1), (2, .int x2)] [] m (F_X9_mayTake x1 x2 m)
  unfold F_X9_mayTake
  refine T_aload_n C.1 dX9_mayTake_0 0 rfl ?_
  refine T_getR (x := 118) C.1 fd_X9_26 (fun _ _ _ _ => rfl) sh113 le113 (fun _ h => h) rfl (by decide) dX9_mayTake_1 ?_
  refine T_bipush C.1 dX9_mayTake_4 rfl ?_
  refine T_iload_n C.1 dX9_mayTake_6 1 rfl ?_
  refine T_imul C.1 dX9_mayTake_7 ?_
  refine T_iload_n C.1 dX9_mayTake_8 2 rfl ?_
  refine T_iadd C.1 dX9_mayTake_9 ?_
  refine T_iald C.1 dX9_mayTake_10 sh118 le118 (fun j1 => ?_)
  refine T_if_lt (tgt := 66) C.1 dX9_mayTake_11 (by decide) ?_ ?_
  · refine T_iconst C.1 dX9_mayTake_66 ?_
    exact T_zret C.1 C.2.1 C.2.2 dX9_mayTake_67
  · refine T_aload_n C.1 dX9_mayTake_14 0 rfl ?_
    refine T_getR (x := 118) C.1 fd_X9_26 (fun _ _ _ _ => rfl) sh113 le113 (fun _ h => h) rfl (by decide) dX9_mayTake_15 ?_
    refine T_bipush C.1 dX9_mayTake_18 rfl ?_
    refine T_iload_n C.1 dX9_mayTake_20 1 rfl ?_
    refine T_imul C.1 dX9_mayTake_21 ?_
    refine T_iload_n C.1 dX9_mayTake_22 2 rfl ?_
    refine T_iadd C.1 dX9_mayTake_23 ?_
    refine T_iald C.1 dX9_mayTake_24 sh118 le118 (fun j2 => ?_)
    refine T_aload_n C.1 dX9_mayTake_25 0 rfl ?_
    refine T_getR (x := 121) C.1 fd_X9_35 (fun _ _ _ _ => rfl) sh113 le113 (fun _ h => h) rfl (by decide) dX9_mayTake_26 ?_
    refine T_iload_n C.1 dX9_mayTake_29 1 rfl ?_
    refine T_iald C.1 dX9_mayTake_30 sh121 le121 (fun j3 => ?_)
    refine T_icmp_eq (tgt := 66) C.1 dX9_mayTake_31 (by decide) ?_ ?_
    · refine T_iconst C.1 dX9_mayTake_66 ?_
      exact T_zret C.1 C.2.1 C.2.2 dX9_mayTake_67
    · refine T_aload_n C.1 dX9_mayTake_34 0 rfl ?_
      refine T_getR (x := 119) C.1 fd_X9_29 (fun _ _ _ _ => rfl) sh113 le113 (fun _ h => h) rfl (by decide) dX9_mayTake_35 ?_
      refine T_bipush C.1 dX9_mayTake_38 rfl ?_
      refine T_iload_n C.1 dX9_mayTake_40 1 rfl ?_
      refine T_imul C.1 dX9_mayTake_41 ?_
      refine T_iload_n C.1 dX9_mayTake_42 2 rfl ?_
      refine T_iadd C.1 dX9_mayTake_43 ?_
      refine T_iald C.1 dX9_mayTake_44 sh119 le119 (fun j4 => ?_)
      refine T_aload_n C.1 dX9_mayTake_45 0 rfl ?_
      refine T_getI C.1 fd_X9_19 (fun _ _ _ _ => rfl) sh113 le113 dX9_mayTake_46 ?_
      refine T_icmp_ge (tgt := 66) C.1 dX9_mayTake_49 (by decide) ?_ ?_
      · refine T_iconst C.1 dX9_mayTake_66 ?_
        exact T_zret C.1 C.2.1 C.2.2 dX9_mayTake_67
      · refine T_aload_n C.1 dX9_mayTake_52 0 rfl ?_
        refine T_getR (x := 123) C.1 fd_X9_41 (fun _ _ _ _ => rfl) sh113 le113 (fun _ h => h) rfl (by decide) dX9_mayTake_53 ?_
        refine T_iload_n C.1 dX9_mayTake_56 1 rfl ?_
        refine T_iald C.1 dX9_mayTake_57 sh123 le123 (fun j5 => ?_)
        refine T_iload_n C.1 dX9_mayTake_58 2 rfl ?_
        refine T_icmp_eq (tgt := 66) C.1 dX9_mayTake_59 (by decide) ?_ ?_
        · refine T_iconst C.1 dX9_mayTake_66 ?_
          exact T_zret C.1 C.2.1 C.2.2 dX9_mayTake_67
        · refine T_iconst C.1 dX9_mayTake_62 ?_
          refine T_goto (tgt := 67) C.1 dX9_mayTake_63 (by decide) ?_
          exact T_zret C.1 C.2.1 C.2.2 dX9_mayTake_67
def rm_X9_lowestWrapped : Room := { frames := 2, cells := 0, slots := 0, locals := 61 }
def F_X9_lowestWrapped_2  : Nat → Int32 → Int32 → Mm → Option (Int32 × Mm)
  | 0, _, _, _ => none
  | f + 1, a1, a2, m =>
    rd 2 a1 fun j1 =>
    bnd (F_X9_bit (gI m 120 j1) a2 m) fun v2 m3 =>
    (if v2 = iI 0 then
      nm (a2 + (iI 1)) fun v4 =>
      F_X9_lowestWrapped_2  f a1 v4 m3
    else
      some (a2, m3))
set_option maxRecDepth 100000 in
set_option maxHeartbeats 4000000 in
theorem t_X9_lowestWrapped_2 {pp : Program} {ll : Launch} {ee : Env} {ss : State} {mm : MethodId} {aa : Array Value} {bb : List Frame} {me : Method} {co : Code} {cx : CX}     (C : CM pp ss mm aa me co cX9_lowestWrapped 3 RX9 cx ((some .int)))    : ∀ (f : Nat) (a1 : Int32) (a2 : Int32) (m : Mm), TI pp ll ee rm_X9_lowestWrapped ss mm aa bb me co 3 cx 2 [(0, .ref (cx.2.2.1 + 113)), (1, .int a1), (2, .int a2)] [] m (F_X9_lowestWrapped_2  f a1 a2 m) := by
  intro f
  induction f with
  | zero => exact fun _ _ _ => T_none
  | succ f ih =>
    intro a1 a2 m
    unfold F_X9_lowestWrapped_2
    refine T_aload_n C.1 dX9_lowestWrapped_2 0 rfl ?_
    refine T_getR (x := 120) C.1 fd_X9_32 (fun _ _ _ _ => rfl) sh113 le113 (fun _ h => h) rfl (by decide) dX9_lowestWrapped_3 ?_
    refine T_iload_n C.1 dX9_lowestWrapped_6 1 rfl ?_
    refine T_iald C.1 dX9_lowestWrapped_7 sh120 le120 (fun j1 => ?_)
    refine T_iload_n C.1 dX9_lowestWrapped_8 2 rfl ?_
    refine T_callSI (rm := rm_X9_bit) [.int (gI m 120 j1), .int a2] [] C.1 dX9_lowestWrapped_9 mw_X9_bit wm_5_206 wm_5_207 ⟨Nat.le_of_ble_eq_true rfl, Nat.le_of_ble_eq_true rfl⟩ ⟨rfl, rfl⟩ ⟨Nat.zero_le _, Nat.zero_le _⟩ rfl rfl (Nat.le_of_ble_eq_true rfl) (c_X9_bit ll cx (gI m 120 j1) a2 m) (fun v2 m3 => ?_)
    refine T_if_ne (tgt := 21) C.1 dX9_lowestWrapped_12 (by decide) ?_ ?_
    · refine T_iload_n C.1 dX9_lowestWrapped_21 2 rfl ?_
      exact T_iret C.1 C.2.1 C.2.2 dX9_lowestWrapped_22
    · refine T_iincN C.1 (fun v4 => [(2, .int v4), (0, .ref (cx.2.2.1 + 113)), (1, .int a1)]) dX9_lowestWrapped_15 2 rfl (by decide) (fun _ => rfl) (fun v4 => ?_)
      refine T_goto (tgt := 2) C.1 dX9_lowestWrapped_18 (by decide) ?_
      exact T_sub [1, 2, 0] rfl (ih a1 v4 m3)
def F_X9_lowestWrapped  (x1 : Int32) (m : Mm) : Option (Int32 × Mm) :=
  F_X9_lowestWrapped_2 FU x1 (iI 0) m
set_option maxRecDepth 100000 in
set_option maxHeartbeats 4000000 in
theorem c_X9_lowestWrapped (ll : Launch) (cx : CX) (x1 : Int32) (m : Mm) : MT ll yX9_lowestWrapped cX9_lowestWrapped 3 ((some .int)) rm_X9_lowestWrapped cx NN NN Lay cvI 0 0 [.ref (cx.2.2.1 + 113), .int x1] m (F_X9_lowestWrapped x1 m) := by
  refine MT_of (by decide) (Nat.le_of_ble_eq_true rfl) ?_
  intro pp ee ss mm aa bb me co hK hr hk hn
  have C : CM pp ss mm aa me co cX9_lowestWrapped 3 RX9 cx ((some .int)) := ⟨hK, hr, hk⟩
  show TI pp ll ee rm_X9_lowestWrapped ss mm aa bb me co 3 cx 0 [(0, .ref (cx.2.2.1 + 113)), (1, .int x1)] [] m (F_X9_lowestWrapped x1 m)
  unfold F_X9_lowestWrapped
  refine T_iconst C.1 dX9_lowestWrapped_0 ?_
  refine T_istore_n (lv' := [(2, .int (iI 0)), (0, .ref (cx.2.2.1 + 113)), (1, .int x1)]) C.1 dX9_lowestWrapped_1 (by decide) rfl ?_
  exact T_sub [1, 2, 0] rfl (t_X9_lowestWrapped_2 C FU x1 (iI 0) m)
def rm_X9_opensAt : Room := { frames := 3, cells := 0, slots := 0, locals := 83 }
def F_X9_opensAt_83  (a1 : Int32) (a2 : Int32) (a3 : Int32) (a4 : Int32) (m : Mm) : Option (Int32 × Mm) :=
  wrI 2 m 121 a4 a3 fun m1 =>
  rd 2 a1 fun j2 =>
  wrI 2 m1 122 a1 ((gI m1 122 j2) + (iI 1)) fun m3 =>
  some (a2, m3)
set_option maxRecDepth 100000 in
set_option maxHeartbeats 4000000 in
theorem t_X9_opensAt_83 {pp : Program} {ll : Launch} {ee : Env} {ss : State} {mm : MethodId} {aa : Array Value} {bb : List Frame} {me : Method} {co : Code} {cx : CX}     (C : CM pp ss mm aa me co cX9_opensAt 3 RX9 cx ((some .int)))    (a1 : Int32) (a2 : Int32) (a3 : Int32) (a4 : Int32) (m : Mm) : TI pp ll ee rm_X9_opensAt ss mm aa bb me co 3 cx 83 [(0, .ref (cx.2.2.1 + 113)), (1, .int a1), (2, .int a2)] [.int a3, .int a4, .ref (cx.2.2.1 + 121)] m (F_X9_opensAt_83  a1 a2 a3 a4 m) := by
  unfold F_X9_opensAt_83
  refine T_iast C.1 LyI_Lay sh121 le121 dX9_opensAt_83 (fun m1 => ?_)
  refine T_aload_n C.1 dX9_opensAt_84 0 rfl ?_
  refine T_getR (x := 122) C.1 fd_X9_38 (fun _ _ _ _ => rfl) sh113 le113 (fun _ h => h) rfl (by decide) dX9_opensAt_85 ?_
  refine T_iload_n C.1 dX9_opensAt_88 1 rfl ?_
  refine T_dup2 C.1 dX9_opensAt_89 rfl rfl ?_
  refine T_iald C.1 dX9_opensAt_90 sh122 le122 (fun j2 => ?_)
  refine T_iconst C.1 dX9_opensAt_91 ?_
  refine T_iadd C.1 dX9_opensAt_92 ?_
  refine T_iast C.1 LyI_Lay sh122 le122 dX9_opensAt_93 (fun m3 => ?_)
  refine T_iload_n C.1 dX9_opensAt_94 2 rfl ?_
  exact T_iret C.1 C.2.1 C.2.2 dX9_opensAt_95
def F_X9_opensAt  (x1 : Int32) (m : Mm) : Option (Int32 × Mm) :=
  bnd (F_X9_lowestWrapped x1 m) fun v1 m2 =>
  rd 2 x1 fun j3 =>
  wrI 2 m2 120 x1 ((gI m2 120 j3) &&& (((iI 1) <<< (v1 &&& 31)) ^^^ (iI (-1)))) fun m4 =>
  rd 2 x1 fun j5 =>
  wrI 14 m4 118 (((iI 7) * x1) + v1) (gI m4 121 j5) fun m6 =>
  rd 2 x1 fun j7 =>
  wrI 2 m6 124 x1 ((gI m6 124 j7) + (iI 1)) fun m8 =>
  wrI 2 m8 123 x1 (iI (-1)) fun m9 =>
  rd 2 x1 fun j10 =>
  (if (gI m9 120 j10) = iI 0 then
    F_X9_opensAt_83 x1 v1 (iI (-1)) x1 m9
  else
    rd 2 x1 fun j11 =>
    rd 7 (gI m9 122 j11) fun j12 =>
    F_X9_opensAt_83 x1 v1 (gI m9 117 j12) x1 m9)
set_option maxRecDepth 100000 in
set_option maxHeartbeats 4000000 in
theorem c_X9_opensAt (ll : Launch) (cx : CX) (x1 : Int32) (m : Mm) : MT ll yX9_opensAt cX9_opensAt 3 ((some .int)) rm_X9_opensAt cx NN NN Lay cvI 0 0 [.ref (cx.2.2.1 + 113), .int x1] m (F_X9_opensAt x1 m) := by
  refine MT_of (by decide) (Nat.le_of_ble_eq_true rfl) ?_
  intro pp ee ss mm aa bb me co hK hr hk hn
  have C : CM pp ss mm aa me co cX9_opensAt 3 RX9 cx ((some .int)) := ⟨hK, hr, hk⟩
  show TI pp ll ee rm_X9_opensAt ss mm aa bb me co 3 cx 0 [(0, .ref (cx.2.2.1 + 113)), (1, .int x1)] [] m (F_X9_opensAt x1 m)
  unfold F_X9_opensAt
  refine T_aload_n C.1 dX9_opensAt_0 0 rfl ?_
  refine T_iload_n C.1 dX9_opensAt_1 1 rfl ?_
  refine T_callVI (rm := rm_X9_lowestWrapped) [.int x1] [] C.1 dX9_opensAt_2 mw_X9_lowestWrapped wm_6_52 wm_6_54 wm_p_58 ⟨Nat.le_of_ble_eq_true rfl, Nat.le_of_ble_eq_true rfl⟩ ⟨rfl, rfl⟩ ⟨Nat.zero_le _, Nat.zero_le _⟩ rfl rfl (Nat.le_of_ble_eq_true rfl) sh113 le113 ⟨rfl, rfl⟩ (c_X9_lowestWrapped ll cx x1 m) (fun v1 m2 => ?_)
  refine T_istore_n (lv' := [(2, .int v1), (0, .ref (cx.2.2.1 + 113)), (1, .int x1)]) C.1 dX9_opensAt_5 (by decide) rfl ?_
  refine T_aload_n C.1 dX9_opensAt_6 1 rfl ?_
  refine T_getR (x := 120) C.1 fd_X9_32 (fun _ _ _ _ => rfl) sh113 le113 (fun _ h => h) rfl (by decide) dX9_opensAt_7 ?_
  refine T_iload_n C.1 dX9_opensAt_10 2 rfl ?_
  refine T_dup2 C.1 dX9_opensAt_11 rfl rfl ?_
  refine T_iald C.1 dX9_opensAt_12 sh120 le120 (fun j3 => ?_)
  refine T_iconst C.1 dX9_opensAt_13 ?_
  refine T_iload_n C.1 dX9_opensAt_14 0 rfl ?_
  refine T_ishl C.1 dX9_opensAt_15 ?_
  refine T_iconst C.1 dX9_opensAt_16 ?_
  refine T_ixor C.1 dX9_opensAt_17 ?_
  refine T_iand C.1 dX9_opensAt_18 ?_
  refine T_iast C.1 LyI_Lay sh120 le120 dX9_opensAt_19 (fun m4 => ?_)
  refine T_aload_n C.1 dX9_opensAt_20 1 rfl ?_
  refine T_getR (x := 118) C.1 fd_X9_26 (fun _ _ _ _ => rfl) sh113 le113 (fun _ h => h) rfl (by decide) dX9_opensAt_21 ?_
  refine T_bipush C.1 dX9_opensAt_24 rfl ?_
  refine T_iload_n C.1 dX9_opensAt_26 2 rfl ?_
  refine T_imul C.1 dX9_opensAt_27 ?_
  refine T_iload_n C.1 dX9_opensAt_28 0 rfl ?_
  refine T_iadd C.1 dX9_opensAt_29 ?_
  refine T_aload_n C.1 dX9_opensAt_30 1 rfl ?_
  refine T_getR (x := 121) C.1 fd_X9_35 (fun _ _ _ _ => rfl) sh113 le113 (fun _ h => h) rfl (by decide) dX9_opensAt_31 ?_
  refine T_iload_n C.1 dX9_opensAt_34 2 rfl ?_
  refine T_iald C.1 dX9_opensAt_35 sh121 le121 (fun j5 => ?_)
  refine T_iast C.1 LyI_Lay sh118 le118 dX9_opensAt_36 (fun m6 => ?_)
  refine T_aload_n C.1 dX9_opensAt_37 1 rfl ?_
  refine T_getR (x := 124) C.1 fd_X9_44 (fun _ _ _ _ => rfl) sh113 le113 (fun _ h => h) rfl (by decide) dX9_opensAt_38 ?_
  refine T_iload_n C.1 dX9_opensAt_41 2 rfl ?_
  refine T_dup2 C.1 dX9_opensAt_42 rfl rfl ?_
  refine T_iald C.1 dX9_opensAt_43 sh124 le124 (fun j7 => ?_)
  refine T_iconst C.1 dX9_opensAt_44 ?_
  refine T_iadd C.1 dX9_opensAt_45 ?_
  refine T_iast C.1 LyI_Lay sh124 le124 dX9_opensAt_46 (fun m8 => ?_)
  refine T_aload_n C.1 dX9_opensAt_47 1 rfl ?_
  refine T_getR (x := 123) C.1 fd_X9_41 (fun _ _ _ _ => rfl) sh113 le113 (fun _ h => h) rfl (by decide) dX9_opensAt_48 ?_
  refine T_iload_n C.1 dX9_opensAt_51 2 rfl ?_
  refine T_iconst C.1 dX9_opensAt_52 ?_
  refine T_iast C.1 LyI_Lay sh123 le123 dX9_opensAt_53 (fun m9 => ?_)
  refine T_aload_n C.1 dX9_opensAt_54 1 rfl ?_
  refine T_getR (x := 121) C.1 fd_X9_35 (fun _ _ _ _ => rfl) sh113 le113 (fun _ h => h) rfl (by decide) dX9_opensAt_55 ?_
  refine T_iload_n C.1 dX9_opensAt_58 2 rfl ?_
  refine T_aload_n C.1 dX9_opensAt_59 1 rfl ?_
  refine T_getR (x := 120) C.1 fd_X9_32 (fun _ _ _ _ => rfl) sh113 le113 (fun _ h => h) rfl (by decide) dX9_opensAt_60 ?_
  refine T_iload_n C.1 dX9_opensAt_63 2 rfl ?_
  refine T_iald C.1 dX9_opensAt_64 sh120 le120 (fun j10 => ?_)
  refine T_if_ne (tgt := 72) C.1 dX9_opensAt_65 (by decide) ?_ ?_
  · refine T_aload_n C.1 dX9_opensAt_72 1 rfl ?_
    refine T_getR (x := 117) C.1 fd_X9_23 (fun _ _ _ _ => rfl) sh113 le113 (fun _ h => h) rfl (by decide) dX9_opensAt_73 ?_
    refine T_aload_n C.1 dX9_opensAt_76 1 rfl ?_
    refine T_getR (x := 122) C.1 fd_X9_38 (fun _ _ _ _ => rfl) sh113 le113 (fun _ h => h) rfl (by decide) dX9_opensAt_77 ?_
    refine T_iload_n C.1 dX9_opensAt_80 2 rfl ?_
    refine T_iald C.1 dX9_opensAt_81 sh122 le122 (fun j11 => ?_)
    refine T_iald C.1 dX9_opensAt_82 sh117 le117 (fun j12 => ?_)
    exact T_sub [1, 2, 0] rfl (t_X9_opensAt_83 C x1 v1 (gI m9 117 j12) x1 m9)
  · refine T_iconst C.1 dX9_opensAt_68 ?_
    refine T_goto (tgt := 83) C.1 dX9_opensAt_69 (by decide) ?_
    exact T_sub [1, 2, 0] rfl (t_X9_opensAt_83 C x1 v1 (iI (-1)) x1 m9)
def rm_X9_takesAt : Room := { frames := 1, cells := 0, slots := 0, locals := 40 }
def F_X9_takesAt  (x1 : Int32) (x2 : Int32) (m : Mm) : Option (Int32 × Mm) :=
  rd 14 (((iI 7) * x1) + x2) fun j1 =>
  nm (gI m 118 j1) fun v2 =>
  rd 2 x1 fun j3 =>
  wrI 14 m 118 (((iI 7) * x1) + x2) (gI m 121 j3) fun m4 =>
  rd 14 (((iI 7) * x1) + x2) fun j5 =>
  wrI 14 m4 119 (((iI 7) * x1) + x2) ((gI m4 119 j5) + (iI 1)) fun m6 =>
  rd 2 x1 fun j7 =>
  wrI 2 m6 124 x1 ((gI m6 124 j7) + (iI 1)) fun m8 =>
  wrI 2 m8 123 x1 x2 fun m9 =>
  wrI 2 m9 121 x1 v2 fun m10 =>
  some (v2, m10)
set_option maxRecDepth 100000 in
set_option maxHeartbeats 4000000 in
theorem c_X9_takesAt (ll : Launch) (cx : CX) (x1 : Int32) (x2 : Int32) (m : Mm) : MT ll yX9_takesAt cX9_takesAt 4 ((some .int)) rm_X9_takesAt cx NN NN Lay cvI 0 0 [.ref (cx.2.2.1 + 113), .int x1, .int x2] m (F_X9_takesAt x1 x2 m) := by
  refine MT_of (by decide) (Nat.le_of_ble_eq_true rfl) ?_
  intro pp ee ss mm aa bb me co hK hr hk hn
  have C : CM pp ss mm aa me co cX9_takesAt 4 RX9 cx ((some .int)) := ⟨hK, hr, hk⟩
  show TI pp ll ee rm_X9_takesAt ss mm aa bb me co 4 cx 0 [(0, .ref (cx.2.2.1 + 113)), (1, .int x1), (2, .int x2)] [] m (F_X9_takesAt x1 x2 m)
  unfold F_X9_takesAt
  refine T_aload_n C.1 dX9_takesAt_0 0 rfl ?_
  refine T_getR (x := 118) C.1 fd_X9_26 (fun _ _ _ _ => rfl) sh113 le113 (fun _ h => h) rfl (by decide) dX9_takesAt_1 ?_
  refine T_bipush C.1 dX9_takesAt_4 rfl ?_
  refine T_iload_n C.1 dX9_takesAt_6 1 rfl ?_
  refine T_imul C.1 dX9_takesAt_7 ?_
  refine T_iload_n C.1 dX9_takesAt_8 2 rfl ?_
  refine T_iadd C.1 dX9_takesAt_9 ?_
  refine T_iald C.1 dX9_takesAt_10 sh118 le118 (fun j1 => ?_)
  refine T_istore_nN C.1 (fun v2 => [(3, .int v2), (0, .ref (cx.2.2.1 + 113)), (1, .int x1), (2, .int x2)]) dX9_takesAt_11 (by decide) (fun _ => rfl) (fun v2 => ?_)
  refine T_aload_n C.1 dX9_takesAt_12 1 rfl ?_
  refine T_getR (x := 118) C.1 fd_X9_26 (fun _ _ _ _ => rfl) sh113 le113 (fun _ h => h) rfl (by decide) dX9_takesAt_13 ?_
  refine T_bipush C.1 dX9_takesAt_16 rfl ?_
  refine T_iload_n C.1 dX9_takesAt_18 2 rfl ?_
  refine T_imul C.1 dX9_takesAt_19 ?_
  refine T_iload_n C.1 dX9_takesAt_20 3 rfl ?_
  refine T_iadd C.1 dX9_takesAt_21 ?_
  refine T_aload_n C.1 dX9_takesAt_22 1 rfl ?_
  refine T_getR (x := 121) C.1 fd_X9_35 (fun _ _ _ _ => rfl) sh113 le113 (fun _ h => h) rfl (by decide) dX9_takesAt_23 ?_
  refine T_iload_n C.1 dX9_takesAt_26 2 rfl ?_
  refine T_iald C.1 dX9_takesAt_27 sh121 le121 (fun j3 => ?_)
  refine T_iast C.1 LyI_Lay sh118 le118 dX9_takesAt_28 (fun m4 => ?_)
  refine T_aload_n C.1 dX9_takesAt_29 1 rfl ?_
  refine T_getR (x := 119) C.1 fd_X9_29 (fun _ _ _ _ => rfl) sh113 le113 (fun _ h => h) rfl (by decide) dX9_takesAt_30 ?_
  refine T_bipush C.1 dX9_takesAt_33 rfl ?_
  refine T_iload_n C.1 dX9_takesAt_35 2 rfl ?_
  refine T_imul C.1 dX9_takesAt_36 ?_
  refine T_iload_n C.1 dX9_takesAt_37 3 rfl ?_
  refine T_iadd C.1 dX9_takesAt_38 ?_
  refine T_dup2 C.1 dX9_takesAt_39 rfl rfl ?_
  refine T_iald C.1 dX9_takesAt_40 sh119 le119 (fun j5 => ?_)
  refine T_iconst C.1 dX9_takesAt_41 ?_
  refine T_iadd C.1 dX9_takesAt_42 ?_
  refine T_iast C.1 LyI_Lay sh119 le119 dX9_takesAt_43 (fun m6 => ?_)
  refine T_aload_n C.1 dX9_takesAt_44 1 rfl ?_
  refine T_getR (x := 124) C.1 fd_X9_44 (fun _ _ _ _ => rfl) sh113 le113 (fun _ h => h) rfl (by decide) dX9_takesAt_45 ?_
  refine T_iload_n C.1 dX9_takesAt_48 2 rfl ?_
  refine T_dup2 C.1 dX9_takesAt_49 rfl rfl ?_
  refine T_iald C.1 dX9_takesAt_50 sh124 le124 (fun j7 => ?_)
  refine T_iconst C.1 dX9_takesAt_51 ?_
  refine T_iadd C.1 dX9_takesAt_52 ?_
  refine T_iast C.1 LyI_Lay sh124 le124 dX9_takesAt_53 (fun m8 => ?_)
  refine T_aload_n C.1 dX9_takesAt_54 1 rfl ?_
  refine T_getR (x := 123) C.1 fd_X9_41 (fun _ _ _ _ => rfl) sh113 le113 (fun _ h => h) rfl (by decide) dX9_takesAt_55 ?_
  refine T_iload_n C.1 dX9_takesAt_58 2 rfl ?_
  refine T_iload_n C.1 dX9_takesAt_59 3 rfl ?_
  refine T_iast C.1 LyI_Lay sh123 le123 dX9_takesAt_60 (fun m9 => ?_)
  refine T_aload_n C.1 dX9_takesAt_61 1 rfl ?_
  refine T_getR (x := 121) C.1 fd_X9_35 (fun _ _ _ _ => rfl) sh113 le113 (fun _ h => h) rfl (by decide) dX9_takesAt_62 ?_
  refine T_iload_n C.1 dX9_takesAt_65 2 rfl ?_
  refine T_iload_n C.1 dX9_takesAt_66 0 rfl ?_
  refine T_iast C.1 LyI_Lay sh121 le121 dX9_takesAt_67 (fun m10 => ?_)
  refine T_iload_n C.1 dX9_takesAt_68 0 rfl ?_
  exact T_iret C.1 C.2.1 C.2.2 dX9_takesAt_69
def rm_X9_lawsNumber : Room := { frames := 4, cells := 0, slots := 0, locals := 111 }
def F_X9_lawsNumber_156  (a1 : Int32) (a2 : Int32) (a3 : Int32) (m : Mm) : Option (Int32 × Mm) :=
  wrI 6 m 135 a3 a2 fun m1 =>
  rd 2 a1 fun j2 =>
  bnd (F_X9_bitsOf (gI m1 120 j2) m1) fun v3 m4 =>
  wrI 6 m4 135 (iI 5) v3 fun m5 =>
  bnd (F_X9_gives (iI 0) m5) fun v6 m7 =>
  some (v6, m7)
set_option maxRecDepth 100000 in
set_option maxHeartbeats 4000000 in
theorem t_X9_lawsNumber_156 {pp : Program} {ll : Launch} {ee : Env} {ss : State} {mm : MethodId} {aa : Array Value} {bb : List Frame} {me : Method} {co : Code} {cx : CX}     (C : CM pp ss mm aa me co cX9_lawsNumber 6 RX9 cx ((some .int)))    (a1 : Int32) (a2 : Int32) (a3 : Int32) (m : Mm) : TI pp ll ee rm_X9_lawsNumber ss mm aa bb me co 6 cx 156 [(0, .ref (cx.2.2.1 + 113)), (1, .int a1)] [.int a2, .int a3, .ref (cx.2.2.1 + 135)] m (F_X9_lawsNumber_156  a1 a2 a3 m) := by
  unfold F_X9_lawsNumber_156
  refine T_iast C.1 LyI_Lay sh135 le135 dX9_lawsNumber_156 (fun m1 => ?_)
  refine T_aload_n C.1 dX9_lawsNumber_157 0 rfl ?_
  refine T_getR (x := 135) C.1 fd_X9_82 (fun _ _ _ _ => rfl) sh113 le113 (fun _ h => h) rfl (by decide) dX9_lawsNumber_158 ?_
  refine T_iconst C.1 dX9_lawsNumber_161 ?_
  refine T_aload_n C.1 dX9_lawsNumber_162 0 rfl ?_
  refine T_getR (x := 120) C.1 fd_X9_32 (fun _ _ _ _ => rfl) sh113 le113 (fun _ h => h) rfl (by decide) dX9_lawsNumber_163 ?_
  refine T_iload_n C.1 dX9_lawsNumber_166 1 rfl ?_
  refine T_iald C.1 dX9_lawsNumber_167 sh120 le120 (fun j2 => ?_)
  refine T_callSI (rm := rm_X9_bitsOf) [.int (gI m1 120 j2)] [.int (iI 5), .ref (cx.2.2.1 + 135)] C.1 dX9_lawsNumber_168 mw_X9_bitsOf wm_6_92 wm_6_93 ⟨Nat.le_of_ble_eq_true rfl, Nat.le_of_ble_eq_true rfl⟩ ⟨rfl, rfl⟩ ⟨Nat.zero_le _, Nat.zero_le _⟩ rfl rfl (Nat.le_of_ble_eq_true rfl) (c_X9_bitsOf ll cx (gI m1 120 j2) m1) (fun v3 m4 => ?_)
  refine T_iast C.1 LyI_Lay sh135 le135 dX9_lawsNumber_171 (fun m5 => ?_)
  refine T_aload_n C.1 dX9_lawsNumber_172 0 rfl ?_
  refine T_iconst C.1 dX9_lawsNumber_173 ?_
  refine T_callVI (rm := rm_X9_gives) [.int (iI 0)] [] C.1 dX9_lawsNumber_174 mw_X9_gives wm_6_95 wm_6_97 wm_p_66 ⟨Nat.le_of_ble_eq_true rfl, Nat.le_of_ble_eq_true rfl⟩ ⟨rfl, rfl⟩ ⟨Nat.zero_le _, Nat.zero_le _⟩ rfl rfl (Nat.le_of_ble_eq_true rfl) sh113 le113 ⟨rfl, rfl⟩ (c_X9_gives ll cx (iI 0) m5) (fun v6 m7 => ?_)
  exact T_iret C.1 C.2.1 C.2.2 dX9_lawsNumber_177
def F_X9_lawsNumber_141  (a1 : Int32) (a2 : Int32) (a3 : Int32) (a4 : Int32) (m : Mm) : Option (Int32 × Mm) :=
  wrI 6 m 135 a4 a3 fun m1 =>
  (if iI 0 ≤ a2 then
    F_X9_lawsNumber_156 a1 (iI 0) (iI 4) m1
  else
    F_X9_lawsNumber_156 a1 (iI 1) (iI 4) m1)
set_option maxRecDepth 100000 in
set_option maxHeartbeats 4000000 in
theorem t_X9_lawsNumber_141 {pp : Program} {ll : Launch} {ee : Env} {ss : State} {mm : MethodId} {aa : Array Value} {bb : List Frame} {me : Method} {co : Code} {cx : CX}     (C : CM pp ss mm aa me co cX9_lawsNumber 6 RX9 cx ((some .int)))    (a1 : Int32) (a2 : Int32) (a3 : Int32) (a4 : Int32) (m : Mm) : TI pp ll ee rm_X9_lawsNumber ss mm aa bb me co 6 cx 141 [(0, .ref (cx.2.2.1 + 113)), (1, .int a1), (3, .int a2)] [.int a3, .int a4, .ref (cx.2.2.1 + 135)] m (F_X9_lawsNumber_141  a1 a2 a3 a4 m) := by
  unfold F_X9_lawsNumber_141
  refine T_iast C.1 LyI_Lay sh135 le135 dX9_lawsNumber_141 (fun m1 => ?_)
  refine T_aload_n C.1 dX9_lawsNumber_142 0 rfl ?_
  refine T_getR (x := 135) C.1 fd_X9_82 (fun _ _ _ _ => rfl) sh113 le113 (fun _ h => h) rfl (by decide) dX9_lawsNumber_143 ?_
  refine T_iconst C.1 dX9_lawsNumber_146 ?_
  refine T_iload_n C.1 dX9_lawsNumber_147 2 rfl ?_
  refine T_if_ge (tgt := 155) C.1 dX9_lawsNumber_148 (by decide) ?_ ?_
  · refine T_iconst C.1 dX9_lawsNumber_155 ?_
    exact T_sub [0, 1] rfl (t_X9_lawsNumber_156 C a1 (iI 0) (iI 4) m1)
  · refine T_iconst C.1 dX9_lawsNumber_151 ?_
    refine T_goto (tgt := 156) C.1 dX9_lawsNumber_152 (by decide) ?_
    exact T_sub [0, 1] rfl (t_X9_lawsNumber_156 C a1 (iI 1) (iI 4) m1)
def F_X9_lawsNumber_115  (a1 : Int32) (a2 : Int32) (a3 : Int32) (a4 : Int32) (a5 : Int32) (a6 : Int32) (m : Mm) : Option (Int32 × Mm) :=
  wrI 6 m 135 a6 a5 fun m1 =>
  (if iI 0 ≤ a3 then
    rd 49 (((iI 7) * a2) + a4) fun j2 =>
    F_X9_lawsNumber_141 a1 a3 (gI m1 115 j2) (iI 3) m1
  else
    F_X9_lawsNumber_141 a1 a3 (iI 0) (iI 3) m1)
set_option maxRecDepth 100000 in
set_option maxHeartbeats 4000000 in
theorem t_X9_lawsNumber_115 {pp : Program} {ll : Launch} {ee : Env} {ss : State} {mm : MethodId} {aa : Array Value} {bb : List Frame} {me : Method} {co : Code} {cx : CX}     (C : CM pp ss mm aa me co cX9_lawsNumber 6 RX9 cx ((some .int)))    (a1 : Int32) (a2 : Int32) (a3 : Int32) (a4 : Int32) (a5 : Int32) (a6 : Int32) (m : Mm) : TI pp ll ee rm_X9_lawsNumber ss mm aa bb me co 6 cx 115 [(0, .ref (cx.2.2.1 + 113)), (1, .int a1), (2, .int a2), (3, .int a3), (5, .int a4)] [.int a5, .int a6, .ref (cx.2.2.1 + 135)] m (F_X9_lawsNumber_115  a1 a2 a3 a4 a5 a6 m) := by
  unfold F_X9_lawsNumber_115
  refine T_iast C.1 LyI_Lay sh135 le135 dX9_lawsNumber_115 (fun m1 => ?_)
  refine T_aload_n C.1 dX9_lawsNumber_116 0 rfl ?_
  refine T_getR (x := 135) C.1 fd_X9_82 (fun _ _ _ _ => rfl) sh113 le113 (fun _ h => h) rfl (by decide) dX9_lawsNumber_117 ?_
  refine T_iconst C.1 dX9_lawsNumber_120 ?_
  refine T_iload_n C.1 dX9_lawsNumber_121 3 rfl ?_
  refine T_if_ge (tgt := 129) C.1 dX9_lawsNumber_122 (by decide) ?_ ?_
  · refine T_aload_n C.1 dX9_lawsNumber_129 0 rfl ?_
    refine T_getR (x := 115) C.1 fd_X9_13 (fun _ _ _ _ => rfl) sh113 le113 (fun _ h => h) rfl (by decide) dX9_lawsNumber_130 ?_
    refine T_bipush C.1 dX9_lawsNumber_133 rfl ?_
    refine T_iload_n C.1 dX9_lawsNumber_135 2 rfl ?_
    refine T_imul C.1 dX9_lawsNumber_136 ?_
    refine T_iload C.1 dX9_lawsNumber_137 4 rfl ?_
    refine T_iadd C.1 dX9_lawsNumber_139 ?_
    refine T_iald C.1 dX9_lawsNumber_140 sh115 le115 (fun j2 => ?_)
    exact T_sub [0, 1, 3] rfl (t_X9_lawsNumber_141 C a1 a3 (gI m1 115 j2) (iI 3) m1)
  · refine T_iconst C.1 dX9_lawsNumber_125 ?_
    refine T_goto (tgt := 141) C.1 dX9_lawsNumber_126 (by decide) ?_
    exact T_sub [0, 1, 3] rfl (t_X9_lawsNumber_141 C a1 a3 (iI 0) (iI 3) m1)
def F_X9_lawsNumber_90  (a1 : Int32) (a2 : Int32) (a3 : Int32) (a4 : Int32) (a5 : Int32) (a6 : Int32) (m : Mm) : Option (Int32 × Mm) :=
  wrI 6 m 135 a6 a5 fun m1 =>
  (if iI 0 ≤ a3 then
    rd 14 (((iI 7) * a1) + a3) fun j2 =>
    F_X9_lawsNumber_115 a1 a2 a3 a4 (gI m1 119 j2) (iI 2) m1
  else
    F_X9_lawsNumber_115 a1 a2 a3 a4 (iI 0) (iI 2) m1)
set_option maxRecDepth 100000 in
set_option maxHeartbeats 4000000 in
theorem t_X9_lawsNumber_90 {pp : Program} {ll : Launch} {ee : Env} {ss : State} {mm : MethodId} {aa : Array Value} {bb : List Frame} {me : Method} {co : Code} {cx : CX}     (C : CM pp ss mm aa me co cX9_lawsNumber 6 RX9 cx ((some .int)))    (a1 : Int32) (a2 : Int32) (a3 : Int32) (a4 : Int32) (a5 : Int32) (a6 : Int32) (m : Mm) : TI pp ll ee rm_X9_lawsNumber ss mm aa bb me co 6 cx 90 [(0, .ref (cx.2.2.1 + 113)), (1, .int a1), (2, .int a2), (3, .int a3), (5, .int a4)] [.int a5, .int a6, .ref (cx.2.2.1 + 135)] m (F_X9_lawsNumber_90  a1 a2 a3 a4 a5 a6 m) := by
  unfold F_X9_lawsNumber_90
  refine T_iast C.1 LyI_Lay sh135 le135 dX9_lawsNumber_90 (fun m1 => ?_)
  refine T_aload_n C.1 dX9_lawsNumber_91 0 rfl ?_
  refine T_getR (x := 135) C.1 fd_X9_82 (fun _ _ _ _ => rfl) sh113 le113 (fun _ h => h) rfl (by decide) dX9_lawsNumber_92 ?_
  refine T_iconst C.1 dX9_lawsNumber_95 ?_
  refine T_iload_n C.1 dX9_lawsNumber_96 3 rfl ?_
  refine T_if_ge (tgt := 104) C.1 dX9_lawsNumber_97 (by decide) ?_ ?_
  · refine T_aload_n C.1 dX9_lawsNumber_104 0 rfl ?_
    refine T_getR (x := 119) C.1 fd_X9_29 (fun _ _ _ _ => rfl) sh113 le113 (fun _ h => h) rfl (by decide) dX9_lawsNumber_105 ?_
    refine T_bipush C.1 dX9_lawsNumber_108 rfl ?_
    refine T_iload_n C.1 dX9_lawsNumber_110 1 rfl ?_
    refine T_imul C.1 dX9_lawsNumber_111 ?_
    refine T_iload_n C.1 dX9_lawsNumber_112 3 rfl ?_
    refine T_iadd C.1 dX9_lawsNumber_113 ?_
    refine T_iald C.1 dX9_lawsNumber_114 sh119 le119 (fun j2 => ?_)
    exact T_sub [0, 1, 2, 3, 4] rfl (t_X9_lawsNumber_115 C a1 a2 a3 a4 (gI m1 119 j2) (iI 2) m1)
  · refine T_iconst C.1 dX9_lawsNumber_100 ?_
    refine T_goto (tgt := 115) C.1 dX9_lawsNumber_101 (by decide) ?_
    exact T_sub [0, 1, 2, 3, 4] rfl (t_X9_lawsNumber_115 C a1 a2 a3 a4 (iI 0) (iI 2) m1)
def F_X9_lawsNumber_55  (a1 : Int32) (a2 : Int32) (a3 : Int32) (a4 : Int32) (a5 : Int32) (m : Mm) : Option (Int32 × Mm) :=
  wrI 6 m 135 (iI 0) a4 fun m1 =>
  (if iI 0 ≤ a3 then
    rd 49 (((iI 7) * a5) + a3) fun j2 =>
    F_X9_lawsNumber_90 a1 a2 a3 a5 (gI m1 114 j2) (iI 1) m1
  else
    F_X9_lawsNumber_90 a1 a2 a3 a5 (iI 0) (iI 1) m1)
set_option maxRecDepth 100000 in
set_option maxHeartbeats 4000000 in
theorem t_X9_lawsNumber_55 {pp : Program} {ll : Launch} {ee : Env} {ss : State} {mm : MethodId} {aa : Array Value} {bb : List Frame} {me : Method} {co : Code} {cx : CX}     (C : CM pp ss mm aa me co cX9_lawsNumber 6 RX9 cx ((some .int)))    (a1 : Int32) (a2 : Int32) (a3 : Int32) (a4 : Int32) (a5 : Int32) (m : Mm) : TI pp ll ee rm_X9_lawsNumber ss mm aa bb me co 6 cx 55 [(0, .ref (cx.2.2.1 + 113)), (1, .int a1), (2, .int a2), (3, .int a3), (4, .int a4)] [.int a5] m (F_X9_lawsNumber_55  a1 a2 a3 a4 a5 m) := by
  unfold F_X9_lawsNumber_55
  refine T_istore (lv' := [(5, .int a5), (0, .ref (cx.2.2.1 + 113)), (1, .int a1), (2, .int a2), (3, .int a3), (4, .int a4)]) C.1 dX9_lawsNumber_55 (by decide) rfl ?_
  refine T_aload_n C.1 dX9_lawsNumber_57 1 rfl ?_
  refine T_getR (x := 135) C.1 fd_X9_82 (fun _ _ _ _ => rfl) sh113 le113 (fun _ h => h) rfl (by decide) dX9_lawsNumber_58 ?_
  refine T_iconst C.1 dX9_lawsNumber_61 ?_
  refine T_iload C.1 dX9_lawsNumber_62 5 rfl ?_
  refine T_iast C.1 LyI_Lay sh135 le135 dX9_lawsNumber_64 (fun m1 => ?_)
  refine T_aload_n C.1 dX9_lawsNumber_65 1 rfl ?_
  refine T_getR (x := 135) C.1 fd_X9_82 (fun _ _ _ _ => rfl) sh113 le113 (fun _ h => h) rfl (by decide) dX9_lawsNumber_66 ?_
  refine T_iconst C.1 dX9_lawsNumber_69 ?_
  refine T_iload_n C.1 dX9_lawsNumber_70 4 rfl ?_
  refine T_if_ge (tgt := 78) C.1 dX9_lawsNumber_71 (by decide) ?_ ?_
  · refine T_aload_n C.1 dX9_lawsNumber_78 1 rfl ?_
    refine T_getR (x := 114) C.1 fd_X9_7 (fun _ _ _ _ => rfl) sh113 le113 (fun _ h => h) rfl (by decide) dX9_lawsNumber_79 ?_
    refine T_bipush C.1 dX9_lawsNumber_82 rfl ?_
    refine T_iload C.1 dX9_lawsNumber_84 0 rfl ?_
    refine T_imul C.1 dX9_lawsNumber_86 ?_
    refine T_iload_n C.1 dX9_lawsNumber_87 4 rfl ?_
    refine T_iadd C.1 dX9_lawsNumber_88 ?_
    refine T_iald C.1 dX9_lawsNumber_89 sh114 le114 (fun j2 => ?_)
    exact T_sub [1, 2, 3, 4, 0] rfl (t_X9_lawsNumber_90 C a1 a2 a3 a5 (gI m1 114 j2) (iI 1) m1)
  · refine T_iconst C.1 dX9_lawsNumber_74 ?_
    refine T_goto (tgt := 90) C.1 dX9_lawsNumber_75 (by decide) ?_
    exact T_sub [1, 2, 3, 4, 0] rfl (t_X9_lawsNumber_90 C a1 a2 a3 a5 (iI 0) (iI 1) m1)
def F_X9_lawsNumber_24  (a1 : Int32) (a2 : Int32) (a3 : Int32) (a4 : Int32) (m : Mm) : Option (Int32 × Mm) :=
  (if (gI m 113 39) = iI 0 then
    some (a4, m)
  else
    (if iI 0 ≤ a3 then
      rd 14 (((iI 7) * a1) + a3) fun j1 =>
      F_X9_lawsNumber_55 a1 a2 a3 a4 (gI m 118 j1) m
    else
      F_X9_lawsNumber_55 a1 a2 a3 a4 (iI 0) m))
set_option maxRecDepth 100000 in
set_option maxHeartbeats 4000000 in
theorem t_X9_lawsNumber_24 {pp : Program} {ll : Launch} {ee : Env} {ss : State} {mm : MethodId} {aa : Array Value} {bb : List Frame} {me : Method} {co : Code} {cx : CX}     (C : CM pp ss mm aa me co cX9_lawsNumber 6 RX9 cx ((some .int)))    (a1 : Int32) (a2 : Int32) (a3 : Int32) (a4 : Int32) (m : Mm) : TI pp ll ee rm_X9_lawsNumber ss mm aa bb me co 6 cx 24 [(0, .ref (cx.2.2.1 + 113)), (1, .int a1), (2, .int a2), (3, .int a3)] [.int a4] m (F_X9_lawsNumber_24  a1 a2 a3 a4 m) := by
  unfold F_X9_lawsNumber_24
  refine T_istore (lv' := [(4, .int a4), (0, .ref (cx.2.2.1 + 113)), (1, .int a1), (2, .int a2), (3, .int a3)]) C.1 dX9_lawsNumber_24 (by decide) rfl ?_
  refine T_aload_n C.1 dX9_lawsNumber_26 1 rfl ?_
  refine T_getI C.1 fd_X9_282 (fun _ _ _ _ => rfl) sh113 le113 dX9_lawsNumber_27 ?_
  refine T_if_ne (tgt := 36) C.1 dX9_lawsNumber_30 (by decide) ?_ ?_
  · refine T_iload_n C.1 dX9_lawsNumber_36 4 rfl ?_
    refine T_if_ge (tgt := 44) C.1 dX9_lawsNumber_37 (by decide) ?_ ?_
    · refine T_aload_n C.1 dX9_lawsNumber_44 1 rfl ?_
      refine T_getR (x := 118) C.1 fd_X9_26 (fun _ _ _ _ => rfl) sh113 le113 (fun _ h => h) rfl (by decide) dX9_lawsNumber_45 ?_
      refine T_bipush C.1 dX9_lawsNumber_48 rfl ?_
      refine T_iload_n C.1 dX9_lawsNumber_50 2 rfl ?_
      refine T_imul C.1 dX9_lawsNumber_51 ?_
      refine T_iload_n C.1 dX9_lawsNumber_52 4 rfl ?_
      refine T_iadd C.1 dX9_lawsNumber_53 ?_
      refine T_iald C.1 dX9_lawsNumber_54 sh118 le118 (fun j1 => ?_)
      exact T_sub [1, 2, 3, 4, 0] rfl (t_X9_lawsNumber_55 C a1 a2 a3 a4 (gI m 118 j1) m)
    · refine T_iconst C.1 dX9_lawsNumber_40 ?_
      refine T_goto (tgt := 55) C.1 dX9_lawsNumber_41 (by decide) ?_
      exact T_sub [1, 2, 3, 4, 0] rfl (t_X9_lawsNumber_55 C a1 a2 a3 a4 (iI 0) m)
  · refine T_iload C.1 dX9_lawsNumber_33 0 rfl ?_
    exact T_iret C.1 C.2.1 C.2.2 dX9_lawsNumber_35
def F_X9_lawsNumber  (x1 : Int32) (x2 : Int32) (x3 : Int32) (m : Mm) : Option (Int32 × Mm) :=
  (if iI 0 ≤ x3 then
    rd 49 (((iI 7) * x2) + x3) fun j1 =>
    F_X9_lawsNumber_24 x1 x2 x3 (gI m 114 j1) m
  else
    bnd (F_X9_guessOf x1 x2 m) fun v2 m3 =>
    F_X9_lawsNumber_24 x1 x2 x3 v2 m3)
set_option maxRecDepth 100000 in
set_option maxHeartbeats 4000000 in
theorem c_X9_lawsNumber (ll : Launch) (cx : CX) (x1 : Int32) (x2 : Int32) (x3 : Int32) (m : Mm) : MT ll yX9_lawsNumber cX9_lawsNumber 6 ((some .int)) rm_X9_lawsNumber cx NN NN Lay cvI 0 0 [.ref (cx.2.2.1 + 113), .int x1, .int x2, .int x3] m (F_X9_lawsNumber x1 x2 x3 m) := by
  refine MT_of (by decide) (Nat.le_of_ble_eq_true rfl) ?_
  intro pp ee ss mm aa bb me co hK hr hk hn
  have C : CM pp ss mm aa me co cX9_lawsNumber 6 RX9 cx ((some .int)) := ⟨hK, hr, hk⟩
  show TI pp ll ee rm_X9_lawsNumber ss mm aa bb me co 6 cx 0 [(0, .ref (cx.2.2.1 + 113)), (1, .int x1), (2, .int x2), (3, .int x3)] [] m (F_X9_lawsNumber x1 x2 x3 m)
  unfold F_X9_lawsNumber
  refine T_iload_n C.1 dX9_lawsNumber_0 3 rfl ?_
  refine T_if_ge (tgt := 13) C.1 dX9_lawsNumber_1 (by decide) ?_ ?_
  · refine T_aload_n C.1 dX9_lawsNumber_13 0 rfl ?_
    refine T_getR (x := 114) C.1 fd_X9_7 (fun _ _ _ _ => rfl) sh113 le113 (fun _ h => h) rfl (by decide) dX9_lawsNumber_14 ?_
    refine T_bipush C.1 dX9_lawsNumber_17 rfl ?_
    refine T_iload_n C.1 dX9_lawsNumber_19 2 rfl ?_
    refine T_imul C.1 dX9_lawsNumber_20 ?_
    refine T_iload_n C.1 dX9_lawsNumber_21 3 rfl ?_
    refine T_iadd C.1 dX9_lawsNumber_22 ?_
    refine T_iald C.1 dX9_lawsNumber_23 sh114 le114 (fun j1 => ?_)
    exact T_sub [0, 1, 2, 3] rfl (t_X9_lawsNumber_24 C x1 x2 x3 (gI m 114 j1) m)
  · refine T_aload_n C.1 dX9_lawsNumber_4 0 rfl ?_
    refine T_iload_n C.1 dX9_lawsNumber_5 1 rfl ?_
    refine T_iload_n C.1 dX9_lawsNumber_6 2 rfl ?_
    refine T_callVI (rm := rm_X9_guessOf) [.int x1, .int x2] [] C.1 dX9_lawsNumber_7 mw_X9_guessOf wm_6_88 wm_6_90 wm_p_65 ⟨Nat.le_of_ble_eq_true rfl, Nat.le_of_ble_eq_true rfl⟩ ⟨rfl, rfl⟩ ⟨Nat.zero_le _, Nat.zero_le _⟩ rfl rfl (Nat.le_of_ble_eq_true rfl) sh113 le113 ⟨rfl, rfl⟩ (c_X9_guessOf ll cx x1 x2 m) (fun v2 m3 => ?_)
    refine T_goto (tgt := 24) C.1 dX9_lawsNumber_10 (by decide) ?_
    exact T_sub [0, 1, 2, 3] rfl (t_X9_lawsNumber_24 C x1 x2 x3 v2 m3)
def rm_X9_choice : Room := { frames := 5, cells := 0, slots := 0, locals := 136 }
def F_X9_choice_197 (k_56 : Int32 → Int32 → Int32 → Int32 → Int32 → Mm → Option (Int32 × Mm)) (a1 : Int32) (a2 : Int32) (a3 : Int32) (a4 : Int32) (a5 : Int32) (m : Mm) : Option (Int32 × Mm) :=
  nm (a5 + (iI 1)) fun v1 =>
  k_56 a1 a2 a3 a4 v1 m
set_option maxRecDepth 100000 in
set_option maxHeartbeats 4000000 in
theorem t_X9_choice_197 {pp : Program} {ll : Launch} {ee : Env} {ss : State} {mm : MethodId} {aa : Array Value} {bb : List Frame} {me : Method} {co : Code} {cx : CX}  {k_56 : Int32 → Int32 → Int32 → Int32 → Int32 → Mm → Option (Int32 × Mm)}   (C : CM pp ss mm aa me co cX9_choice 7 RX9 cx ((some .int)))   (hk_56 : ∀ (a1 : Int32) (a2 : Int32) (a3 : Int32) (a4 : Int32) (a5 : Int32) (m : Mm), TI pp ll ee rm_X9_choice ss mm aa bb me co 7 cx 56 [(0, .ref (cx.2.2.1 + 113)), (1, .int a1), (2, .int a2), (3, .int a3), (4, .int a4), (5, .int a5)] [] m (k_56 a1 a2 a3 a4 a5 m)) (a1 : Int32) (a2 : Int32) (a3 : Int32) (a4 : Int32) (a5 : Int32) (m : Mm) : TI pp ll ee rm_X9_choice ss mm aa bb me co 7 cx 197 [(0, .ref (cx.2.2.1 + 113)), (1, .int a1), (2, .int a2), (3, .int a3), (4, .int a4), (5, .int a5)] [] m (F_X9_choice_197 k_56 a1 a2 a3 a4 a5 m) := by
  unfold F_X9_choice_197
  refine T_iincN C.1 (fun v1 => [(5, .int v1), (0, .ref (cx.2.2.1 + 113)), (1, .int a1), (2, .int a2), (3, .int a3), (4, .int a4)]) dX9_choice_197 5 rfl (by decide) (fun _ => rfl) (fun v1 => ?_)
  refine T_goto (tgt := 56) C.1 dX9_choice_200 (by decide) ?_
  exact T_sub [1, 2, 3, 4, 5, 0] rfl (hk_56 a1 a2 a3 a4 v1 m)
def F_X9_choice_178 (k_56 : Int32 → Int32 → Int32 → Int32 → Int32 → Mm → Option (Int32 × Mm)) (a1 : Int32) (a2 : Int32) (a3 : Int32) (a4 : Int32) (a5 : Int32) (a6 : Int32) (m : Mm) : Option (Int32 × Mm) :=
  (if a4 < a6 then
    F_X9_choice_197 (k_56) a1 a2 a5 a6 a5 m
  else
    F_X9_choice_197 (k_56) a1 a2 a3 a4 a5 m)
set_option maxRecDepth 100000 in
set_option maxHeartbeats 4000000 in
theorem t_X9_choice_178 {pp : Program} {ll : Launch} {ee : Env} {ss : State} {mm : MethodId} {aa : Array Value} {bb : List Frame} {me : Method} {co : Code} {cx : CX}  {k_56 : Int32 → Int32 → Int32 → Int32 → Int32 → Mm → Option (Int32 × Mm)}   (C : CM pp ss mm aa me co cX9_choice 7 RX9 cx ((some .int)))   (hk_56 : ∀ (a1 : Int32) (a2 : Int32) (a3 : Int32) (a4 : Int32) (a5 : Int32) (m : Mm), TI pp ll ee rm_X9_choice ss mm aa bb me co 7 cx 56 [(0, .ref (cx.2.2.1 + 113)), (1, .int a1), (2, .int a2), (3, .int a3), (4, .int a4), (5, .int a5)] [] m (k_56 a1 a2 a3 a4 a5 m)) (a1 : Int32) (a2 : Int32) (a3 : Int32) (a4 : Int32) (a5 : Int32) (a6 : Int32) (m : Mm) : TI pp ll ee rm_X9_choice ss mm aa bb me co 7 cx 178 [(0, .ref (cx.2.2.1 + 113)), (1, .int a1), (2, .int a2), (3, .int a3), (4, .int a4), (5, .int a5)] [.int a6] m (F_X9_choice_178 k_56 a1 a2 a3 a4 a5 a6 m) := by
  unfold F_X9_choice_178
  refine T_istore (lv' := [(6, .int a6), (0, .ref (cx.2.2.1 + 113)), (1, .int a1), (2, .int a2), (3, .int a3), (4, .int a4), (5, .int a5)]) C.1 dX9_choice_178 (by decide) rfl ?_
  refine T_iload C.1 dX9_choice_180 0 rfl ?_
  refine T_iload C.1 dX9_choice_182 5 rfl ?_
  refine T_icmp_gt (tgt := 190) C.1 dX9_choice_184 (by decide) ?_ ?_
  · refine T_iload C.1 dX9_choice_190 6 rfl ?_
    refine T_istore_n (lv' := [(3, .int a5), (6, .int a6), (0, .ref (cx.2.2.1 + 113)), (1, .int a1), (2, .int a2), (4, .int a4), (5, .int a5)]) C.1 dX9_choice_192 (by decide) rfl ?_
    refine T_iload C.1 dX9_choice_193 1 rfl ?_
    refine T_istore (lv' := [(4, .int a6), (3, .int a5), (6, .int a6), (0, .ref (cx.2.2.1 + 113)), (1, .int a1), (2, .int a2), (5, .int a5)]) C.1 dX9_choice_195 (by decide) rfl ?_
    exact T_sub [3, 4, 5, 1, 0, 6] rfl (t_X9_choice_197 C (hk_56) a1 a2 a5 a6 a5 m)
  · refine T_goto (tgt := 197) C.1 dX9_choice_187 (by decide) ?_
    exact T_sub [1, 2, 3, 4, 5, 6] rfl (t_X9_choice_197 C (hk_56) a1 a2 a3 a4 a5 m)
def F_X9_choice_109 (k_56 : Int32 → Int32 → Int32 → Int32 → Int32 → Mm → Option (Int32 × Mm)) (a1 : Int32) (a2 : Int32) (a3 : Int32) (a4 : Int32) (a5 : Int32) (m : Mm) : Option (Int32 × Mm) :=
  rd 7 a2 fun j1 =>
  (if (gI m 116 j1) = (iI 2) then
    bnd (F_X9_lawsNumber a1 a2 a5 m) fun v6 m7 =>
    F_X9_choice_178 (k_56) a1 a2 a3 a4 a5 v6 m7
  else
    rd 7 a2 fun j2 =>
    (if (gI m 116 j2) = (iI 1) then
      rd 14 (((iI 7) * a1) + a5) fun j4 =>
      rd 49 (((iI 7) * a2) + (gI m 118 j4)) fun j5 =>
      F_X9_choice_178 (k_56) a1 a2 a3 a4 a5 (-(gI m 115 j5)) m
    else
      rd 49 (((iI 7) * a2) + a5) fun j3 =>
      F_X9_choice_178 (k_56) a1 a2 a3 a4 a5 (gI m 114 j3) m))
set_option maxRecDepth 100000 in
set_option maxHeartbeats 4000000 in
theorem t_X9_choice_109 {pp : Program} {ll : Launch} {ee : Env} {ss : State} {mm : MethodId} {aa : Array Value} {bb : List Frame} {me : Method} {co : Code} {cx : CX}  {k_56 : Int32 → Int32 → Int32 → Int32 → Int32 → Mm → Option (Int32 × Mm)}   (C : CM pp ss mm aa me co cX9_choice 7 RX9 cx ((some .int)))   (hk_56 : ∀ (a1 : Int32) (a2 : Int32) (a3 : Int32) (a4 : Int32) (a5 : Int32) (m : Mm), TI pp ll ee rm_X9_choice ss mm aa bb me co 7 cx 56 [(0, .ref (cx.2.2.1 + 113)), (1, .int a1), (2, .int a2), (3, .int a3), (4, .int a4), (5, .int a5)] [] m (k_56 a1 a2 a3 a4 a5 m)) (a1 : Int32) (a2 : Int32) (a3 : Int32) (a4 : Int32) (a5 : Int32) (m : Mm) : TI pp ll ee rm_X9_choice ss mm aa bb me co 7 cx 109 [(0, .ref (cx.2.2.1 + 113)), (1, .int a1), (2, .int a2), (3, .int a3), (4, .int a4), (5, .int a5)] [] m (F_X9_choice_109 k_56 a1 a2 a3 a4 a5 m) := by
  unfold F_X9_choice_109
  refine T_aload_n C.1 dX9_choice_109 0 rfl ?_
  refine T_getR (x := 116) C.1 fd_X9_16 (fun _ _ _ _ => rfl) sh113 le113 (fun _ h => h) rfl (by decide) dX9_choice_110 ?_
  refine T_iload_n C.1 dX9_choice_113 2 rfl ?_
  refine T_iald C.1 dX9_choice_114 sh116 le116 (fun j1 => ?_)
  refine T_iconst C.1 dX9_choice_115 ?_
  refine T_icmp_ne (tgt := 130) C.1 dX9_choice_116 (by decide) ?_ ?_
  · refine T_aload_n C.1 dX9_choice_130 0 rfl ?_
    refine T_getR (x := 116) C.1 fd_X9_16 (fun _ _ _ _ => rfl) sh113 le113 (fun _ h => h) rfl (by decide) dX9_choice_131 ?_
    refine T_iload_n C.1 dX9_choice_134 2 rfl ?_
    refine T_iald C.1 dX9_choice_135 sh116 le116 (fun j2 => ?_)
    refine T_iconst C.1 dX9_choice_136 ?_
    refine T_icmp_ne (tgt := 166) C.1 dX9_choice_137 (by decide) ?_ ?_
    · refine T_aload_n C.1 dX9_choice_166 0 rfl ?_
      refine T_getR (x := 114) C.1 fd_X9_7 (fun _ _ _ _ => rfl) sh113 le113 (fun _ h => h) rfl (by decide) dX9_choice_167 ?_
      refine T_bipush C.1 dX9_choice_170 rfl ?_
      refine T_iload_n C.1 dX9_choice_172 2 rfl ?_
      refine T_imul C.1 dX9_choice_173 ?_
      refine T_iload C.1 dX9_choice_174 5 rfl ?_
      refine T_iadd C.1 dX9_choice_176 ?_
      refine T_iald C.1 dX9_choice_177 sh114 le114 (fun j3 => ?_)
      exact T_sub [0, 1, 2, 3, 4, 5] rfl (t_X9_choice_178 C (hk_56) a1 a2 a3 a4 a5 (gI m 114 j3) m)
    · refine T_aload_n C.1 dX9_choice_140 0 rfl ?_
      refine T_getR (x := 115) C.1 fd_X9_13 (fun _ _ _ _ => rfl) sh113 le113 (fun _ h => h) rfl (by decide) dX9_choice_141 ?_
      refine T_bipush C.1 dX9_choice_144 rfl ?_
      refine T_iload_n C.1 dX9_choice_146 2 rfl ?_
      refine T_imul C.1 dX9_choice_147 ?_
      refine T_aload_n C.1 dX9_choice_148 0 rfl ?_
      refine T_getR (x := 118) C.1 fd_X9_26 (fun _ _ _ _ => rfl) sh113 le113 (fun _ h => h) rfl (by decide) dX9_choice_149 ?_
      refine T_bipush C.1 dX9_choice_152 rfl ?_
      refine T_iload_n C.1 dX9_choice_154 1 rfl ?_
      refine T_imul C.1 dX9_choice_155 ?_
      refine T_iload C.1 dX9_choice_156 5 rfl ?_
      refine T_iadd C.1 dX9_choice_158 ?_
      refine T_iald C.1 dX9_choice_159 sh118 le118 (fun j4 => ?_)
      refine T_iadd C.1 dX9_choice_160 ?_
      refine T_iald C.1 dX9_choice_161 sh115 le115 (fun j5 => ?_)
      refine T_ineg C.1 dX9_choice_162 ?_
      refine T_goto (tgt := 178) C.1 dX9_choice_163 (by decide) ?_
      exact T_sub [0, 1, 2, 3, 4, 5] rfl (t_X9_choice_178 C (hk_56) a1 a2 a3 a4 a5 (-(gI m 115 j5)) m)
  · refine T_aload_n C.1 dX9_choice_119 0 rfl ?_
    refine T_iload_n C.1 dX9_choice_120 1 rfl ?_
    refine T_iload_n C.1 dX9_choice_121 2 rfl ?_
    refine T_iload C.1 dX9_choice_122 5 rfl ?_
    refine T_callVI (rm := rm_X9_lawsNumber) [.int a1, .int a2, .int a5] [] C.1 dX9_choice_124 mw_X9_lawsNumber wm_6_84 wm_6_86 wm_p_64 ⟨Nat.le_of_ble_eq_true rfl, Nat.le_of_ble_eq_true rfl⟩ ⟨rfl, rfl⟩ ⟨Nat.zero_le _, Nat.zero_le _⟩ rfl rfl (Nat.le_of_ble_eq_true rfl) sh113 le113 ⟨rfl, rfl⟩ (c_X9_lawsNumber ll cx a1 a2 a5 m) (fun v6 m7 => ?_)
    refine T_goto (tgt := 178) C.1 dX9_choice_127 (by decide) ?_
    exact T_sub [0, 1, 2, 3, 4, 5] rfl (t_X9_choice_178 C (hk_56) a1 a2 a3 a4 a5 v6 m7)
def F_X9_choice_56  : Nat → Int32 → Int32 → Int32 → Int32 → Int32 → Mm → Option (Int32 × Mm)
  | 0, _, _, _, _, _, _ => none
  | f + 1, a1, a2, a3, a4, a5, m =>
    (if (gI m 113 1) ≤ a5 then
      some (a3, m)
    else
      bnd (F_X9_mayTake a1 a5 m) fun v1 m2 =>
      (if v1 = iI 0 then
        F_X9_choice_197 (F_X9_choice_56  f) a1 a2 a3 a4 a5 m2
      else
        rd 7 a2 fun j3 =>
        (if (gI m2 116 j3) = (iI 1) then
          rd 49 (((iI 7) * a2) + a5) fun j4 =>
          bnd (F_X9_guessOf a1 a2 m2) fun v5 m6 =>
          (if v5 < (gI m2 114 j4) then
            F_X9_choice_109 (F_X9_choice_56  f) a1 a2 a3 a4 a5 m6
          else
            F_X9_choice_197 (F_X9_choice_56  f) a1 a2 a3 a4 a5 m6)
        else
          F_X9_choice_109 (F_X9_choice_56  f) a1 a2 a3 a4 a5 m2)))
set_option maxRecDepth 100000 in
set_option maxHeartbeats 4000000 in
theorem t_X9_choice_56 {pp : Program} {ll : Launch} {ee : Env} {ss : State} {mm : MethodId} {aa : Array Value} {bb : List Frame} {me : Method} {co : Code} {cx : CX}     (C : CM pp ss mm aa me co cX9_choice 7 RX9 cx ((some .int)))    : ∀ (f : Nat) (a1 : Int32) (a2 : Int32) (a3 : Int32) (a4 : Int32) (a5 : Int32) (m : Mm), TI pp ll ee rm_X9_choice ss mm aa bb me co 7 cx 56 [(0, .ref (cx.2.2.1 + 113)), (1, .int a1), (2, .int a2), (3, .int a3), (4, .int a4), (5, .int a5)] [] m (F_X9_choice_56  f a1 a2 a3 a4 a5 m) := by
  intro f
  induction f with
  | zero => exact fun _ _ _ _ _ _ => T_none
  | succ f ih =>
    intro a1 a2 a3 a4 a5 m
    unfold F_X9_choice_56
    refine T_iload C.1 dX9_choice_56 5 rfl ?_
    refine T_aload_n C.1 dX9_choice_58 0 rfl ?_
    refine T_getI C.1 fd_X9_155 (fun _ _ _ _ => rfl) sh113 le113 dX9_choice_59 ?_
    refine T_icmp_ge (tgt := 203) C.1 dX9_choice_62 (by decide) ?_ ?_
    · refine T_iload_n C.1 dX9_choice_203 3 rfl ?_
      exact T_iret C.1 C.2.1 C.2.2 dX9_choice_204
    · refine T_aload_n C.1 dX9_choice_65 0 rfl ?_
      refine T_iload_n C.1 dX9_choice_66 1 rfl ?_
      refine T_iload C.1 dX9_choice_67 5 rfl ?_
      refine T_callVI (rm := rm_X9_mayTake) [.int a1, .int a5] [] C.1 dX9_choice_69 mw_X9_mayTake wm_6_64 wm_6_66 wm_p_60 ⟨Nat.le_of_ble_eq_true rfl, Nat.le_of_ble_eq_true rfl⟩ ⟨rfl, rfl⟩ ⟨Nat.zero_le _, Nat.zero_le _⟩ rfl rfl (Nat.le_of_ble_eq_true rfl) sh113 le113 ⟨rfl, rfl⟩ (c_X9_mayTake ll cx a1 a5 m) (fun v1 m2 => ?_)
      refine T_if_eq (tgt := 197) C.1 dX9_choice_72 (by decide) ?_ ?_
      · exact T_sub [0, 1, 2, 3, 4, 5] rfl (t_X9_choice_197 C (ih) a1 a2 a3 a4 a5 m2)
      · refine T_aload_n C.1 dX9_choice_75 0 rfl ?_
        refine T_getR (x := 116) C.1 fd_X9_16 (fun _ _ _ _ => rfl) sh113 le113 (fun _ h => h) rfl (by decide) dX9_choice_76 ?_
        refine T_iload_n C.1 dX9_choice_79 2 rfl ?_
        refine T_iald C.1 dX9_choice_80 sh116 le116 (fun j3 => ?_)
        refine T_iconst C.1 dX9_choice_81 ?_
        refine T_icmp_ne (tgt := 109) C.1 dX9_choice_82 (by decide) ?_ ?_
        · exact T_sub [0, 1, 2, 3, 4, 5] rfl (t_X9_choice_109 C (ih) a1 a2 a3 a4 a5 m2)
        · refine T_aload_n C.1 dX9_choice_85 0 rfl ?_
          refine T_getR (x := 114) C.1 fd_X9_7 (fun _ _ _ _ => rfl) sh113 le113 (fun _ h => h) rfl (by decide) dX9_choice_86 ?_
          refine T_bipush C.1 dX9_choice_89 rfl ?_
          refine T_iload_n C.1 dX9_choice_91 2 rfl ?_
          refine T_imul C.1 dX9_choice_92 ?_
          refine T_iload C.1 dX9_choice_93 5 rfl ?_
          refine T_iadd C.1 dX9_choice_95 ?_
          refine T_iald C.1 dX9_choice_96 sh114 le114 (fun j4 => ?_)
          refine T_aload_n C.1 dX9_choice_97 0 rfl ?_
          refine T_iload_n C.1 dX9_choice_98 1 rfl ?_
          refine T_iload_n C.1 dX9_choice_99 2 rfl ?_
          refine T_callVI (rm := rm_X9_guessOf) [.int a1, .int a2] [.int (gI m2 114 j4)] C.1 dX9_choice_100 mw_X9_guessOf wm_6_88 wm_6_90 wm_p_65 ⟨Nat.le_of_ble_eq_true rfl, Nat.le_of_ble_eq_true rfl⟩ ⟨rfl, rfl⟩ ⟨Nat.zero_le _, Nat.zero_le _⟩ rfl rfl (Nat.le_of_ble_eq_true rfl) sh113 le113 ⟨rfl, rfl⟩ (c_X9_guessOf ll cx a1 a2 m2) (fun v5 m6 => ?_)
          refine T_icmp_gt (tgt := 109) C.1 dX9_choice_103 (by decide) ?_ ?_
          · exact T_sub [0, 1, 2, 3, 4, 5] rfl (t_X9_choice_109 C (ih) a1 a2 a3 a4 a5 m6)
          · refine T_goto (tgt := 197) C.1 dX9_choice_106 (by decide) ?_
            exact T_sub [0, 1, 2, 3, 4, 5] rfl (t_X9_choice_197 C (ih) a1 a2 a3 a4 a5 m6)
def F_X9_choice_51  (a1 : Int32) (a2 : Int32) (a3 : Int32) (a4 : Int32) (m : Mm) : Option (Int32 × Mm) :=
  F_X9_choice_56 FU a1 a2 a3 a4 (iI 0) m
set_option maxRecDepth 100000 in
set_option maxHeartbeats 4000000 in
theorem t_X9_choice_51 {pp : Program} {ll : Launch} {ee : Env} {ss : State} {mm : MethodId} {aa : Array Value} {bb : List Frame} {me : Method} {co : Code} {cx : CX}     (C : CM pp ss mm aa me co cX9_choice 7 RX9 cx ((some .int)))    (a1 : Int32) (a2 : Int32) (a3 : Int32) (a4 : Int32) (m : Mm) : TI pp ll ee rm_X9_choice ss mm aa bb me co 7 cx 51 [(0, .ref (cx.2.2.1 + 113)), (1, .int a1), (2, .int a2), (3, .int a3)] [.int a4] m (F_X9_choice_51  a1 a2 a3 a4 m) := by
  unfold F_X9_choice_51
  refine T_istore (lv' := [(4, .int a4), (0, .ref (cx.2.2.1 + 113)), (1, .int a1), (2, .int a2), (3, .int a3)]) C.1 dX9_choice_51 (by decide) rfl ?_
  refine T_iconst C.1 dX9_choice_53 ?_
  refine T_istore (lv' := [(5, .int (iI 0)), (4, .int a4), (0, .ref (cx.2.2.1 + 113)), (1, .int a1), (2, .int a2), (3, .int a3)]) C.1 dX9_choice_54 (by decide) rfl ?_
  exact T_sub [2, 3, 4, 5, 1, 0] rfl (t_X9_choice_56 C FU a1 a2 a3 a4 (iI 0) m)
def F_X9_choice  (x1 : Int32) (m : Mm) : Option (Int32 × Mm) :=
  rd 2 x1 fun j1 =>
  nm (gI m 121 j1) fun v2 =>
  rd 7 v2 fun j3 =>
  (if (gI m 116 j3) = (iI 2) then
    bnd (F_X9_lawsNumber x1 v2 (iI (-1)) m) fun v7 m8 =>
    F_X9_choice_51 x1 v2 (iI (-1)) v7 m8
  else
    rd 7 v2 fun j4 =>
    (if (gI m 116 j4) = (iI 1) then
      F_X9_choice_51 x1 v2 (iI (-1)) (iI (-1000)) m
    else
      bnd (F_X9_guessOf x1 v2 m) fun v5 m6 =>
      F_X9_choice_51 x1 v2 (iI (-1)) v5 m6))
set_option maxRecDepth 100000 in
set_option maxHeartbeats 4000000 in
theorem c_X9_choice (ll : Launch) (cx : CX) (x1 : Int32) (m : Mm) : MT ll yX9_choice cX9_choice 7 ((some .int)) rm_X9_choice cx NN NN Lay cvI 0 0 [.ref (cx.2.2.1 + 113), .int x1] m (F_X9_choice x1 m) := by
  refine MT_of (by decide) (Nat.le_of_ble_eq_true rfl) ?_
  intro pp ee ss mm aa bb me co hK hr hk hn
  have C : CM pp ss mm aa me co cX9_choice 7 RX9 cx ((some .int)) := ⟨hK, hr, hk⟩
  show TI pp ll ee rm_X9_choice ss mm aa bb me co 7 cx 0 [(0, .ref (cx.2.2.1 + 113)), (1, .int x1)] [] m (F_X9_choice x1 m)
  unfold F_X9_choice
  refine T_aload_n C.1 dX9_choice_0 0 rfl ?_
  refine T_getR (x := 121) C.1 fd_X9_35 (fun _ _ _ _ => rfl) sh113 le113 (fun _ h => h) rfl (by decide) dX9_choice_1 ?_
  refine T_iload_n C.1 dX9_choice_4 1 rfl ?_
  refine T_iald C.1 dX9_choice_5 sh121 le121 (fun j1 => ?_)
  refine T_istore_nN C.1 (fun v2 => [(2, .int v2), (0, .ref (cx.2.2.1 + 113)), (1, .int x1)]) dX9_choice_6 (by decide) (fun _ => rfl) (fun v2 => ?_)
  refine T_iconst C.1 dX9_choice_7 ?_
  refine T_istore_n (lv' := [(3, .int (iI (-1))), (2, .int v2), (0, .ref (cx.2.2.1 + 113)), (1, .int x1)]) C.1 dX9_choice_8 (by decide) rfl ?_
  refine T_aload_n C.1 dX9_choice_9 2 rfl ?_
  refine T_getR (x := 116) C.1 fd_X9_16 (fun _ _ _ _ => rfl) sh113 le113 (fun _ h => h) rfl (by decide) dX9_choice_10 ?_
  refine T_iload_n C.1 dX9_choice_13 1 rfl ?_
  refine T_iald C.1 dX9_choice_14 sh116 le116 (fun j3 => ?_)
  refine T_iconst C.1 dX9_choice_15 ?_
  refine T_icmp_ne (tgt := 29) C.1 dX9_choice_16 (by decide) ?_ ?_
  · refine T_aload_n C.1 dX9_choice_29 2 rfl ?_
    refine T_getR (x := 116) C.1 fd_X9_16 (fun _ _ _ _ => rfl) sh113 le113 (fun _ h => h) rfl (by decide) dX9_choice_30 ?_
    refine T_iload_n C.1 dX9_choice_33 1 rfl ?_
    refine T_iald C.1 dX9_choice_34 sh116 le116 (fun j4 => ?_)
    refine T_iconst C.1 dX9_choice_35 ?_
    refine T_icmp_ne (tgt := 45) C.1 dX9_choice_36 (by decide) ?_ ?_
    · refine T_aload_n C.1 dX9_choice_45 2 rfl ?_
      refine T_iload_n C.1 dX9_choice_46 3 rfl ?_
      refine T_iload_n C.1 dX9_choice_47 1 rfl ?_
      refine T_callVI (rm := rm_X9_guessOf) [.int x1, .int v2] [] C.1 dX9_choice_48 mw_X9_guessOf wm_6_88 wm_6_90 wm_p_65 ⟨Nat.le_of_ble_eq_true rfl, Nat.le_of_ble_eq_true rfl⟩ ⟨rfl, rfl⟩ ⟨Nat.zero_le _, Nat.zero_le _⟩ rfl rfl (Nat.le_of_ble_eq_true rfl) sh113 le113 ⟨rfl, rfl⟩ (c_X9_guessOf ll cx x1 v2 m) (fun v5 m6 => ?_)
      exact T_sub [2, 3, 1, 0] rfl (t_X9_choice_51 C x1 v2 (iI (-1)) v5 m6)
    · refine T_sipush C.1 dX9_choice_39 rfl ?_
      refine T_goto (tgt := 51) C.1 dX9_choice_42 (by decide) ?_
      exact T_sub [2, 3, 1, 0] rfl (t_X9_choice_51 C x1 v2 (iI (-1)) (iI (-1000)) m)
  · refine T_aload_n C.1 dX9_choice_19 2 rfl ?_
    refine T_iload_n C.1 dX9_choice_20 3 rfl ?_
    refine T_iload_n C.1 dX9_choice_21 1 rfl ?_
    refine T_iconst C.1 dX9_choice_22 ?_
    refine T_callVI (rm := rm_X9_lawsNumber) [.int x1, .int v2, .int (iI (-1))] [] C.1 dX9_choice_23 mw_X9_lawsNumber wm_6_84 wm_6_86 wm_p_64 ⟨Nat.le_of_ble_eq_true rfl, Nat.le_of_ble_eq_true rfl⟩ ⟨rfl, rfl⟩ ⟨Nat.zero_le _, Nat.zero_le _⟩ rfl rfl (Nat.le_of_ble_eq_true rfl) sh113 le113 ⟨rfl, rfl⟩ (c_X9_lawsNumber ll cx x1 v2 (iI (-1)) m) (fun v7 m8 => ?_)
    refine T_goto (tgt := 51) C.1 dX9_choice_26 (by decide) ?_
    exact T_sub [2, 3, 1, 0] rfl (t_X9_choice_51 C x1 v2 (iI (-1)) v7 m8)
def rm_X9_goTurn : Room := { frames := 6, cells := 0, slots := 0, locals := 162 }
def F_X9_goTurn  (x1 : Int32) (m : Mm) : Option (Int32 × Mm) :=
  bnd (F_X9_choice x1 m) fun v1 m2 =>
  (if iI 0 ≤ v1 then
    bnd (F_X9_takesAt x1 v1 m2) fun v3 m4 =>
    some (v1, m4)
  else
    bnd (F_X9_opensAt x1 m2) fun v5 m6 =>
    some (v5, m6))
set_option maxRecDepth 100000 in
set_option maxHeartbeats 4000000 in
theorem c_X9_goTurn (ll : Launch) (cx : CX) (x1 : Int32) (m : Mm) : MT ll yX9_goTurn cX9_goTurn 3 ((some .int)) rm_X9_goTurn cx NN NN Lay cvI 0 0 [.ref (cx.2.2.1 + 113), .int x1] m (F_X9_goTurn x1 m) := by
  refine MT_of (by decide) (Nat.le_of_ble_eq_true rfl) ?_
  intro pp ee ss mm aa bb me co hK hr hk hn
  have C : CM pp ss mm aa me co cX9_goTurn 3 RX9 cx ((some .int)) := ⟨hK, hr, hk⟩
  show TI pp ll ee rm_X9_goTurn ss mm aa bb me co 3 cx 0 [(0, .ref (cx.2.2.1 + 113)), (1, .int x1)] [] m (F_X9_goTurn x1 m)
  unfold F_X9_goTurn
  refine T_aload_n C.1 dX9_goTurn_0 0 rfl ?_
  refine T_iload_n C.1 dX9_goTurn_1 1 rfl ?_
  refine T_callVI (rm := rm_X9_choice) [.int x1] [] C.1 dX9_goTurn_2 mw_X9_choice wm_6_80 wm_6_82 wm_p_63 ⟨Nat.le_of_ble_eq_true rfl, Nat.le_of_ble_eq_true rfl⟩ ⟨rfl, rfl⟩ ⟨Nat.zero_le _, Nat.zero_le _⟩ rfl rfl (Nat.le_of_ble_eq_true rfl) sh113 le113 ⟨rfl, rfl⟩ (c_X9_choice ll cx x1 m) (fun v1 m2 => ?_)
  refine T_istore_n (lv' := [(2, .int v1), (0, .ref (cx.2.2.1 + 113)), (1, .int x1)]) C.1 dX9_goTurn_5 (by decide) rfl ?_
  refine T_iload_n C.1 dX9_goTurn_6 0 rfl ?_
  refine T_if_ge (tgt := 16) C.1 dX9_goTurn_7 (by decide) ?_ ?_
  · refine T_aload_n C.1 dX9_goTurn_16 1 rfl ?_
    refine T_iload_n C.1 dX9_goTurn_17 2 rfl ?_
    refine T_iload_n C.1 dX9_goTurn_18 0 rfl ?_
    refine T_callVI (rm := rm_X9_takesAt) [.int x1, .int v1] [] C.1 dX9_goTurn_19 mw_X9_takesAt wm_6_68 wm_6_70 wm_p_61 ⟨Nat.le_of_ble_eq_true rfl, Nat.le_of_ble_eq_true rfl⟩ ⟨rfl, rfl⟩ ⟨Nat.zero_le _, Nat.zero_le _⟩ rfl rfl (Nat.le_of_ble_eq_true rfl) sh113 le113 ⟨rfl, rfl⟩ (c_X9_takesAt ll cx x1 v1 m2) (fun v3 m4 => ?_)
    refine T_pop C.1 dX9_goTurn_22 rfl ?_
    refine T_iload_n C.1 dX9_goTurn_23 0 rfl ?_
    exact T_iret C.1 C.2.1 C.2.2 dX9_goTurn_24
  · refine T_aload_n C.1 dX9_goTurn_10 1 rfl ?_
    refine T_iload_n C.1 dX9_goTurn_11 2 rfl ?_
    refine T_callVI (rm := rm_X9_opensAt) [.int x1] [] C.1 dX9_goTurn_12 mw_X9_opensAt wm_6_48 wm_6_50 wm_p_57 ⟨Nat.le_of_ble_eq_true rfl, Nat.le_of_ble_eq_true rfl⟩ ⟨rfl, rfl⟩ ⟨Nat.zero_le _, Nat.zero_le _⟩ rfl rfl (Nat.le_of_ble_eq_true rfl) sh113 le113 ⟨rfl, rfl⟩ (c_X9_opensAt ll cx x1 m2) (fun v5 m6 => ?_)
    exact T_iret C.1 C.2.1 C.2.2 dX9_goTurn_15
def rm_X9_againChoice : Room := { frames := 2, cells := 0, slots := 0, locals := 63 }
def F_X9_againChoice_97 (k_20 : Int32 → Int32 → Int32 → Int32 → Int32 → Mm → Option (Int32 × Mm)) (a1 : Int32) (a2 : Int32) (a3 : Int32) (a4 : Int32) (a5 : Int32) (m : Mm) : Option (Int32 × Mm) :=
  nm (a5 + (iI 1)) fun v1 =>
  k_20 a1 a2 a3 a4 v1 m
set_option maxRecDepth 100000 in
set_option maxHeartbeats 4000000 in
theorem t_X9_againChoice_97 {pp : Program} {ll : Launch} {ee : Env} {ss : State} {mm : MethodId} {aa : Array Value} {bb : List Frame} {me : Method} {co : Code} {cx : CX}  {k_20 : Int32 → Int32 → Int32 → Int32 → Int32 → Mm → Option (Int32 × Mm)}   (C : CM pp ss mm aa me co cX9_againChoice 6 RX9 cx ((some .int)))   (hk_20 : ∀ (a1 : Int32) (a2 : Int32) (a3 : Int32) (a4 : Int32) (a5 : Int32) (m : Mm), TI pp ll ee rm_X9_againChoice ss mm aa bb me co 6 cx 20 [(0, .ref (cx.2.2.1 + 113)), (1, .int a1), (2, .int a2), (3, .int a3), (4, .int a4), (5, .int a5)] [] m (k_20 a1 a2 a3 a4 a5 m)) (a1 : Int32) (a2 : Int32) (a3 : Int32) (a4 : Int32) (a5 : Int32) (m : Mm) : TI pp ll ee rm_X9_againChoice ss mm aa bb me co 6 cx 97 [(0, .ref (cx.2.2.1 + 113)), (1, .int a1), (2, .int a2), (3, .int a3), (4, .int a4), (5, .int a5)] [] m (F_X9_againChoice_97 k_20 a1 a2 a3 a4 a5 m) := by
  unfold F_X9_againChoice_97
  refine T_iincN C.1 (fun v1 => [(5, .int v1), (0, .ref (cx.2.2.1 + 113)), (1, .int a1), (2, .int a2), (3, .int a3), (4, .int a4)]) dX9_againChoice_97 5 rfl (by decide) (fun _ => rfl) (fun v1 => ?_)
  refine T_goto (tgt := 20) C.1 dX9_againChoice_100 (by decide) ?_
  exact T_sub [1, 2, 3, 4, 5, 0] rfl (hk_20 a1 a2 a3 a4 v1 m)
def F_X9_againChoice_85 (k_20 : Int32 → Int32 → Int32 → Int32 → Int32 → Mm → Option (Int32 × Mm)) (a1 : Int32) (a2 : Int32) (a3 : Int32) (a4 : Int32) (a5 : Int32) (a6 : Int32) (a7 : Int32) (a8 : Int32) (m : Mm) : Option (Int32 × Mm) :=
  rd 49 (a7 + a6) fun j1 =>
  (if (gI m 114 j1) < a8 then
    F_X9_againChoice_97 (k_20) a1 a2 a3 a5 a5 m
  else
    F_X9_againChoice_97 (k_20) a1 a2 a3 a4 a5 m)
set_option maxRecDepth 100000 in
set_option maxHeartbeats 4000000 in
theorem t_X9_againChoice_85 {pp : Program} {ll : Launch} {ee : Env} {ss : State} {mm : MethodId} {aa : Array Value} {bb : List Frame} {me : Method} {co : Code} {cx : CX}  {k_20 : Int32 → Int32 → Int32 → Int32 → Int32 → Mm → Option (Int32 × Mm)}   (C : CM pp ss mm aa me co cX9_againChoice 6 RX9 cx ((some .int)))   (hk_20 : ∀ (a1 : Int32) (a2 : Int32) (a3 : Int32) (a4 : Int32) (a5 : Int32) (m : Mm), TI pp ll ee rm_X9_againChoice ss mm aa bb me co 6 cx 20 [(0, .ref (cx.2.2.1 + 113)), (1, .int a1), (2, .int a2), (3, .int a3), (4, .int a4), (5, .int a5)] [] m (k_20 a1 a2 a3 a4 a5 m)) (a1 : Int32) (a2 : Int32) (a3 : Int32) (a4 : Int32) (a5 : Int32) (a6 : Int32) (a7 : Int32) (a8 : Int32) (m : Mm) : TI pp ll ee rm_X9_againChoice ss mm aa bb me co 6 cx 85 [(0, .ref (cx.2.2.1 + 113)), (1, .int a1), (2, .int a2), (3, .int a3), (4, .int a4), (5, .int a5)] [.int a6, .int a7, .ref (cx.2.2.1 + 114), .int a8] m (F_X9_againChoice_85 k_20 a1 a2 a3 a4 a5 a6 a7 a8 m) := by
  unfold F_X9_againChoice_85
  refine T_iadd C.1 dX9_againChoice_85 ?_
  refine T_iald C.1 dX9_againChoice_86 sh114 le114 (fun j1 => ?_)
  refine T_icmp_gt (tgt := 93) C.1 dX9_againChoice_87 (by decide) ?_ ?_
  · refine T_iload C.1 dX9_againChoice_93 5 rfl ?_
    refine T_istore (lv' := [(4, .int a5), (0, .ref (cx.2.2.1 + 113)), (1, .int a1), (2, .int a2), (3, .int a3), (5, .int a5)]) C.1 dX9_againChoice_95 (by decide) rfl ?_
    exact T_sub [1, 2, 3, 4, 0, 5] rfl (t_X9_againChoice_97 C (hk_20) a1 a2 a3 a5 a5 m)
  · refine T_goto (tgt := 97) C.1 dX9_againChoice_90 (by decide) ?_
    exact T_sub [0, 1, 2, 3, 4, 5] rfl (t_X9_againChoice_97 C (hk_20) a1 a2 a3 a4 a5 m)
def F_X9_againChoice_20  : Nat → Int32 → Int32 → Int32 → Int32 → Int32 → Mm → Option (Int32 × Mm)
  | 0, _, _, _, _, _, _ => none
  | f + 1, a1, a2, a3, a4, a5, m =>
    (if (gI m 113 1) ≤ a5 then
      some (a4, m)
    else
      (if a5 = a3 then
        F_X9_againChoice_97 (F_X9_againChoice_20  f) a1 a2 a3 a4 a5 m
      else
        rd 14 (((iI 7) * a1) + a5) fun j1 =>
        (if (gI m 113 5) ≤ (gI m 119 j1) then
          F_X9_againChoice_97 (F_X9_againChoice_20  f) a1 a2 a3 a4 a5 m
        else
          rd 49 (((iI 7) * a2) + a5) fun j2 =>
          (if iI 0 ≤ a4 then
            F_X9_againChoice_85 (F_X9_againChoice_20  f) a1 a2 a3 a4 a5 a4 ((iI 7) * a2) (gI m 114 j2) m
          else
            F_X9_againChoice_85 (F_X9_againChoice_20  f) a1 a2 a3 a4 a5 a3 ((iI 7) * a2) (gI m 114 j2) m))))
set_option maxRecDepth 100000 in
set_option maxHeartbeats 4000000 in
theorem t_X9_againChoice_20 {pp : Program} {ll : Launch} {ee : Env} {ss : State} {mm : MethodId} {aa : Array Value} {bb : List Frame} {me : Method} {co : Code} {cx : CX}     (C : CM pp ss mm aa me co cX9_againChoice 6 RX9 cx ((some .int)))    : ∀ (f : Nat) (a1 : Int32) (a2 : Int32) (a3 : Int32) (a4 : Int32) (a5 : Int32) (m : Mm), TI pp ll ee rm_X9_againChoice ss mm aa bb me co 6 cx 20 [(0, .ref (cx.2.2.1 + 113)), (1, .int a1), (2, .int a2), (3, .int a3), (4, .int a4), (5, .int a5)] [] m (F_X9_againChoice_20  f a1 a2 a3 a4 a5 m) := by
  intro f
  induction f with
  | zero => exact fun _ _ _ _ _ _ => T_none
  | succ f ih =>
    intro a1 a2 a3 a4 a5 m
    unfold F_X9_againChoice_20
    refine T_iload C.1 dX9_againChoice_20 5 rfl ?_
    refine T_aload_n C.1 dX9_againChoice_22 0 rfl ?_
    refine T_getI C.1 fd_X9_155 (fun _ _ _ _ => rfl) sh113 le113 dX9_againChoice_23 ?_
    refine T_icmp_ge (tgt := 103) C.1 dX9_againChoice_26 (by decide) ?_ ?_
    · refine T_iload C.1 dX9_againChoice_103 4 rfl ?_
      exact T_iret C.1 C.2.1 C.2.2 dX9_againChoice_105
    · refine T_iload C.1 dX9_againChoice_29 5 rfl ?_
      refine T_iload_n C.1 dX9_againChoice_31 3 rfl ?_
      refine T_icmp_eq (tgt := 97) C.1 dX9_againChoice_32 (by decide) ?_ ?_
      · exact T_sub [0, 1, 2, 3, 4, 5] rfl (t_X9_againChoice_97 C (ih) a1 a2 a3 a4 a5 m)
      · refine T_aload_n C.1 dX9_againChoice_35 0 rfl ?_
        refine T_getR (x := 119) C.1 fd_X9_29 (fun _ _ _ _ => rfl) sh113 le113 (fun _ h => h) rfl (by decide) dX9_againChoice_36 ?_
        refine T_bipush C.1 dX9_againChoice_39 rfl ?_
        refine T_iload_n C.1 dX9_againChoice_41 1 rfl ?_
        refine T_imul C.1 dX9_againChoice_42 ?_
        refine T_iload C.1 dX9_againChoice_43 5 rfl ?_
        refine T_iadd C.1 dX9_againChoice_45 ?_
        refine T_iald C.1 dX9_againChoice_46 sh119 le119 (fun j1 => ?_)
        refine T_aload_n C.1 dX9_againChoice_47 0 rfl ?_
        refine T_getI C.1 fd_X9_19 (fun _ _ _ _ => rfl) sh113 le113 dX9_againChoice_48 ?_
        refine T_icmp_ge (tgt := 97) C.1 dX9_againChoice_51 (by decide) ?_ ?_
        · exact T_sub [0, 1, 2, 3, 4, 5] rfl (t_X9_againChoice_97 C (ih) a1 a2 a3 a4 a5 m)
        · refine T_aload_n C.1 dX9_againChoice_54 0 rfl ?_
          refine T_getR (x := 114) C.1 fd_X9_7 (fun _ _ _ _ => rfl) sh113 le113 (fun _ h => h) rfl (by decide) dX9_againChoice_55 ?_
          refine T_bipush C.1 dX9_againChoice_58 rfl ?_
          refine T_iload_n C.1 dX9_againChoice_60 2 rfl ?_
          refine T_imul C.1 dX9_againChoice_61 ?_
          refine T_iload C.1 dX9_againChoice_62 5 rfl ?_
          refine T_iadd C.1 dX9_againChoice_64 ?_
          refine T_iald C.1 dX9_againChoice_65 sh114 le114 (fun j2 => ?_)
          refine T_aload_n C.1 dX9_againChoice_66 0 rfl ?_
          refine T_getR (x := 114) C.1 fd_X9_7 (fun _ _ _ _ => rfl) sh113 le113 (fun _ h => h) rfl (by decide) dX9_againChoice_67 ?_
          refine T_bipush C.1 dX9_againChoice_70 rfl ?_
          refine T_iload_n C.1 dX9_againChoice_72 2 rfl ?_
          refine T_imul C.1 dX9_againChoice_73 ?_
          refine T_iload C.1 dX9_againChoice_74 4 rfl ?_
          refine T_if_ge (tgt := 83) C.1 dX9_againChoice_76 (by decide) ?_ ?_
          · refine T_iload C.1 dX9_againChoice_83 4 rfl ?_
            exact T_sub [0, 1, 2, 3, 4, 5] rfl (t_X9_againChoice_85 C (ih) a1 a2 a3 a4 a5 a4 ((iI 7) * a2) (gI m 114 j2) m)
          · refine T_iload_n C.1 dX9_againChoice_79 3 rfl ?_
            refine T_goto (tgt := 85) C.1 dX9_againChoice_80 (by decide) ?_
            exact T_sub [0, 1, 2, 3, 4, 5] rfl (t_X9_againChoice_85 C (ih) a1 a2 a3 a4 a5 a3 ((iI 7) * a2) (gI m 114 j2) m)
def F_X9_againChoice  (x1 : Int32) (m : Mm) : Option (Int32 × Mm) :=
  rd 7 (iI 0) fun j1 =>
  nm (gI m 117 j1) fun v2 =>
  bnd (F_X9_hasIn x1 v2 m) fun v3 m4 =>
  F_X9_againChoice_20 FU x1 v2 v3 (iI (-1)) (iI 0) m4
set_option maxRecDepth 100000 in
set_option maxHeartbeats 4000000 in
theorem c_X9_againChoice (ll : Launch) (cx : CX) (x1 : Int32) (m : Mm) : MT ll yX9_againChoice cX9_againChoice 6 ((some .int)) rm_X9_againChoice cx NN NN Lay cvI 0 0 [.ref (cx.2.2.1 + 113), .int x1] m (F_X9_againChoice x1 m) := by
  refine MT_of (by decide) (Nat.le_of_ble_eq_true rfl) ?_
  intro pp ee ss mm aa bb me co hK hr hk hn
  have C : CM pp ss mm aa me co cX9_againChoice 6 RX9 cx ((some .int)) := ⟨hK, hr, hk⟩
  show TI pp ll ee rm_X9_againChoice ss mm aa bb me co 6 cx 0 [(0, .ref (cx.2.2.1 + 113)), (1, .int x1)] [] m (F_X9_againChoice x1 m)
  unfold F_X9_againChoice
  refine T_aload_n C.1 dX9_againChoice_0 0 rfl ?_
  refine T_getR (x := 117) C.1 fd_X9_23 (fun _ _ _ _ => rfl) sh113 le113 (fun _ h => h) rfl (by decide) dX9_againChoice_1 ?_
  refine T_iconst C.1 dX9_againChoice_4 ?_
  refine T_iald C.1 dX9_againChoice_5 sh117 le117 (fun j1 => ?_)
  refine T_istore_nN C.1 (fun v2 => [(2, .int v2), (0, .ref (cx.2.2.1 + 113)), (1, .int x1)]) dX9_againChoice_6 (by decide) (fun _ => rfl) (fun v2 => ?_)
  refine T_aload_n C.1 dX9_againChoice_7 1 rfl ?_
  refine T_iload_n C.1 dX9_againChoice_8 2 rfl ?_
  refine T_iload_n C.1 dX9_againChoice_9 0 rfl ?_
  refine T_callVI (rm := rm_X9_hasIn) [.int x1, .int v2] [] C.1 dX9_againChoice_10 mw_X9_hasIn wm_5_202 wm_5_204 wm_p_42 ⟨Nat.le_of_ble_eq_true rfl, Nat.le_of_ble_eq_true rfl⟩ ⟨rfl, rfl⟩ ⟨Nat.zero_le _, Nat.zero_le _⟩ rfl rfl (Nat.le_of_ble_eq_true rfl) sh113 le113 ⟨rfl, rfl⟩ (c_X9_hasIn ll cx x1 v2 m) (fun v3 m4 => ?_)
  refine T_istore_n (lv' := [(3, .int v3), (2, .int v2), (0, .ref (cx.2.2.1 + 113)), (1, .int x1)]) C.1 dX9_againChoice_13 (by decide) rfl ?_
  refine T_iconst C.1 dX9_againChoice_14 ?_
  refine T_istore (lv' := [(4, .int (iI (-1))), (3, .int v3), (2, .int v2), (0, .ref (cx.2.2.1 + 113)), (1, .int x1)]) C.1 dX9_againChoice_15 (by decide) rfl ?_
  refine T_iconst C.1 dX9_againChoice_17 ?_
  refine T_istore (lv' := [(5, .int (iI 0)), (4, .int (iI (-1))), (3, .int v3), (2, .int v2), (0, .ref (cx.2.2.1 + 113)), (1, .int x1)]) C.1 dX9_againChoice_18 (by decide) rfl ?_
  exact T_sub [4, 5, 3, 2, 1, 0] rfl (t_X9_againChoice_20 C FU x1 v2 v3 (iI (-1)) (iI 0) m4)
