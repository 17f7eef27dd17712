def rm_X0_add : Room := { frames := 1, cells := 0, slots := 0, locals := 40 }
def F_X0_add  (x1 : Int32) (m : Mm) : Option (Int32 × Mm) :=
  (if (gI m 100 1) < (iI 50) then
    wrI 50 m 101 (gI m 100 1) x1 fun m1 =>
    nm (pI m1 100 1 ((gI m1 100 1) + (iI 1))) fun m2 =>
    some (((gI m2 100 1) - (iI 1)), m2)
  else
    some ((iI (-3)), m))
set_option maxRecDepth 100000 in
set_option maxHeartbeats 4000000 in
theorem c_X0_add (ll : Launch) (cx : CX) (x1 : Int32) (m : Mm) : MT ll yX0_add cX0_add 2 ((some .int)) rm_X0_add cx NN NN Lay cvI 0 0 [.ref (cx.2.2.1 + 100), .int x1] m (F_X0_add x1 m) := by
  refine MT_of (by decide) (Nat.le_of_ble_eq_true rfl) ?_
  intro pp ee ss mm aa bb me co hK hr hk hn
  have C : CM pp ss mm aa me co cX0_add 2 RX0 cx ((some .int)) := ⟨hK, hr, hk⟩
  show TI pp ll ee rm_X0_add ss mm aa bb me co 2 cx 0 [(0, .ref (cx.2.2.1 + 100)), (1, .int x1)] [] m (F_X0_add x1 m)
  unfold F_X0_add
  refine T_aload_n C.1 dX0_add_0 0 rfl ?_
  refine T_getI C.1 fd_X0_15 (fun _ _ _ _ => rfl) sh100 le100 dX0_add_1 ?_
  refine T_bipush C.1 dX0_add_4 rfl ?_
  refine T_icmp_lt (tgt := 12) C.1 dX0_add_6 (by decide) ?_ ?_
  · refine T_aload_n C.1 dX0_add_12 0 rfl ?_
    refine T_getR (x := 101) C.1 fd_X0_11 (fun _ _ _ _ => rfl) sh100 le100 (fun _ h => h) rfl (by decide) dX0_add_13 ?_
    refine T_aload_n C.1 dX0_add_16 0 rfl ?_
    refine T_getI C.1 fd_X0_15 (fun _ _ _ _ => rfl) sh100 le100 dX0_add_17 ?_
    refine T_iload_n C.1 dX0_add_20 1 rfl ?_
    refine T_iast C.1 LyI_Lay sh101 le101 dX0_add_21 (fun m1 => ?_)
    refine T_aload_n C.1 dX0_add_22 0 rfl ?_
    refine T_dup C.1 dX0_add_23 rfl ?_
    refine T_getI C.1 fd_X0_15 (fun _ _ _ _ => rfl) sh100 le100 dX0_add_24 ?_
    refine T_iconst C.1 dX0_add_27 ?_
    refine T_iadd C.1 dX0_add_28 ?_
    refine T_putI C.1 LyI_Lay fd_X0_15 sh100 le100 dX0_add_29 (fun m2 => ?_)
    refine T_aload_n C.1 dX0_add_32 0 rfl ?_
    refine T_getI C.1 fd_X0_15 (fun _ _ _ _ => rfl) sh100 le100 dX0_add_33 ?_
    refine T_iconst C.1 dX0_add_36 ?_
    refine T_isub C.1 dX0_add_37 ?_
    exact T_iret C.1 C.2.1 C.2.2 dX0_add_38
  · refine T_bipush C.1 dX0_add_9 rfl ?_
    exact T_iret C.1 C.2.1 C.2.2 dX0_add_11
def rm_X0_isThere : Room := { frames := 1, cells := 0, slots := 0, locals := 40 }
def F_X0_isThere  (x1 : Int32) (m : Mm) : Option (Int32 × Mm) :=
  (if x1 < iI 0 then
    rz (iI 0) m
  else
    (if (gI m 100 1) ≤ x1 then
      rz (iI 0) m
    else
      rz (iI 1) m))
set_option maxRecDepth 100000 in
set_option maxHeartbeats 4000000 in
theorem c_X0_isThere (ll : Launch) (cx : CX) (x1 : Int32) (m : Mm) : MT ll yX0_isThere cX0_isThere 2 ((some .boolean)) rm_X0_isThere cx NN NN Lay cvI 0 0 [.ref (cx.2.2.1 + 100), .int x1] m (F_X0_isThere x1 m) := by
  refine MT_of (by decide) (Nat.le_of_ble_eq_true rfl) ?_
  intro pp ee ss mm aa bb me co hK hr hk hn
  have C : CM pp ss mm aa me co cX0_isThere 2 RX0 cx ((some .boolean)) := ⟨hK, hr, hk⟩
  show TI pp ll ee rm_X0_isThere ss mm aa bb me co 2 cx 0 [(0, .ref (cx.2.2.1 + 100)), (1, .int x1)] [] m (F_X0_isThere x1 m)
  unfold F_X0_isThere
  refine T_iload_n C.1 dX0_isThere_0 1 rfl ?_
  refine T_if_lt (tgt := 16) C.1 dX0_isThere_1 (by decide) ?_ ?_
  · refine T_iconst C.1 dX0_isThere_16 ?_
    exact T_zret C.1 C.2.1 C.2.2 dX0_isThere_17
  · refine T_iload_n C.1 dX0_isThere_4 1 rfl ?_
    refine T_aload_n C.1 dX0_isThere_5 0 rfl ?_
    refine T_getI C.1 fd_X0_15 (fun _ _ _ _ => rfl) sh100 le100 dX0_isThere_6 ?_
    refine T_icmp_ge (tgt := 16) C.1 dX0_isThere_9 (by decide) ?_ ?_
    · refine T_iconst C.1 dX0_isThere_16 ?_
      exact T_zret C.1 C.2.1 C.2.2 dX0_isThere_17
    · refine T_iconst C.1 dX0_isThere_12 ?_
      refine T_goto (tgt := 17) C.1 dX0_isThere_13 (by decide) ?_
      exact T_zret C.1 C.2.1 C.2.2 dX0_isThere_17
def rm_X0_kindOf : Room := { frames := 2, cells := 0, slots := 0, locals := 61 }
def F_X0_kindOf  (x1 : Int32) (m : Mm) : Option (Int32 × Mm) :=
  bnd (F_X0_isThere x1 m) fun v1 m2 =>
  (if v1 = iI 0 then
    some ((iI (-1)), m2)
  else
    rd 50 x1 fun j3 =>
    some ((gI m2 101 j3), m2))
set_option maxRecDepth 100000 in
set_option maxHeartbeats 4000000 in
theorem c_X0_kindOf (ll : Launch) (cx : CX) (x1 : Int32) (m : Mm) : MT ll yX0_kindOf cX0_kindOf 2 ((some .int)) rm_X0_kindOf cx NN NN Lay cvI 0 0 [.ref (cx.2.2.1 + 100), .int x1] m (F_X0_kindOf x1 m) := by
  refine MT_of (by decide) (Nat.le_of_ble_eq_true rfl) ?_
  intro pp ee ss mm aa bb me co hK hr hk hn
  have C : CM pp ss mm aa me co cX0_kindOf 2 RX0 cx ((some .int)) := ⟨hK, hr, hk⟩
  show TI pp ll ee rm_X0_kindOf ss mm aa bb me co 2 cx 0 [(0, .ref (cx.2.2.1 + 100)), (1, .int x1)] [] m (F_X0_kindOf x1 m)
  unfold F_X0_kindOf
  refine T_aload_n C.1 dX0_kindOf_0 0 rfl ?_
  refine T_iload_n C.1 dX0_kindOf_1 1 rfl ?_
  refine T_callVI (rm := rm_X0_isThere) [.int x1] [] C.1 dX0_kindOf_2 mw_X0_isThere wm_4_82 wm_4_83 wm_4_84 ⟨Nat.le_of_ble_eq_true rfl, Nat.le_of_ble_eq_true rfl⟩ ⟨rfl, rfl⟩ ⟨Nat.zero_le _, Nat.zero_le _⟩ rfl rfl (Nat.le_of_ble_eq_true rfl) sh100 le100 ⟨rfl, rfl⟩ (c_X0_isThere ll cx x1 m) (fun v1 m2 => ?_)
  refine T_if_eq (tgt := 17) C.1 dX0_kindOf_5 (by decide) ?_ ?_
  · refine T_iconst C.1 dX0_kindOf_17 ?_
    exact T_iret C.1 C.2.1 C.2.2 dX0_kindOf_18
  · refine T_aload_n C.1 dX0_kindOf_8 0 rfl ?_
    refine T_getR (x := 101) C.1 fd_X0_11 (fun _ _ _ _ => rfl) sh100 le100 (fun _ h => h) rfl (by decide) dX0_kindOf_9 ?_
    refine T_iload_n C.1 dX0_kindOf_12 1 rfl ?_
    refine T_iald C.1 dX0_kindOf_13 sh101 le101 (fun j3 => ?_)
    refine T_goto (tgt := 18) C.1 dX0_kindOf_14 (by decide) ?_
    exact T_iret C.1 C.2.1 C.2.2 dX0_kindOf_18
def rm_X0_isUnder : Room := { frames := 1, cells := 0, slots := 0, locals := 40 }
def F_X0_isUnder_4  : Nat → Int32 → Int32 → Int32 → Mm → Option (Int32 × Mm)
  | 0, _, _, _, _ => none
  | f + 1, a1, a2, a3, m =>
    (if (iI 8) ≤ a3 then
      rz (iI 0) m
    else
      (if a2 < iI 0 then
        rz (iI 0) m
      else
        (if (iI 8) ≤ a2 then
          rz (iI 0) m
        else
          (if a2 = a1 then
            rz (iI 1) m
          else
            rd 8 a2 fun j1 =>
            nm (tABV j1) fun v2 =>
            nm (a3 + (iI 1)) fun v3 =>
            F_X0_isUnder_4  f a1 v2 v3 m))))
set_option maxRecDepth 100000 in
set_option maxHeartbeats 4000000 in
theorem t_X0_isUnder_4 {pp : Program} {ll : Launch} {ee : Env} {ss : State} {mm : MethodId} {aa : Array Value} {bb : List Frame} {me : Method} {co : Code} {cx : CX}     (C : CM pp ss mm aa me co cX0_isUnder 4 RX0 cx ((some .boolean)))    : ∀ (f : Nat) (a1 : Int32) (a2 : Int32) (a3 : Int32) (m : Mm), TI pp ll ee rm_X0_isUnder ss mm aa bb me co 4 cx 4 [(1, .int a1), (2, .int a2), (3, .int a3)] [] m (F_X0_isUnder_4  f a1 a2 a3 m) := by
  intro f
  induction f with
  | zero => exact fun _ _ _ _ => T_none
  | succ f ih =>
    intro a1 a2 a3 m
    unfold F_X0_isUnder_4
    refine T_iload_n C.1 dX0_isUnder_4 2 rfl ?_
    refine T_bipush C.1 dX0_isUnder_5 rfl ?_
    refine T_icmp_ge (tgt := 39) C.1 dX0_isUnder_7 (by decide) ?_ ?_
    · refine T_iconst C.1 dX0_isUnder_39 ?_
      exact T_zret C.1 C.2.1 C.2.2 dX0_isUnder_40
    · refine T_iload_n C.1 dX0_isUnder_10 1 rfl ?_
      refine T_if_lt (tgt := 39) C.1 dX0_isUnder_11 (by decide) ?_ ?_
      · refine T_iconst C.1 dX0_isUnder_39 ?_
        exact T_zret C.1 C.2.1 C.2.2 dX0_isUnder_40
      · refine T_iload_n C.1 dX0_isUnder_14 1 rfl ?_
        refine T_bipush C.1 dX0_isUnder_15 rfl ?_
        refine T_icmp_ge (tgt := 39) C.1 dX0_isUnder_17 (by decide) ?_ ?_
        · refine T_iconst C.1 dX0_isUnder_39 ?_
          exact T_zret C.1 C.2.1 C.2.2 dX0_isUnder_40
        · refine T_iload_n C.1 dX0_isUnder_20 1 rfl ?_
          refine T_iload_n C.1 dX0_isUnder_21 0 rfl ?_
          refine T_icmp_ne (tgt := 27) C.1 dX0_isUnder_22 (by decide) ?_ ?_
          · refine T_getsA C.1 dX0_isUnder_27 wm_4_112 ?_
            refine T_iload_n C.1 dX0_isUnder_30 1 rfl ?_
            refine T_saldA C.1 dX0_isUnder_31 (fun j1 => ?_)
            refine T_istore_nN C.1 (fun v2 => [(2, .int v2), (1, .int a1), (3, .int a3)]) dX0_isUnder_32 (by decide) (fun _ => rfl) (fun v2 => ?_)
            refine T_iincN C.1 (fun v3 => [(3, .int v3), (2, .int v2), (1, .int a1)]) dX0_isUnder_33 2 rfl (by decide) (fun _ => rfl) (fun v3 => ?_)
            refine T_goto (tgt := 4) C.1 dX0_isUnder_36 (by decide) ?_
            exact T_sub [2, 1, 0] rfl (ih a1 v2 v3 m)
          · refine T_iconst C.1 dX0_isUnder_25 ?_
            exact T_zret C.1 C.2.1 C.2.2 dX0_isUnder_26
def F_X0_isUnder  (x1 : Int32) (x2 : Int32) (m : Mm) : Option (Int32 × Mm) :=
  F_X0_isUnder_4 FU x2 x1 (iI 0) m
set_option maxRecDepth 100000 in
set_option maxHeartbeats 4000000 in
theorem c_X0_isUnder (ll : Launch) (cx : CX) (x1 : Int32) (x2 : Int32) (m : Mm) : MT ll yX0_isUnder cX0_isUnder 4 ((some .boolean)) rm_X0_isUnder cx NN NN Lay cvI 0 0 [.int x1, .int x2] m (F_X0_isUnder x1 x2 m) := by
  refine MT_of (by decide) (Nat.le_of_ble_eq_true rfl) ?_
  intro pp ee ss mm aa bb me co hK hr hk hn
  have C : CM pp ss mm aa me co cX0_isUnder 4 RX0 cx ((some .boolean)) := ⟨hK, hr, hk⟩
  show TI pp ll ee rm_X0_isUnder ss mm aa bb me co 4 cx 0 [(0, .int x1), (1, .int x2)] [] m (F_X0_isUnder x1 x2 m)
  unfold F_X0_isUnder
  refine T_iload_n C.1 dX0_isUnder_0 0 rfl ?_
  refine T_istore_n (lv' := [(2, .int x1), (0, .int x1), (1, .int x2)]) C.1 dX0_isUnder_1 (by decide) rfl ?_
  refine T_iconst C.1 dX0_isUnder_2 ?_
  refine T_istore_n (lv' := [(3, .int (iI 0)), (2, .int x1), (0, .int x1), (1, .int x2)]) C.1 dX0_isUnder_3 (by decide) rfl ?_
  exact T_sub [3, 1, 0] rfl (t_X0_isUnder_4 C FU x2 x1 (iI 0) m)
def rm_X0_traced : Room := { frames := 1, cells := 0, slots := 0, locals := 40 }
def F_X0_traced  (x1 : Int32) (m : Mm) : Option (Int32 × Mm) :=
  (if x1 < iI 0 then
    some ((iI (-1)), m)
  else
    (if (gI m 100 3) ≤ x1 then
      some ((iI (-1)), m)
    else
      (if (iI 24) ≤ x1 then
        some ((iI (-1)), m)
      else
        rd 24 x1 fun j1 =>
        some ((gI m 102 j1), m))))
set_option maxRecDepth 100000 in
set_option maxHeartbeats 4000000 in
theorem c_X0_traced (ll : Launch) (cx : CX) (x1 : Int32) (m : Mm) : MT ll yX0_traced cX0_traced 2 ((some .int)) rm_X0_traced cx NN NN Lay cvI 0 0 [.ref (cx.2.2.1 + 100), .int x1] m (F_X0_traced x1 m) := by
  refine MT_of (by decide) (Nat.le_of_ble_eq_true rfl) ?_
  intro pp ee ss mm aa bb me co hK hr hk hn
  have C : CM pp ss mm aa me co cX0_traced 2 RX0 cx ((some .int)) := ⟨hK, hr, hk⟩
  show TI pp ll ee rm_X0_traced ss mm aa bb me co 2 cx 0 [(0, .ref (cx.2.2.1 + 100)), (1, .int x1)] [] m (F_X0_traced x1 m)
  unfold F_X0_traced
  refine T_iload_n C.1 dX0_traced_0 1 rfl ?_
  refine T_if_lt (tgt := 27) C.1 dX0_traced_1 (by decide) ?_ ?_
  · refine T_iconst C.1 dX0_traced_27 ?_
    exact T_iret C.1 C.2.1 C.2.2 dX0_traced_28
  · refine T_iload_n C.1 dX0_traced_4 1 rfl ?_
    refine T_aload_n C.1 dX0_traced_5 0 rfl ?_
    refine T_getI C.1 fd_X0_22 (fun _ _ _ _ => rfl) sh100 le100 dX0_traced_6 ?_
    refine T_icmp_ge (tgt := 27) C.1 dX0_traced_9 (by decide) ?_ ?_
    · refine T_iconst C.1 dX0_traced_27 ?_
      exact T_iret C.1 C.2.1 C.2.2 dX0_traced_28
    · refine T_iload_n C.1 dX0_traced_12 1 rfl ?_
      refine T_bipush C.1 dX0_traced_13 rfl ?_
      refine T_icmp_ge (tgt := 27) C.1 dX0_traced_15 (by decide) ?_ ?_
      · refine T_iconst C.1 dX0_traced_27 ?_
        exact T_iret C.1 C.2.1 C.2.2 dX0_traced_28
      · refine T_aload_n C.1 dX0_traced_18 0 rfl ?_
        refine T_getR (x := 102) C.1 fd_X0_19 (fun _ _ _ _ => rfl) sh100 le100 (fun _ h => h) rfl (by decide) dX0_traced_19 ?_
        refine T_iload_n C.1 dX0_traced_22 1 rfl ?_
        refine T_iald C.1 dX0_traced_23 sh102 le102 (fun j1 => ?_)
        refine T_goto (tgt := 28) C.1 dX0_traced_24 (by decide) ?_
        exact T_iret C.1 C.2.1 C.2.2 dX0_traced_28
def rm_X0_note : Room := { frames := 1, cells := 0, slots := 0, locals := 40 }
def F_X0_note_19   (m : Mm) : Option (Unit × Mm) :=
  nm (pI m 100 3 ((gI m 100 3) + (iI 1))) fun m1 =>
  some ((), m1)
set_option maxRecDepth 100000 in
set_option maxHeartbeats 4000000 in
theorem t_X0_note_19 {pp : Program} {ll : Launch} {ee : Env} {ss : State} {mm : MethodId} {aa : Array Value} {bb : List Frame} {me : Method} {co : Code} {cx : CX}     (C : CM pp ss mm aa me co cX0_note 2 RX0 cx (none))     (m : Mm) : TV pp ll ee rm_X0_note ss mm aa bb me co 2 cx 19 [(0, .ref (cx.2.2.1 + 100))] [] m (F_X0_note_19  m) := by
  unfold F_X0_note_19
  refine T_aload_n C.1 dX0_note_19 0 rfl ?_
  refine T_dup C.1 dX0_note_20 rfl ?_
  refine T_getI C.1 fd_X0_22 (fun _ _ _ _ => rfl) sh100 le100 dX0_note_21 ?_
  refine T_iconst C.1 dX0_note_24 ?_
  refine T_iadd C.1 dX0_note_25 ?_
  refine T_putI C.1 LyI_Lay fd_X0_22 sh100 le100 dX0_note_26 (fun m1 => ?_)
  exact T_vret C.1 C.2.1 C.2.2 dX0_note_29
def F_X0_note  (x1 : Int32) (m : Mm) : Option (Unit × Mm) :=
  (if (iI 24) ≤ (gI m 100 3) then
    F_X0_note_19 m
  else
    wrI 24 m 102 (gI m 100 3) x1 fun m1 =>
    F_X0_note_19 m1)
set_option maxRecDepth 100000 in
set_option maxHeartbeats 4000000 in
theorem c_X0_note (ll : Launch) (cx : CX) (x1 : Int32) (m : Mm) : MT ll yX0_note cX0_note 2 (none) rm_X0_note cx NN NN Lay cvV 0 0 [.ref (cx.2.2.1 + 100), .int x1] m (F_X0_note x1 m) := by
  refine MT_of (by decide) (Nat.le_of_ble_eq_true rfl) ?_
  intro pp ee ss mm aa bb me co hK hr hk hn
  have C : CM pp ss mm aa me co cX0_note 2 RX0 cx (none) := ⟨hK, hr, hk⟩
  show TV pp ll ee rm_X0_note ss mm aa bb me co 2 cx 0 [(0, .ref (cx.2.2.1 + 100)), (1, .int x1)] [] m (F_X0_note x1 m)
  unfold F_X0_note
  refine T_aload_n C.1 dX0_note_0 0 rfl ?_
  refine T_getI C.1 fd_X0_22 (fun _ _ _ _ => rfl) sh100 le100 dX0_note_1 ?_
  refine T_bipush C.1 dX0_note_4 rfl ?_
  refine T_icmp_ge (tgt := 19) C.1 dX0_note_6 (by decide) ?_ ?_
  · exact T_sub [0] rfl (t_X0_note_19 C m)
  · refine T_aload_n C.1 dX0_note_9 0 rfl ?_
    refine T_getR (x := 102) C.1 fd_X0_19 (fun _ _ _ _ => rfl) sh100 le100 (fun _ h => h) rfl (by decide) dX0_note_10 ?_
    refine T_aload_n C.1 dX0_note_13 0 rfl ?_
    refine T_getI C.1 fd_X0_22 (fun _ _ _ _ => rfl) sh100 le100 dX0_note_14 ?_
    refine T_iload_n C.1 dX0_note_17 1 rfl ?_
    refine T_iast C.1 LyI_Lay sh102 le102 dX0_note_18 (fun m1 => ?_)
    exact T_sub [0] rfl (t_X0_note_19 C m1)
def rmS_6 (d : Nat) : Room := { frames := 3 + d, cells := 0, slots := 0, locals := 82 + 26 * d }
def F_X0_above_20 (f_X0_from : Int32 → Int32 → Int32 → Int32 → Mm → Option (Int32 × Mm)) (a1 : Int32) (a2 : Int32) (a3 : Int32) (a4 : Int32) (m : Mm) : Option (Int32 × Mm) :=
  bnd (f_X0_from a4 a1 a2 a3 m) fun v1 m2 =>
  some (v1, m2)
set_option maxRecDepth 100000 in
set_option maxHeartbeats 4000000 in
theorem t_X0_above_20 {pp : Program} {ll : Launch} {ee : Env} {ss : State} {mm : MethodId} {aa : Array Value} {bb : List Frame} {me : Method} {co : Code} {cx : CX} {dd : Nat}  {f_X0_from : Int32 → Int32 → Int32 → Int32 → Mm → Option (Int32 × Mm)}  (C : CM pp ss mm aa me co cX0_above 5 RX0 cx ((some .int)))  (hf_X0_from : ∀ (x1 : Int32) (x2 : Int32) (x3 : Int32) (x4 : Int32) (m : Mm), MT ll yX0_from cX0_from 7 ((some .int)) (rmS_6 dd) cx NN NN Lay cvI 0 0 [.ref (cx.2.2.1 + 100), .int x1, .int x2, .int x3, .int x4] m (f_X0_from x1 x2 x3 x4 m))   (a1 : Int32) (a2 : Int32) (a3 : Int32) (a4 : Int32) (m : Mm) : TI pp ll ee (rmS_6 (dd + 1)) ss mm aa bb me co 5 cx 20 [(2, .int a1), (3, .int a2), (4, .int a3)] [.int a4, .ref (cx.2.2.1 + 100)] m (F_X0_above_20 f_X0_from a1 a2 a3 a4 m) := by
  unfold F_X0_above_20
  refine T_iload_n C.1 dX0_above_20 0 rfl ?_
  refine T_iload_n C.1 dX0_above_21 1 rfl ?_
  refine T_iload C.1 dX0_above_22 2 rfl ?_
  refine T_callVI (rm := (rmS_6 dd)) [.int a4, .int a1, .int a2, .int a3] [] C.1 dX0_above_24 mw_X0_from wm_4_94 wm_4_96 wm_p_31 (by constructor <;> (simp only [rmS_6]; omega)) ⟨rfl, rfl⟩ ⟨Nat.zero_le _, Nat.zero_le _⟩ rfl rfl (Nat.le_of_ble_eq_true rfl) sh100 le100 ⟨rfl, rfl⟩ (hf_X0_from a4 a1 a2 a3 m) (fun v1 m2 => ?_)
  exact T_iret C.1 C.2.1 C.2.2 dX0_above_27
def F_X0_above_19 (f_X0_from : Int32 → Int32 → Int32 → Int32 → Mm → Option (Int32 × Mm)) (a1 : Int32) (a2 : Int32) (a3 : Int32) (m : Mm) : Option (Int32 × Mm) :=
  F_X0_above_20 f_X0_from a1 a2 a3 (iI (-1)) m
set_option maxRecDepth 100000 in
set_option maxHeartbeats 4000000 in
theorem t_X0_above_19 {pp : Program} {ll : Launch} {ee : Env} {ss : State} {mm : MethodId} {aa : Array Value} {bb : List Frame} {me : Method} {co : Code} {cx : CX} {dd : Nat}  {f_X0_from : Int32 → Int32 → Int32 → Int32 → Mm → Option (Int32 × Mm)}  (C : CM pp ss mm aa me co cX0_above 5 RX0 cx ((some .int)))  (hf_X0_from : ∀ (x1 : Int32) (x2 : Int32) (x3 : Int32) (x4 : Int32) (m : Mm), MT ll yX0_from cX0_from 7 ((some .int)) (rmS_6 dd) cx NN NN Lay cvI 0 0 [.ref (cx.2.2.1 + 100), .int x1, .int x2, .int x3, .int x4] m (f_X0_from x1 x2 x3 x4 m))   (a1 : Int32) (a2 : Int32) (a3 : Int32) (m : Mm) : TI pp ll ee (rmS_6 (dd + 1)) ss mm aa bb me co 5 cx 19 [(2, .int a1), (3, .int a2), (4, .int a3)] [.ref (cx.2.2.1 + 100)] m (F_X0_above_19 f_X0_from a1 a2 a3 m) := by
  unfold F_X0_above_19
  refine T_iconst C.1 dX0_above_19 ?_
  exact T_sub [0, 1, 2] rfl (t_X0_above_20 C hf_X0_from a1 a2 a3 (iI (-1)) m)
def B_X0_above (f_X0_from : Int32 → Int32 → Int32 → Int32 → Mm → Option (Int32 × Mm)) (x1 : Int32) (x2 : Int32) (x3 : Int32) (x4 : Int32) (m : Mm) : Option (Int32 × Mm) :=
  (if x1 < iI 0 then
    F_X0_above_19 f_X0_from x2 x3 x4 m
  else
    (if (iI 8) ≤ x1 then
      F_X0_above_19 f_X0_from x2 x3 x4 m
    else
      rd 8 x1 fun j1 =>
      F_X0_above_20 f_X0_from x2 x3 x4 (tABV j1) m))
set_option maxRecDepth 100000 in
set_option maxHeartbeats 4000000 in
theorem b_X0_above {ll : Launch} {cx : CX} {dd : Nat} (f_X0_from : Int32 → Int32 → Int32 → Int32 → Mm → Option (Int32 × Mm)) (hf_X0_from : ∀ (x1 : Int32) (x2 : Int32) (x3 : Int32) (x4 : Int32) (m : Mm), MT ll yX0_from cX0_from 7 ((some .int)) (rmS_6 dd) cx NN NN Lay cvI 0 0 [.ref (cx.2.2.1 + 100), .int x1, .int x2, .int x3, .int x4] m (f_X0_from x1 x2 x3 x4 m))  (x1 : Int32) (x2 : Int32) (x3 : Int32) (x4 : Int32) (m : Mm) : MT ll yX0_above cX0_above 5 ((some .int)) (rmS_6 (dd + 1)) cx NN NN Lay cvI 0 0 [.ref (cx.2.2.1 + 100), .int x1, .int x2, .int x3, .int x4] m (B_X0_above f_X0_from x1 x2 x3 x4 m) := by
  refine MT_of (by decide) (Nat.le_of_ble_eq_true rfl) ?_
  intro pp ee ss mm aa bb me co hK hr hk hn
  have C : CM pp ss mm aa me co cX0_above 5 RX0 cx ((some .int)) := ⟨hK, hr, hk⟩
  show TI pp ll ee (rmS_6 (dd + 1)) ss mm aa bb me co 5 cx 0 [(0, .ref (cx.2.2.1 + 100)), (1, .int x1), (2, .int x2), (3, .int x3), (4, .int x4)] [] m (B_X0_above f_X0_from x1 x2 x3 x4 m)
  unfold B_X0_above
  refine T_aload_n C.1 dX0_above_0 0 rfl ?_
  refine T_iload_n C.1 dX0_above_1 1 rfl ?_
  refine T_if_lt (tgt := 19) C.1 dX0_above_2 (by decide) ?_ ?_
  · exact T_sub [2, 3, 4] rfl (t_X0_above_19 C hf_X0_from x2 x3 x4 m)
  · refine T_iload_n C.1 dX0_above_5 1 rfl ?_
    refine T_bipush C.1 dX0_above_6 rfl ?_
    refine T_icmp_ge (tgt := 19) C.1 dX0_above_8 (by decide) ?_ ?_
    · exact T_sub [2, 3, 4] rfl (t_X0_above_19 C hf_X0_from x2 x3 x4 m)
    · refine T_getsA C.1 dX0_above_11 wm_4_112 ?_
      refine T_iload_n C.1 dX0_above_14 1 rfl ?_
      refine T_saldA C.1 dX0_above_15 (fun j1 => ?_)
      refine T_goto (tgt := 20) C.1 dX0_above_16 (by decide) ?_
      exact T_sub [2, 3, 4] rfl (t_X0_above_20 C hf_X0_from x2 x3 x4 (tABV j1) m)
def F_X0_from_6 (f_X0_run : Int32 → Int32 → Int32 → Mm → Option (Int32 × Mm)) : Nat → Int32 → Int32 → Int32 → Int32 → Int32 → Mm → Option (Int32 × Mm)
  | 0, _, _, _, _, _, _ => none
  | f + 1, a1, a2, a3, a4, a5, m =>
    (if (iI 8) ≤ a5 then
      some ((iI 0), m)
    else
      (if a4 < iI 0 then
        some ((iI 0), m)
      else
        (if (iI 8) ≤ a4 then
          some ((iI 0), m)
        else
          rd 32 (((iI 4) * a4) + a1) fun j1 =>
          (if (tOWN j1) = iI 0 then
            rd 8 a4 fun j2 =>
            nm (tABV j2) fun v3 =>
            nm (a5 + (iI 1)) fun v4 =>
            F_X0_from_6 f_X0_run f a1 a2 a3 v3 v4 m
          else
            (if a3 ≤ (iI 40) then
              rd 32 (((iI 4) * a4) + a1) fun j5 =>
              bnd (f_X0_run (tOWN j5) a2 (a3 + (iI 1)) m) fun v6 m7 =>
              some (v6, m7)
            else
              some ((iI 0), m))))))
set_option maxRecDepth 100000 in
set_option maxHeartbeats 4000000 in
theorem t_X0_from_6 {pp : Program} {ll : Launch} {ee : Env} {ss : State} {mm : MethodId} {aa : Array Value} {bb : List Frame} {me : Method} {co : Code} {cx : CX} {dd : Nat}  {f_X0_run : Int32 → Int32 → Int32 → Mm → Option (Int32 × Mm)}  (C : CM pp ss mm aa me co cX0_from 7 RX0 cx ((some .int)))  (hf_X0_run : ∀ (x1 : Int32) (x2 : Int32) (x3 : Int32) (m : Mm), MT ll yX0_run cX0_run 4 ((some .int)) (rmS_6 dd) cx NN NN Lay cvI 0 0 [.ref (cx.2.2.1 + 100), .int x1, .int x2, .int x3] m (f_X0_run x1 x2 x3 m))   : ∀ (f : Nat) (a1 : Int32) (a2 : Int32) (a3 : Int32) (a4 : Int32) (a5 : Int32) (m : Mm), TI pp ll ee (rmS_6 (dd + 1)) ss mm aa bb me co 7 cx 6 [(0, .ref (cx.2.2.1 + 100)), (2, .int a1), (3, .int a2), (4, .int a3), (5, .int a4), (6, .int a5)] [] m (F_X0_from_6 f_X0_run f a1 a2 a3 a4 a5 m) := by
  intro f
  induction f with
  | zero => exact fun _ _ _ _ _ _ => T_none
  | succ f ih =>
    intro a1 a2 a3 a4 a5 m
    unfold F_X0_from_6
    refine T_iload C.1 dX0_from_6 5 rfl ?_
    refine T_bipush C.1 dX0_from_8 rfl ?_
    refine T_icmp_ge (tgt := 83) C.1 dX0_from_10 (by decide) ?_ ?_
    · refine T_iconst C.1 dX0_from_83 ?_
      exact T_iret C.1 C.2.1 C.2.2 dX0_from_84
    · refine T_iload C.1 dX0_from_13 4 rfl ?_
      refine T_if_lt (tgt := 83) C.1 dX0_from_15 (by decide) ?_ ?_
      · refine T_iconst C.1 dX0_from_83 ?_
        exact T_iret C.1 C.2.1 C.2.2 dX0_from_84
      · refine T_iload C.1 dX0_from_18 4 rfl ?_
        refine T_bipush C.1 dX0_from_20 rfl ?_
        refine T_icmp_ge (tgt := 83) C.1 dX0_from_22 (by decide) ?_ ?_
        · refine T_iconst C.1 dX0_from_83 ?_
          exact T_iret C.1 C.2.1 C.2.2 dX0_from_84
        · refine T_getsO C.1 dX0_from_25 wm_4_98 ?_
          refine T_iconst C.1 dX0_from_28 ?_
          refine T_iload C.1 dX0_from_29 4 rfl ?_
          refine T_imul C.1 dX0_from_31 ?_
          refine T_iload_n C.1 dX0_from_32 1 rfl ?_
          refine T_iadd C.1 dX0_from_33 ?_
          refine T_saldO C.1 dX0_from_34 (fun j1 => ?_)
          refine T_if_eq (tgt := 69) C.1 dX0_from_35 (by decide) ?_ ?_
          · refine T_getsA C.1 dX0_from_69 wm_4_112 ?_
            refine T_iload C.1 dX0_from_72 4 rfl ?_
            refine T_saldA C.1 dX0_from_74 (fun j2 => ?_)
            refine T_istoreN C.1 (fun v3 => [(5, .int v3), (0, .ref (cx.2.2.1 + 100)), (2, .int a1), (3, .int a2), (4, .int a3), (6, .int a5)]) dX0_from_75 (by decide) (fun _ => rfl) (fun v3 => ?_)
            refine T_iincN C.1 (fun v4 => [(6, .int v4), (5, .int v3), (0, .ref (cx.2.2.1 + 100)), (2, .int a1), (3, .int a2), (4, .int a3)]) dX0_from_77 5 rfl (by decide) (fun _ => rfl) (fun v4 => ?_)
            refine T_goto (tgt := 6) C.1 dX0_from_80 (by decide) ?_
            exact T_sub [2, 3, 4, 5, 1, 0] rfl (ih a1 a2 a3 v3 v4 m)
          · refine T_iload C.1 dX0_from_38 3 rfl ?_
            refine T_bipush C.1 dX0_from_40 rfl ?_
            refine T_icmp_le (tgt := 49) C.1 dX0_from_42 (by decide) ?_ ?_
            · refine T_aload_n C.1 dX0_from_49 0 rfl ?_
              refine T_getsO C.1 dX0_from_50 wm_4_98 ?_
              refine T_iconst C.1 dX0_from_53 ?_
              refine T_iload C.1 dX0_from_54 4 rfl ?_
              refine T_imul C.1 dX0_from_56 ?_
              refine T_iload_n C.1 dX0_from_57 1 rfl ?_
              refine T_iadd C.1 dX0_from_58 ?_
              refine T_saldO C.1 dX0_from_59 (fun j5 => ?_)
              refine T_iload_n C.1 dX0_from_60 2 rfl ?_
              refine T_iload C.1 dX0_from_61 3 rfl ?_
              refine T_iconst C.1 dX0_from_63 ?_
              refine T_iadd C.1 dX0_from_64 ?_
              refine T_callVI (rm := (rmS_6 dd)) [.int (tOWN j5), .int a2, .int (a3 + (iI 1))] [] C.1 dX0_from_65 mw_X0_run wm_4_100 wm_4_102 wm_p_32 (by constructor <;> (simp only [rmS_6]; omega)) ⟨rfl, rfl⟩ ⟨Nat.zero_le _, Nat.zero_le _⟩ rfl rfl (Nat.le_of_ble_eq_true rfl) sh100 le100 ⟨rfl, rfl⟩ (hf_X0_run (tOWN j5) a2 (a3 + (iI 1)) m) (fun v6 m7 => ?_)
              exact T_iret C.1 C.2.1 C.2.2 dX0_from_68
            · refine T_iconst C.1 dX0_from_45 ?_
              refine T_goto (tgt := 68) C.1 dX0_from_46 (by decide) ?_
              exact T_iret C.1 C.2.1 C.2.2 dX0_from_68
def B_X0_from (f_X0_run : Int32 → Int32 → Int32 → Mm → Option (Int32 × Mm)) (x1 : Int32) (x2 : Int32) (x3 : Int32) (x4 : Int32) (m : Mm) : Option (Int32 × Mm) :=
  F_X0_from_6 f_X0_run FU x2 x3 x4 x1 (iI 0) m
set_option maxRecDepth 100000 in
set_option maxHeartbeats 4000000 in
theorem b_X0_from {ll : Launch} {cx : CX} {dd : Nat} (f_X0_run : Int32 → Int32 → Int32 → Mm → Option (Int32 × Mm)) (hf_X0_run : ∀ (x1 : Int32) (x2 : Int32) (x3 : Int32) (m : Mm), MT ll yX0_run cX0_run 4 ((some .int)) (rmS_6 dd) cx NN NN Lay cvI 0 0 [.ref (cx.2.2.1 + 100), .int x1, .int x2, .int x3] m (f_X0_run x1 x2 x3 m))  (x1 : Int32) (x2 : Int32) (x3 : Int32) (x4 : Int32) (m : Mm) : MT ll yX0_from cX0_from 7 ((some .int)) (rmS_6 (dd + 1)) cx NN NN Lay cvI 0 0 [.ref (cx.2.2.1 + 100), .int x1, .int x2, .int x3, .int x4] m (B_X0_from f_X0_run x1 x2 x3 x4 m) := by
  refine MT_of (by decide) (Nat.le_of_ble_eq_true rfl) ?_
  intro pp ee ss mm aa bb me co hK hr hk hn
  have C : CM pp ss mm aa me co cX0_from 7 RX0 cx ((some .int)) := ⟨hK, hr, hk⟩
  show TI pp ll ee (rmS_6 (dd + 1)) ss mm aa bb me co 7 cx 0 [(0, .ref (cx.2.2.1 + 100)), (1, .int x1), (2, .int x2), (3, .int x3), (4, .int x4)] [] m (B_X0_from f_X0_run x1 x2 x3 x4 m)
  unfold B_X0_from
  refine T_iload_n C.1 dX0_from_0 1 rfl ?_
  refine T_istore (lv' := [(5, .int x1), (0, .ref (cx.2.2.1 + 100)), (1, .int x1), (2, .int x2), (3, .int x3), (4, .int x4)]) C.1 dX0_from_1 (by decide) rfl ?_
  refine T_iconst C.1 dX0_from_3 ?_
  refine T_istore (lv' := [(6, .int (iI 0)), (5, .int x1), (0, .ref (cx.2.2.1 + 100)), (1, .int x1), (2, .int x2), (3, .int x3), (4, .int x4)]) C.1 dX0_from_4 (by decide) rfl ?_
  exact T_sub [2, 4, 5, 6, 1, 0] rfl (t_X0_from_6 C hf_X0_run FU x2 x3 x4 x1 (iI 0) m)
def B_X0_own (f_X0_from : Int32 → Int32 → Int32 → Int32 → Mm → Option (Int32 × Mm)) (x1 : Int32) (x2 : Int32) (x3 : Int32) (m : Mm) : Option (Int32 × Mm) :=
  bnd (F_X0_kindOf (gI m 100 4) m) fun v1 m2 =>
  bnd (f_X0_from v1 x1 x2 x3 m2) fun v3 m4 =>
  some (v3, m4)
set_option maxRecDepth 100000 in
set_option maxHeartbeats 4000000 in
theorem b_X0_own {ll : Launch} {cx : CX} {dd : Nat} (f_X0_from : Int32 → Int32 → Int32 → Int32 → Mm → Option (Int32 × Mm)) (hf_X0_from : ∀ (x1 : Int32) (x2 : Int32) (x3 : Int32) (x4 : Int32) (m : Mm), MT ll yX0_from cX0_from 7 ((some .int)) (rmS_6 dd) cx NN NN Lay cvI 0 0 [.ref (cx.2.2.1 + 100), .int x1, .int x2, .int x3, .int x4] m (f_X0_from x1 x2 x3 x4 m))  (x1 : Int32) (x2 : Int32) (x3 : Int32) (m : Mm) : MT ll yX0_own cX0_own 4 ((some .int)) (rmS_6 (dd + 1)) cx NN NN Lay cvI 0 0 [.ref (cx.2.2.1 + 100), .int x1, .int x2, .int x3] m (B_X0_own f_X0_from x1 x2 x3 m) := by
  refine MT_of (by decide) (Nat.le_of_ble_eq_true rfl) ?_
  intro pp ee ss mm aa bb me co hK hr hk hn
  have C : CM pp ss mm aa me co cX0_own 4 RX0 cx ((some .int)) := ⟨hK, hr, hk⟩
  show TI pp ll ee (rmS_6 (dd + 1)) ss mm aa bb me co 4 cx 0 [(0, .ref (cx.2.2.1 + 100)), (1, .int x1), (2, .int x2), (3, .int x3)] [] m (B_X0_own f_X0_from x1 x2 x3 m)
  unfold B_X0_own
  refine T_aload_n C.1 dX0_own_0 0 rfl ?_
  refine T_aload_n C.1 dX0_own_1 0 rfl ?_
  refine T_aload_n C.1 dX0_own_2 0 rfl ?_
  refine T_getI C.1 fd_X0_25 (fun _ _ _ _ => rfl) sh100 le100 dX0_own_3 ?_
  refine T_callVI (rm := rm_X0_kindOf) [.int (gI m 100 4)] [.ref (cx.2.2.1 + 100)] C.1 dX0_own_6 mw_X0_kindOf wm_4_90 wm_4_91 wm_4_92 (by constructor <;> (simp only [rmS_6, rm_X0_kindOf]; omega)) ⟨rfl, rfl⟩ ⟨Nat.zero_le _, Nat.zero_le _⟩ rfl rfl (Nat.le_of_ble_eq_true rfl) sh100 le100 ⟨rfl, rfl⟩ (c_X0_kindOf ll cx (gI m 100 4) m) (fun v1 m2 => ?_)
  refine T_iload_n C.1 dX0_own_9 1 rfl ?_
  refine T_iload_n C.1 dX0_own_10 2 rfl ?_
  refine T_iload_n C.1 dX0_own_11 3 rfl ?_
  refine T_callVI (rm := (rmS_6 dd)) [.int v1, .int x1, .int x2, .int x3] [] C.1 dX0_own_12 mw_X0_from wm_4_94 wm_4_96 wm_p_31 (by constructor <;> (simp only [rmS_6]; omega)) ⟨rfl, rfl⟩ ⟨Nat.zero_le _, Nat.zero_le _⟩ rfl rfl (Nat.le_of_ble_eq_true rfl) sh100 le100 ⟨rfl, rfl⟩ (hf_X0_from v1 x1 x2 x3 m2) (fun v3 m4 => ?_)
  exact T_iret C.1 C.2.1 C.2.2 dX0_own_15
def B_X0_run (f_X0_above : Int32 → Int32 → Int32 → Int32 → Mm → Option (Int32 × Mm)) (f_X0_own : Int32 → Int32 → Int32 → Mm → Option (Int32 × Mm)) (x1 : Int32) (x2 : Int32) (x3 : Int32) (m : Mm) : Option (Int32 × Mm) :=
  bnd (F_X0_note x1 m) fun _ m2 =>
  lsw x1 [(1, some ((x2 + (gI m2 100 4)), m2)),
   (2, bnd (f_X0_own (iI 1) x2 x3 m2) fun v3 m4 =>
  bnd (f_X0_own (iI 2) (iI 1) x3 m4) fun v5 m6 =>
  some ((v3 - v5), m6)),
   (10, bnd (f_X0_own (iI 0) x2 x3 m2) fun v7 m8 =>
  some ((v7 * (iI 2)), m8)),
   (11, some ((x2 ^^^ (gI m2 100 4)), m2)),
   (20, bnd (f_X0_above (iI 1) (iI 0) x2 x3 m2) fun v9 m10 =>
  some ((v9 + (iI 3)), m10)),
   (30, bnd (f_X0_above (iI 2) (iI 1) x2 x3 m2) fun v11 m12 =>
  some ((-v11), m12)),
   (40, bnd (f_X0_above (iI 3) (iI 2) x2 x3 m2) fun v13 m14 =>
  some ((v13 * (iI 3)), m14)),
   (41, bnd (f_X0_above (iI 3) (iI 1) (x2 + (iI 1)) x3 m2) fun v15 m16 =>
  some (v15, m16)),
   (50, bnd (f_X0_above (iI 4) (iI 3) x2 x3 m2) fun v17 m18 =>
  some ((v17 ^^^ (iI 5)), m18)),
   (60, bnd (f_X0_above (iI 5) (iI 2) x2 x3 m2) fun v19 m20 =>
  bnd (f_X0_own (iI 0) (iI 2) x3 m20) fun v21 m22 =>
  some ((v19 - v21), m22)),
   (61, bnd (f_X0_above (iI 5) (iI 3) x2 x3 m2) fun v23 m24 =>
  some ((v23 + (iI 1)), m24)),
   (70, bnd (f_X0_above (iI 6) (iI 0) x2 x3 m2) fun v25 m26 =>
  some ((v25 * (iI 2)), m26)),
   (80, bnd (f_X0_above (iI 7) (iI 1) x2 x3 m2) fun v27 m28 =>
  bnd (f_X0_own (iI 2) (iI 2) x3 m28) fun v29 m30 =>
  some ((v27 + v29), m30))] (bnd (f_X0_above (iI 7) (iI 0) x2 x3 m2) fun v31 m32 =>
  some ((v31 - (iI 1)), m32))
set_option maxRecDepth 100000 in
set_option maxHeartbeats 4000000 in
theorem b_X0_run {ll : Launch} {cx : CX} {dd : Nat} (f_X0_above : Int32 → Int32 → Int32 → Int32 → Mm → Option (Int32 × Mm)) (f_X0_own : Int32 → Int32 → Int32 → Mm → Option (Int32 × Mm)) (hf_X0_above : ∀ (x1 : Int32) (x2 : Int32) (x3 : Int32) (x4 : Int32) (m : Mm), MT ll yX0_above cX0_above 5 ((some .int)) (rmS_6 dd) cx NN NN Lay cvI 0 0 [.ref (cx.2.2.1 + 100), .int x1, .int x2, .int x3, .int x4] m (f_X0_above x1 x2 x3 x4 m)) (hf_X0_own : ∀ (x1 : Int32) (x2 : Int32) (x3 : Int32) (m : Mm), MT ll yX0_own cX0_own 4 ((some .int)) (rmS_6 dd) cx NN NN Lay cvI 0 0 [.ref (cx.2.2.1 + 100), .int x1, .int x2, .int x3] m (f_X0_own x1 x2 x3 m))  (x1 : Int32) (x2 : Int32) (x3 : Int32) (m : Mm) : MT ll yX0_run cX0_run 4 ((some .int)) (rmS_6 (dd + 1)) cx NN NN Lay cvI 0 0 [.ref (cx.2.2.1 + 100), .int x1, .int x2, .int x3] m (B_X0_run f_X0_above f_X0_own x1 x2 x3 m) := by
  refine MT_of (by decide) (Nat.le_of_ble_eq_true rfl) ?_
  intro pp ee ss mm aa bb me co hK hr hk hn
  have C : CM pp ss mm aa me co cX0_run 4 RX0 cx ((some .int)) := ⟨hK, hr, hk⟩
  show TI pp ll ee (rmS_6 (dd + 1)) ss mm aa bb me co 4 cx 0 [(0, .ref (cx.2.2.1 + 100)), (1, .int x1), (2, .int x2), (3, .int x3)] [] m (B_X0_run f_X0_above f_X0_own x1 x2 x3 m)
  unfold B_X0_run
  refine T_aload_n C.1 dX0_run_0 0 rfl ?_
  refine T_iload_n C.1 dX0_run_1 1 rfl ?_
  refine T_callVV (rm := rm_X0_note) [.int x1] [] C.1 dX0_run_2 mw_X0_note wm_4_104 wm_4_106 wm_p_33 (by constructor <;> (simp only [rmS_6, rm_X0_note]; omega)) ⟨rfl, rfl⟩ ⟨Nat.zero_le _, Nat.zero_le _⟩ rfl rfl (Nat.le_of_ble_eq_true rfl) sh100 le100 ⟨rfl, rfl⟩ (c_X0_note ll cx x1 m) (fun u1 m2 => ?_)
  refine T_iload_n C.1 dX0_run_5 1 rfl ?_
  refine T_lsw (os := [(1, 114), (2, 121), (10, 137), (11, 147), (20, 154), (30, 165), (40, 175), (41, 186), (50, 197), (60, 208), (61, 225), (70, 236), (80, 248)]) C.1 dX0_run_6 rfl (by decide) (tgd := 272) (by decide) ⟨rfl, ⟨120, by decide, ?_⟩, rfl, ⟨127, by decide, ?_⟩, rfl, ⟨143, by decide, ?_⟩, rfl, ⟨153, by decide, ?_⟩, rfl, ⟨160, by decide, ?_⟩, rfl, ⟨171, by decide, ?_⟩, rfl, ⟨181, by decide, ?_⟩, rfl, ⟨192, by decide, ?_⟩, rfl, ⟨203, by decide, ?_⟩, rfl, ⟨214, by decide, ?_⟩, rfl, ⟨231, by decide, ?_⟩, rfl, ⟨242, by decide, ?_⟩, rfl, ⟨254, by decide, ?_⟩, trivial⟩ ?_
  · show TI pp ll ee (rmS_6 (dd + 1)) ss mm aa bb me co 4 cx _ _ _ _ _
    refine T_iload_n C.1 dX0_run_120 2 rfl ?_
    refine T_aload_n C.1 dX0_run_121 0 rfl ?_
    refine T_getI C.1 fd_X0_25 (fun _ _ _ _ => rfl) sh100 le100 dX0_run_122 ?_
    refine T_iadd C.1 dX0_run_125 ?_
    exact T_iret C.1 C.2.1 C.2.2 dX0_run_126
  · show TI pp ll ee (rmS_6 (dd + 1)) ss mm aa bb me co 4 cx _ _ _ _ _
    refine T_aload_n C.1 dX0_run_127 0 rfl ?_
    refine T_iconst C.1 dX0_run_128 ?_
    refine T_iload_n C.1 dX0_run_129 2 rfl ?_
    refine T_iload_n C.1 dX0_run_130 3 rfl ?_
    refine T_callVI (rm := (rmS_6 dd)) [.int (iI 1), .int x2, .int x3] [] C.1 dX0_run_131 mw_X0_own wm_4_86 wm_4_88 wm_p_30 (by constructor <;> (simp only [rmS_6]; omega)) ⟨rfl, rfl⟩ ⟨Nat.zero_le _, Nat.zero_le _⟩ rfl rfl (Nat.le_of_ble_eq_true rfl) sh100 le100 ⟨rfl, rfl⟩ (hf_X0_own (iI 1) x2 x3 m2) (fun v3 m4 => ?_)
    refine T_aload_n C.1 dX0_run_134 0 rfl ?_
    refine T_iconst C.1 dX0_run_135 ?_
    refine T_iconst C.1 dX0_run_136 ?_
    refine T_iload_n C.1 dX0_run_137 3 rfl ?_
    refine T_callVI (rm := (rmS_6 dd)) [.int (iI 2), .int (iI 1), .int x3] [.int v3] C.1 dX0_run_138 mw_X0_own wm_4_86 wm_4_88 wm_p_30 (by constructor <;> (simp only [rmS_6]; omega)) ⟨rfl, rfl⟩ ⟨Nat.zero_le _, Nat.zero_le _⟩ rfl rfl (Nat.le_of_ble_eq_true rfl) sh100 le100 ⟨rfl, rfl⟩ (hf_X0_own (iI 2) (iI 1) x3 m4) (fun v5 m6 => ?_)
    refine T_isub C.1 dX0_run_141 ?_
    exact T_iret C.1 C.2.1 C.2.2 dX0_run_142
  · show TI pp ll ee (rmS_6 (dd + 1)) ss mm aa bb me co 4 cx _ _ _ _ _
    refine T_aload_n C.1 dX0_run_143 0 rfl ?_
    refine T_iconst C.1 dX0_run_144 ?_
    refine T_iload_n C.1 dX0_run_145 2 rfl ?_
    refine T_iload_n C.1 dX0_run_146 3 rfl ?_
    refine T_callVI (rm := (rmS_6 dd)) [.int (iI 0), .int x2, .int x3] [] C.1 dX0_run_147 mw_X0_own wm_4_86 wm_4_88 wm_p_30 (by constructor <;> (simp only [rmS_6]; omega)) ⟨rfl, rfl⟩ ⟨Nat.zero_le _, Nat.zero_le _⟩ rfl rfl (Nat.le_of_ble_eq_true rfl) sh100 le100 ⟨rfl, rfl⟩ (hf_X0_own (iI 0) x2 x3 m2) (fun v7 m8 => ?_)
    refine T_iconst C.1 dX0_run_150 ?_
    refine T_imul C.1 dX0_run_151 ?_
    exact T_iret C.1 C.2.1 C.2.2 dX0_run_152
  · show TI pp ll ee (rmS_6 (dd + 1)) ss mm aa bb me co 4 cx _ _ _ _ _
    refine T_iload_n C.1 dX0_run_153 2 rfl ?_
    refine T_aload_n C.1 dX0_run_154 0 rfl ?_
    refine T_getI C.1 fd_X0_25 (fun _ _ _ _ => rfl) sh100 le100 dX0_run_155 ?_
    refine T_ixor C.1 dX0_run_158 ?_
    exact T_iret C.1 C.2.1 C.2.2 dX0_run_159
  · show TI pp ll ee (rmS_6 (dd + 1)) ss mm aa bb me co 4 cx _ _ _ _ _
    refine T_aload_n C.1 dX0_run_160 0 rfl ?_
    refine T_iconst C.1 dX0_run_161 ?_
    refine T_iconst C.1 dX0_run_162 ?_
    refine T_iload_n C.1 dX0_run_163 2 rfl ?_
    refine T_iload_n C.1 dX0_run_164 3 rfl ?_
    refine T_callVI (rm := (rmS_6 dd)) [.int (iI 1), .int (iI 0), .int x2, .int x3] [] C.1 dX0_run_165 mw_X0_above wm_4_108 wm_4_110 wm_p_34 (by constructor <;> (simp only [rmS_6]; omega)) ⟨rfl, rfl⟩ ⟨Nat.zero_le _, Nat.zero_le _⟩ rfl rfl (Nat.le_of_ble_eq_true rfl) sh100 le100 ⟨rfl, rfl⟩ (hf_X0_above (iI 1) (iI 0) x2 x3 m2) (fun v9 m10 => ?_)
    refine T_iconst C.1 dX0_run_168 ?_
    refine T_iadd C.1 dX0_run_169 ?_
    exact T_iret C.1 C.2.1 C.2.2 dX0_run_170
  · show TI pp ll ee (rmS_6 (dd + 1)) ss mm aa bb me co 4 cx _ _ _ _ _
    refine T_aload_n C.1 dX0_run_171 0 rfl ?_
    refine T_iconst C.1 dX0_run_172 ?_
    refine T_iconst C.1 dX0_run_173 ?_
    refine T_iload_n C.1 dX0_run_174 2 rfl ?_
    refine T_iload_n C.1 dX0_run_175 3 rfl ?_
    refine T_callVI (rm := (rmS_6 dd)) [.int (iI 2), .int (iI 1), .int x2, .int x3] [] C.1 dX0_run_176 mw_X0_above wm_4_108 wm_4_110 wm_p_34 (by constructor <;> (simp only [rmS_6]; omega)) ⟨rfl, rfl⟩ ⟨Nat.zero_le _, Nat.zero_le _⟩ rfl rfl (Nat.le_of_ble_eq_true rfl) sh100 le100 ⟨rfl, rfl⟩ (hf_X0_above (iI 2) (iI 1) x2 x3 m2) (fun v11 m12 => ?_)
    refine T_ineg C.1 dX0_run_179 ?_
    exact T_iret C.1 C.2.1 C.2.2 dX0_run_180
  · show TI pp ll ee (rmS_6 (dd + 1)) ss mm aa bb me co 4 cx _ _ _ _ _
    refine T_aload_n C.1 dX0_run_181 0 rfl ?_
    refine T_iconst C.1 dX0_run_182 ?_
    refine T_iconst C.1 dX0_run_183 ?_
    refine T_iload_n C.1 dX0_run_184 2 rfl ?_
    refine T_iload_n C.1 dX0_run_185 3 rfl ?_
    refine T_callVI (rm := (rmS_6 dd)) [.int (iI 3), .int (iI 2), .int x2, .int x3] [] C.1 dX0_run_186 mw_X0_above wm_4_108 wm_4_110 wm_p_34 (by constructor <;> (simp only [rmS_6]; omega)) ⟨rfl, rfl⟩ ⟨Nat.zero_le _, Nat.zero_le _⟩ rfl rfl (Nat.le_of_ble_eq_true rfl) sh100 le100 ⟨rfl, rfl⟩ (hf_X0_above (iI 3) (iI 2) x2 x3 m2) (fun v13 m14 => ?_)
    refine T_iconst C.1 dX0_run_189 ?_
    refine T_imul C.1 dX0_run_190 ?_
    exact T_iret C.1 C.2.1 C.2.2 dX0_run_191
  · show TI pp ll ee (rmS_6 (dd + 1)) ss mm aa bb me co 4 cx _ _ _ _ _
    refine T_aload_n C.1 dX0_run_192 0 rfl ?_
    refine T_iconst C.1 dX0_run_193 ?_
    refine T_iconst C.1 dX0_run_194 ?_
    refine T_iload_n C.1 dX0_run_195 2 rfl ?_
    refine T_iconst C.1 dX0_run_196 ?_
    refine T_iadd C.1 dX0_run_197 ?_
    refine T_iload_n C.1 dX0_run_198 3 rfl ?_
    refine T_callVI (rm := (rmS_6 dd)) [.int (iI 3), .int (iI 1), .int (x2 + (iI 1)), .int x3] [] C.1 dX0_run_199 mw_X0_above wm_4_108 wm_4_110 wm_p_34 (by constructor <;> (simp only [rmS_6]; omega)) ⟨rfl, rfl⟩ ⟨Nat.zero_le _, Nat.zero_le _⟩ rfl rfl (Nat.le_of_ble_eq_true rfl) sh100 le100 ⟨rfl, rfl⟩ (hf_X0_above (iI 3) (iI 1) (x2 + (iI 1)) x3 m2) (fun v15 m16 => ?_)
    exact T_iret C.1 C.2.1 C.2.2 dX0_run_202
  · show TI pp ll ee (rmS_6 (dd + 1)) ss mm aa bb me co 4 cx _ _ _ _ _
    refine T_aload_n C.1 dX0_run_203 0 rfl ?_
    refine T_iconst C.1 dX0_run_204 ?_
    refine T_iconst C.1 dX0_run_205 ?_
    refine T_iload_n C.1 dX0_run_206 2 rfl ?_
    refine T_iload_n C.1 dX0_run_207 3 rfl ?_
    refine T_callVI (rm := (rmS_6 dd)) [.int (iI 4), .int (iI 3), .int x2, .int x3] [] C.1 dX0_run_208 mw_X0_above wm_4_108 wm_4_110 wm_p_34 (by constructor <;> (simp only [rmS_6]; omega)) ⟨rfl, rfl⟩ ⟨Nat.zero_le _, Nat.zero_le _⟩ rfl rfl (Nat.le_of_ble_eq_true rfl) sh100 le100 ⟨rfl, rfl⟩ (hf_X0_above (iI 4) (iI 3) x2 x3 m2) (fun v17 m18 => ?_)
    refine T_iconst C.1 dX0_run_211 ?_
    refine T_ixor C.1 dX0_run_212 ?_
    exact T_iret C.1 C.2.1 C.2.2 dX0_run_213
  · show TI pp ll ee (rmS_6 (dd + 1)) ss mm aa bb me co 4 cx _ _ _ _ _
    refine T_aload_n C.1 dX0_run_214 0 rfl ?_
    refine T_iconst C.1 dX0_run_215 ?_
    refine T_iconst C.1 dX0_run_216 ?_
    refine T_iload_n C.1 dX0_run_217 2 rfl ?_
    refine T_iload_n C.1 dX0_run_218 3 rfl ?_
    refine T_callVI (rm := (rmS_6 dd)) [.int (iI 5), .int (iI 2), .int x2, .int x3] [] C.1 dX0_run_219 mw_X0_above wm_4_108 wm_4_110 wm_p_34 (by constructor <;> (simp only [rmS_6]; omega)) ⟨rfl, rfl⟩ ⟨Nat.zero_le _, Nat.zero_le _⟩ rfl rfl (Nat.le_of_ble_eq_true rfl) sh100 le100 ⟨rfl, rfl⟩ (hf_X0_above (iI 5) (iI 2) x2 x3 m2) (fun v19 m20 => ?_)
    refine T_aload_n C.1 dX0_run_222 0 rfl ?_
    refine T_iconst C.1 dX0_run_223 ?_
    refine T_iconst C.1 dX0_run_224 ?_
    refine T_iload_n C.1 dX0_run_225 3 rfl ?_
    refine T_callVI (rm := (rmS_6 dd)) [.int (iI 0), .int (iI 2), .int x3] [.int v19] C.1 dX0_run_226 mw_X0_own wm_4_86 wm_4_88 wm_p_30 (by constructor <;> (simp only [rmS_6]; omega)) ⟨rfl, rfl⟩ ⟨Nat.zero_le _, Nat.zero_le _⟩ rfl rfl (Nat.le_of_ble_eq_true rfl) sh100 le100 ⟨rfl, rfl⟩ (hf_X0_own (iI 0) (iI 2) x3 m20) (fun v21 m22 => ?_)
    refine T_isub C.1 dX0_run_229 ?_
    exact T_iret C.1 C.2.1 C.2.2 dX0_run_230
  · show TI pp ll ee (rmS_6 (dd + 1)) ss mm aa bb me co 4 cx _ _ _ _ _
    refine T_aload_n C.1 dX0_run_231 0 rfl ?_
    refine T_iconst C.1 dX0_run_232 ?_
    refine T_iconst C.1 dX0_run_233 ?_
    refine T_iload_n C.1 dX0_run_234 2 rfl ?_
    refine T_iload_n C.1 dX0_run_235 3 rfl ?_
    refine T_callVI (rm := (rmS_6 dd)) [.int (iI 5), .int (iI 3), .int x2, .int x3] [] C.1 dX0_run_236 mw_X0_above wm_4_108 wm_4_110 wm_p_34 (by constructor <;> (simp only [rmS_6]; omega)) ⟨rfl, rfl⟩ ⟨Nat.zero_le _, Nat.zero_le _⟩ rfl rfl (Nat.le_of_ble_eq_true rfl) sh100 le100 ⟨rfl, rfl⟩ (hf_X0_above (iI 5) (iI 3) x2 x3 m2) (fun v23 m24 => ?_)
    refine T_iconst C.1 dX0_run_239 ?_
    refine T_iadd C.1 dX0_run_240 ?_
    exact T_iret C.1 C.2.1 C.2.2 dX0_run_241
  · show TI pp ll ee (rmS_6 (dd + 1)) ss mm aa bb me co 4 cx _ _ _ _ _
    refine T_aload_n C.1 dX0_run_242 0 rfl ?_
    refine T_bipush C.1 dX0_run_243 rfl ?_
    refine T_iconst C.1 dX0_run_245 ?_
    refine T_iload_n C.1 dX0_run_246 2 rfl ?_
    refine T_iload_n C.1 dX0_run_247 3 rfl ?_
    refine T_callVI (rm := (rmS_6 dd)) [.int (iI 6), .int (iI 0), .int x2, .int x3] [] C.1 dX0_run_248 mw_X0_above wm_4_108 wm_4_110 wm_p_34 (by constructor <;> (simp only [rmS_6]; omega)) ⟨rfl, rfl⟩ ⟨Nat.zero_le _, Nat.zero_le _⟩ rfl rfl (Nat.le_of_ble_eq_true rfl) sh100 le100 ⟨rfl, rfl⟩ (hf_X0_above (iI 6) (iI 0) x2 x3 m2) (fun v25 m26 => ?_)
    refine T_iconst C.1 dX0_run_251 ?_
    refine T_imul C.1 dX0_run_252 ?_
    exact T_iret C.1 C.2.1 C.2.2 dX0_run_253
  · show TI pp ll ee (rmS_6 (dd + 1)) ss mm aa bb me co 4 cx _ _ _ _ _
    refine T_aload_n C.1 dX0_run_254 0 rfl ?_
    refine T_bipush C.1 dX0_run_255 rfl ?_
    refine T_iconst C.1 dX0_run_257 ?_
    refine T_iload_n C.1 dX0_run_258 2 rfl ?_
    refine T_iload_n C.1 dX0_run_259 3 rfl ?_
    refine T_callVI (rm := (rmS_6 dd)) [.int (iI 7), .int (iI 1), .int x2, .int x3] [] C.1 dX0_run_260 mw_X0_above wm_4_108 wm_4_110 wm_p_34 (by constructor <;> (simp only [rmS_6]; omega)) ⟨rfl, rfl⟩ ⟨Nat.zero_le _, Nat.zero_le _⟩ rfl rfl (Nat.le_of_ble_eq_true rfl) sh100 le100 ⟨rfl, rfl⟩ (hf_X0_above (iI 7) (iI 1) x2 x3 m2) (fun v27 m28 => ?_)
    refine T_aload_n C.1 dX0_run_263 0 rfl ?_
    refine T_iconst C.1 dX0_run_264 ?_
    refine T_iconst C.1 dX0_run_265 ?_
    refine T_iload_n C.1 dX0_run_266 3 rfl ?_
    refine T_callVI (rm := (rmS_6 dd)) [.int (iI 2), .int (iI 2), .int x3] [.int v27] C.1 dX0_run_267 mw_X0_own wm_4_86 wm_4_88 wm_p_30 (by constructor <;> (simp only [rmS_6]; omega)) ⟨rfl, rfl⟩ ⟨Nat.zero_le _, Nat.zero_le _⟩ rfl rfl (Nat.le_of_ble_eq_true rfl) sh100 le100 ⟨rfl, rfl⟩ (hf_X0_own (iI 2) (iI 2) x3 m28) (fun v29 m30 => ?_)
    refine T_iadd C.1 dX0_run_270 ?_
    exact T_iret C.1 C.2.1 C.2.2 dX0_run_271
  · show TI pp ll ee (rmS_6 (dd + 1)) ss mm aa bb me co 4 cx _ _ _ _ _
    refine T_aload_n C.1 dX0_run_272 0 rfl ?_
    refine T_bipush C.1 dX0_run_273 rfl ?_
    refine T_iconst C.1 dX0_run_275 ?_
    refine T_iload_n C.1 dX0_run_276 2 rfl ?_
    refine T_iload_n C.1 dX0_run_277 3 rfl ?_
    refine T_callVI (rm := (rmS_6 dd)) [.int (iI 7), .int (iI 0), .int x2, .int x3] [] C.1 dX0_run_278 mw_X0_above wm_4_108 wm_4_110 wm_p_34 (by constructor <;> (simp only [rmS_6]; omega)) ⟨rfl, rfl⟩ ⟨Nat.zero_le _, Nat.zero_le _⟩ rfl rfl (Nat.le_of_ble_eq_true rfl) sh100 le100 ⟨rfl, rfl⟩ (hf_X0_above (iI 7) (iI 0) x2 x3 m2) (fun v31 m32 => ?_)
    refine T_iconst C.1 dX0_run_281 ?_
    refine T_isub C.1 dX0_run_282 ?_
    exact T_iret C.1 C.2.1 C.2.2 dX0_run_283
def R_6 : Nat → (Int32 → Int32 → Int32 → Int32 → Mm → Option (Int32 × Mm)) × (Int32 → Int32 → Int32 → Int32 → Mm → Option (Int32 × Mm)) × (Int32 → Int32 → Int32 → Mm → Option (Int32 × Mm)) × (Int32 → Int32 → Int32 → Mm → Option (Int32 × Mm))
  | 0 => (fun _ _ _ _ _ => none, fun _ _ _ _ _ => none, fun _ _ _ _ => none, fun _ _ _ _ => none)
  | d + 1 => (B_X0_above (R_6 d).2.1, B_X0_from (R_6 d).2.2.2, B_X0_own (R_6 d).2.1, B_X0_run (R_6 d).1 (R_6 d).2.2.1)
set_option maxRecDepth 100000 in
set_option maxHeartbeats 4000000 in
theorem r_6 (ll : Launch) (cx : CX) : ∀ d : Nat, (∀ (x1 : Int32) (x2 : Int32) (x3 : Int32) (x4 : Int32) (m : Mm), MT ll yX0_above cX0_above 5 ((some .int)) (rmS_6 d) cx NN NN Lay cvI 0 0 [.ref (cx.2.2.1 + 100), .int x1, .int x2, .int x3, .int x4] m ((R_6 d).1 x1 x2 x3 x4 m)) ∧ (∀ (x1 : Int32) (x2 : Int32) (x3 : Int32) (x4 : Int32) (m : Mm), MT ll yX0_from cX0_from 7 ((some .int)) (rmS_6 d) cx NN NN Lay cvI 0 0 [.ref (cx.2.2.1 + 100), .int x1, .int x2, .int x3, .int x4] m ((R_6 d).2.1 x1 x2 x3 x4 m)) ∧ (∀ (x1 : Int32) (x2 : Int32) (x3 : Int32) (m : Mm), MT ll yX0_own cX0_own 4 ((some .int)) (rmS_6 d) cx NN NN Lay cvI 0 0 [.ref (cx.2.2.1 + 100), .int x1, .int x2, .int x3] m ((R_6 d).2.2.1 x1 x2 x3 m)) ∧ (∀ (x1 : Int32) (x2 : Int32) (x3 : Int32) (m : Mm), MT ll yX0_run cX0_run 4 ((some .int)) (rmS_6 d) cx NN NN Lay cvI 0 0 [.ref (cx.2.2.1 + 100), .int x1, .int x2, .int x3] m ((R_6 d).2.2.2 x1 x2 x3 m))
  | 0 => ⟨fun _ _ _ _ _ => fun r μ1 h => (by cases (show (none : Option (Int32 × Mm)) = some (r, μ1) from h)), fun _ _ _ _ _ => fun r μ1 h => (by cases (show (none : Option (Int32 × Mm)) = some (r, μ1) from h)), fun _ _ _ _ => fun r μ1 h => (by cases (show (none : Option (Int32 × Mm)) = some (r, μ1) from h)), fun _ _ _ _ => fun r μ1 h => (by cases (show (none : Option (Int32 × Mm)) = some (r, μ1) from h))⟩
  | d + 1 => ⟨b_X0_above _ (r_6 ll cx d).2.1, b_X0_from _ (r_6 ll cx d).2.2.2, b_X0_own _ (r_6 ll cx d).2.1, b_X0_run _ _ (r_6 ll cx d).1 (r_6 ll cx d).2.2.1⟩
def F_X0_above (x1 : Int32) (x2 : Int32) (x3 : Int32) (x4 : Int32) (m : Mm) : Option (Int32 × Mm) := (R_6 200).1 x1 x2 x3 x4 m
theorem c_X0_above (ll : Launch) (cx : CX) (x1 : Int32) (x2 : Int32) (x3 : Int32) (x4 : Int32) (m : Mm) : MT ll yX0_above cX0_above 5 ((some .int)) (rmS_6 200) cx NN NN Lay cvI 0 0 [.ref (cx.2.2.1 + 100), .int x1, .int x2, .int x3, .int x4] m (F_X0_above x1 x2 x3 x4 m) := (r_6 ll cx 200).1 x1 x2 x3 x4 m
def F_X0_from (x1 : Int32) (x2 : Int32) (x3 : Int32) (x4 : Int32) (m : Mm) : Option (Int32 × Mm) := (R_6 200).2.1 x1 x2 x3 x4 m
theorem c_X0_from (ll : Launch) (cx : CX) (x1 : Int32) (x2 : Int32) (x3 : Int32) (x4 : Int32) (m : Mm) : MT ll yX0_from cX0_from 7 ((some .int)) (rmS_6 200) cx NN NN Lay cvI 0 0 [.ref (cx.2.2.1 + 100), .int x1, .int x2, .int x3, .int x4] m (F_X0_from x1 x2 x3 x4 m) := (r_6 ll cx 200).2.1 x1 x2 x3 x4 m
def F_X0_own (x1 : Int32) (x2 : Int32) (x3 : Int32) (m : Mm) : Option (Int32 × Mm) := (R_6 200).2.2.1 x1 x2 x3 m
theorem c_X0_own (ll : Launch) (cx : CX) (x1 : Int32) (x2 : Int32) (x3 : Int32) (m : Mm) : MT ll yX0_own cX0_own 4 ((some .int)) (rmS_6 200) cx NN NN Lay cvI 0 0 [.ref (cx.2.2.1 + 100), .int x1, .int x2, .int x3] m (F_X0_own x1 x2 x3 m) := (r_6 ll cx 200).2.2.1 x1 x2 x3 m
def F_X0_run (x1 : Int32) (x2 : Int32) (x3 : Int32) (m : Mm) : Option (Int32 × Mm) := (R_6 200).2.2.2 x1 x2 x3 m
theorem c_X0_run (ll : Launch) (cx : CX) (x1 : Int32) (x2 : Int32) (x3 : Int32) (m : Mm) : MT ll yX0_run cX0_run 4 ((some .int)) (rmS_6 200) cx NN NN Lay cvI 0 0 [.ref (cx.2.2.1 + 100), .int x1, .int x2, .int x3] m (F_X0_run x1 x2 x3 m) := (r_6 ll cx 200).2.2.2 x1 x2 x3 m
def rm_X0_perform : Room := { frames := 204, cells := 0, slots := 0, locals := 5305 }
def F_X0_perform  (x1 : Int32) (x2 : Int32) (x3 : Int32) (m : Mm) : Option (Int32 × Mm) :=
  nm (pI m 100 3 (iI 0)) fun m1 =>
  bnd (F_X0_isThere x1 m1) fun v2 m3 =>
  (if v2 = iI 0 then
    some ((iI 0), m3)
  else
    (if x2 < iI 0 then
      some ((iI 0), m3)
    else
      (if x2 ≤ (iI 3) then
        nm (pI m3 100 4 x1) fun m4 =>
        bnd (F_X0_own x2 x3 (iI 0) m4) fun v5 m6 =>
        some (v5, m6)
      else
        some ((iI 0), m3))))
set_option maxRecDepth 100000 in
set_option maxHeartbeats 4000000 in
theorem c_X0_perform (ll : Launch) (cx : CX) (x1 : Int32) (x2 : Int32) (x3 : Int32) (m : Mm) : MT ll yX0_perform cX0_perform 4 ((some .int)) rm_X0_perform cx NN NN Lay cvI 0 0 [.ref (cx.2.2.1 + 100), .int x1, .int x2, .int x3] m (F_X0_perform x1 x2 x3 m) := by
  refine MT_of (by decide) (Nat.le_of_ble_eq_true rfl) ?_
  intro pp ee ss mm aa bb me co hK hr hk hn
  have C : CM pp ss mm aa me co cX0_perform 4 RX0 cx ((some .int)) := ⟨hK, hr, hk⟩
  show TI pp ll ee rm_X0_perform ss mm aa bb me co 4 cx 0 [(0, .ref (cx.2.2.1 + 100)), (1, .int x1), (2, .int x2), (3, .int x3)] [] m (F_X0_perform x1 x2 x3 m)
  unfold F_X0_perform
  refine T_aload_n C.1 dX0_perform_0 0 rfl ?_
  refine T_iconst C.1 dX0_perform_1 ?_
  refine T_putI C.1 LyI_Lay fd_X0_22 sh100 le100 dX0_perform_2 (fun m1 => ?_)
  refine T_aload_n C.1 dX0_perform_5 0 rfl ?_
  refine T_iload_n C.1 dX0_perform_6 1 rfl ?_
  refine T_callVI (rm := rm_X0_isThere) [.int x1] [] C.1 dX0_perform_7 mw_X0_isThere wm_4_82 wm_4_83 wm_4_84 ⟨Nat.le_of_ble_eq_true rfl, Nat.le_of_ble_eq_true rfl⟩ ⟨rfl, rfl⟩ ⟨Nat.zero_le _, Nat.zero_le _⟩ rfl rfl (Nat.le_of_ble_eq_true rfl) sh100 le100 ⟨rfl, rfl⟩ (c_X0_isThere ll cx x1 m1) (fun v2 m3 => ?_)
  refine T_if_eq (tgt := 22) C.1 dX0_perform_10 (by decide) ?_ ?_
  · refine T_iconst C.1 dX0_perform_22 ?_
    exact T_iret C.1 C.2.1 C.2.2 dX0_perform_23
  · refine T_iload_n C.1 dX0_perform_13 2 rfl ?_
    refine T_if_lt (tgt := 22) C.1 dX0_perform_14 (by decide) ?_ ?_
    · refine T_iconst C.1 dX0_perform_22 ?_
      exact T_iret C.1 C.2.1 C.2.2 dX0_perform_23
    · refine T_iload_n C.1 dX0_perform_17 2 rfl ?_
      refine T_iconst C.1 dX0_perform_18 ?_
      refine T_icmp_le (tgt := 24) C.1 dX0_perform_19 (by decide) ?_ ?_
      · refine T_aload_n C.1 dX0_perform_24 0 rfl ?_
        refine T_iload_n C.1 dX0_perform_25 1 rfl ?_
        refine T_putI C.1 LyI_Lay fd_X0_25 sh100 le100 dX0_perform_26 (fun m4 => ?_)
        refine T_aload_n C.1 dX0_perform_29 0 rfl ?_
        refine T_iload_n C.1 dX0_perform_30 2 rfl ?_
        refine T_iload_n C.1 dX0_perform_31 3 rfl ?_
        refine T_iconst C.1 dX0_perform_32 ?_
        refine T_callVI (rm := (rmS_6 200)) [.int x2, .int x3, .int (iI 0)] [] C.1 dX0_perform_33 mw_X0_own wm_4_86 wm_4_88 wm_p_30 ⟨Nat.le_of_ble_eq_true rfl, Nat.le_of_ble_eq_true rfl⟩ ⟨rfl, rfl⟩ ⟨Nat.zero_le _, Nat.zero_le _⟩ rfl rfl (Nat.le_of_ble_eq_true rfl) sh100 le100 ⟨rfl, rfl⟩ (c_X0_own ll cx x2 x3 (iI 0) m4) (fun v5 m6 => ?_)
        exact T_iret C.1 C.2.1 C.2.2 dX0_perform_36
      · refine T_iconst C.1 dX0_perform_22 ?_
        exact T_iret C.1 C.2.1 C.2.2 dX0_perform_23
def rm_X1_forgetOldest : Room := { frames := 1, cells := 0, slots := 0, locals := 40 }
def F_X1_forgetOldest   (m : Mm) : Option (Unit × Mm) :=
  cpI 40 40 m 12 (iI 1) 12 (iI 0) (iI 39) fun m1 =>
  cpI 40 40 m1 13 (iI 1) 13 (iI 0) (iI 39) fun m2 =>
  cpI 40 40 m2 14 (iI 1) 14 (iI 0) (iI 39) fun m3 =>
  cpI 40 40 m3 15 (iI 1) 15 (iI 0) (iI 39) fun m4 =>
  nm (pI m4 11 4 (iI 39)) fun m5 =>
  some ((), m5)
set_option maxRecDepth 100000 in
set_option maxHeartbeats 4000000 in
theorem c_X1_forgetOldest (ll : Launch) (cx : CX)  (m : Mm) : MT ll yX1_forgetOldest cX1_forgetOldest 1 (none) rm_X1_forgetOldest cx NN NN Lay cvV 0 0 [.ref (cx.2.2.1 + 11)] m (F_X1_forgetOldest  m) := by
  refine MT_of (by decide) (Nat.le_of_ble_eq_true rfl) ?_
  intro pp ee ss mm aa bb me co hK hr hk hn
  have C : CM pp ss mm aa me co cX1_forgetOldest 1 RX1 cx (none) := ⟨hK, hr, hk⟩
  show TV pp ll ee rm_X1_forgetOldest ss mm aa bb me co 1 cx 0 [(0, .ref (cx.2.2.1 + 11))] [] m (F_X1_forgetOldest  m)
  unfold F_X1_forgetOldest
  refine T_aload_n C.1 dX1_forgetOldest_0 0 rfl ?_
  refine T_getR (x := 12) C.1 fd_X1_9 (fun _ _ _ _ => rfl) sh11 le11 (fun _ h => h) rfl (by decide) dX1_forgetOldest_1 ?_
  refine T_iconst C.1 dX1_forgetOldest_4 ?_
  refine T_aload_n C.1 dX1_forgetOldest_5 0 rfl ?_
  refine T_getR (x := 12) C.1 fd_X1_9 (fun _ _ _ _ => rfl) sh11 le11 (fun _ h => h) rfl (by decide) dX1_forgetOldest_6 ?_
  refine T_iconst C.1 dX1_forgetOldest_9 ?_
  refine T_bipush C.1 dX1_forgetOldest_10 rfl ?_
  refine T_cpI C.1 (fun _ _ _ h => h) dX1_forgetOldest_12 wm_2_147 wx_ac_1 wx_ac_2 wx_sys sh12 le12 sh12 le12 (Nat.le_of_ble_eq_true rfl) (Nat.le_of_ble_eq_true rfl) (fun m1 => ?_)
  refine T_aload_n C.1 dX1_forgetOldest_15 0 rfl ?_
  refine T_getR (x := 13) C.1 fd_X1_13 (fun _ _ _ _ => rfl) sh11 le11 (fun _ h => h) rfl (by decide) dX1_forgetOldest_16 ?_
  refine T_iconst C.1 dX1_forgetOldest_19 ?_
  refine T_aload_n C.1 dX1_forgetOldest_20 0 rfl ?_
  refine T_getR (x := 13) C.1 fd_X1_13 (fun _ _ _ _ => rfl) sh11 le11 (fun _ h => h) rfl (by decide) dX1_forgetOldest_21 ?_
  refine T_iconst C.1 dX1_forgetOldest_24 ?_
  refine T_bipush C.1 dX1_forgetOldest_25 rfl ?_
  refine T_cpI C.1 (fun _ _ _ h => h) dX1_forgetOldest_27 wm_2_147 wx_ac_1 wx_ac_2 wx_sys sh13 le13 sh13 le13 (Nat.le_of_ble_eq_true rfl) (Nat.le_of_ble_eq_true rfl) (fun m2 => ?_)
  refine T_aload_n C.1 dX1_forgetOldest_30 0 rfl ?_
  refine T_getR (x := 14) C.1 fd_X1_16 (fun _ _ _ _ => rfl) sh11 le11 (fun _ h => h) rfl (by decide) dX1_forgetOldest_31 ?_
  refine T_iconst C.1 dX1_forgetOldest_34 ?_
  refine T_aload_n C.1 dX1_forgetOldest_35 0 rfl ?_
  refine T_getR (x := 14) C.1 fd_X1_16 (fun _ _ _ _ => rfl) sh11 le11 (fun _ h => h) rfl (by decide) dX1_forgetOldest_36 ?_
  refine T_iconst C.1 dX1_forgetOldest_39 ?_
  refine T_bipush C.1 dX1_forgetOldest_40 rfl ?_
  refine T_cpI C.1 (fun _ _ _ h => h) dX1_forgetOldest_42 wm_2_147 wx_ac_1 wx_ac_2 wx_sys sh14 le14 sh14 le14 (Nat.le_of_ble_eq_true rfl) (Nat.le_of_ble_eq_true rfl) (fun m3 => ?_)
  refine T_aload_n C.1 dX1_forgetOldest_45 0 rfl ?_
  refine T_getR (x := 15) C.1 fd_X1_19 (fun _ _ _ _ => rfl) sh11 le11 (fun _ h => h) rfl (by decide) dX1_forgetOldest_46 ?_
  refine T_iconst C.1 dX1_forgetOldest_49 ?_
  refine T_aload_n C.1 dX1_forgetOldest_50 0 rfl ?_
  refine T_getR (x := 15) C.1 fd_X1_19 (fun _ _ _ _ => rfl) sh11 le11 (fun _ h => h) rfl (by decide) dX1_forgetOldest_51 ?_
  refine T_iconst C.1 dX1_forgetOldest_54 ?_
  refine T_bipush C.1 dX1_forgetOldest_55 rfl ?_
  refine T_cpI C.1 (fun _ _ _ h => h) dX1_forgetOldest_57 wm_2_147 wx_ac_1 wx_ac_2 wx_sys sh15 le15 sh15 le15 (Nat.le_of_ble_eq_true rfl) (Nat.le_of_ble_eq_true rfl) (fun m4 => ?_)
  refine T_aload_n C.1 dX1_forgetOldest_60 0 rfl ?_
  refine T_bipush C.1 dX1_forgetOldest_61 rfl ?_
  refine T_putI C.1 LyI_Lay fd_X1_22 sh11 le11 dX1_forgetOldest_63 (fun m5 => ?_)
  exact T_vret C.1 C.2.1 C.2.2 dX1_forgetOldest_66
def rm_X1_note : Room := { frames := 2, cells := 0, slots := 0, locals := 60 }
def F_X1_note_20  (a1 : Int32) (a2 : Int32) (a3 : Int32) (a4 : Int32) (m : Mm) : Option (Unit × Mm) :=
  wrI 40 m 12 (gI m 11 4) a1 fun m1 =>
  wrI 40 m1 13 (gI m1 11 4) a2 fun m2 =>
  wrI 40 m2 14 (gI m2 11 4) a3 fun m3 =>
  wrI 40 m3 15 (gI m3 11 4) a4 fun m4 =>
  nm (pI m4 11 4 ((gI m4 11 4) + (iI 1))) fun m5 =>
  nm (pI m5 11 5 (gI m5 11 4)) fun m6 =>
  some ((), m6)
set_option maxRecDepth 100000 in
set_option maxHeartbeats 4000000 in
theorem t_X1_note_20 {pp : Program} {ll : Launch} {ee : Env} {ss : State} {mm : MethodId} {aa : Array Value} {bb : List Frame} {me : Method} {co : Code} {cx : CX}     (C : CM pp ss mm aa me co cX1_note 5 RX1 cx (none))    (a1 : Int32) (a2 : Int32) (a3 : Int32) (a4 : Int32) (m : Mm) : TV pp ll ee rm_X1_note ss mm aa bb me co 5 cx 20 [(0, .ref (cx.2.2.1 + 11)), (1, .int a1), (2, .int a2), (3, .int a3), (4, .int a4)] [] m (F_X1_note_20  a1 a2 a3 a4 m) := by
  unfold F_X1_note_20
  refine T_aload_n C.1 dX1_note_20 0 rfl ?_
  refine T_getR (x := 12) C.1 fd_X1_9 (fun _ _ _ _ => rfl) sh11 le11 (fun _ h => h) rfl (by decide) dX1_note_21 ?_
  refine T_aload_n C.1 dX1_note_24 0 rfl ?_
  refine T_getI C.1 fd_X1_22 (fun _ _ _ _ => rfl) sh11 le11 dX1_note_25 ?_
  refine T_iload_n C.1 dX1_note_28 1 rfl ?_
  refine T_iast C.1 LyI_Lay sh12 le12 dX1_note_29 (fun m1 => ?_)
  refine T_aload_n C.1 dX1_note_30 0 rfl ?_
  refine T_getR (x := 13) C.1 fd_X1_13 (fun _ _ _ _ => rfl) sh11 le11 (fun _ h => h) rfl (by decide) dX1_note_31 ?_
  refine T_aload_n C.1 dX1_note_34 0 rfl ?_
  refine T_getI C.1 fd_X1_22 (fun _ _ _ _ => rfl) sh11 le11 dX1_note_35 ?_
  refine T_iload_n C.1 dX1_note_38 2 rfl ?_
  refine T_iast C.1 LyI_Lay sh13 le13 dX1_note_39 (fun m2 => ?_)
  refine T_aload_n C.1 dX1_note_40 0 rfl ?_
  refine T_getR (x := 14) C.1 fd_X1_16 (fun _ _ _ _ => rfl) sh11 le11 (fun _ h => h) rfl (by decide) dX1_note_41 ?_
  refine T_aload_n C.1 dX1_note_44 0 rfl ?_
  refine T_getI C.1 fd_X1_22 (fun _ _ _ _ => rfl) sh11 le11 dX1_note_45 ?_
  refine T_iload_n C.1 dX1_note_48 3 rfl ?_
  refine T_iast C.1 LyI_Lay sh14 le14 dX1_note_49 (fun m3 => ?_)
  refine T_aload_n C.1 dX1_note_50 0 rfl ?_
  refine T_getR (x := 15) C.1 fd_X1_19 (fun _ _ _ _ => rfl) sh11 le11 (fun _ h => h) rfl (by decide) dX1_note_51 ?_
  refine T_aload_n C.1 dX1_note_54 0 rfl ?_
  refine T_getI C.1 fd_X1_22 (fun _ _ _ _ => rfl) sh11 le11 dX1_note_55 ?_
  refine T_iload C.1 dX1_note_58 4 rfl ?_
  refine T_iast C.1 LyI_Lay sh15 le15 dX1_note_60 (fun m4 => ?_)
  refine T_aload_n C.1 dX1_note_61 0 rfl ?_
  refine T_dup C.1 dX1_note_62 rfl ?_
  refine T_getI C.1 fd_X1_22 (fun _ _ _ _ => rfl) sh11 le11 dX1_note_63 ?_
  refine T_iconst C.1 dX1_note_66 ?_
  refine T_iadd C.1 dX1_note_67 ?_
  refine T_putI C.1 LyI_Lay fd_X1_22 sh11 le11 dX1_note_68 (fun m5 => ?_)
  refine T_aload_n C.1 dX1_note_71 0 rfl ?_
  refine T_aload_n C.1 dX1_note_72 0 rfl ?_
  refine T_getI C.1 fd_X1_22 (fun _ _ _ _ => rfl) sh11 le11 dX1_note_73 ?_
  refine T_putI C.1 LyI_Lay fd_X1_26 sh11 le11 dX1_note_76 (fun m6 => ?_)
  exact T_vret C.1 C.2.1 C.2.2 dX1_note_79
def F_X1_note  (x1 : Int32) (x2 : Int32) (x3 : Int32) (x4 : Int32) (m : Mm) : Option (Unit × Mm) :=
  (if x3 = x4 then
    some ((), m)
  else
    (if (gI m 11 4) < (iI 40) then
      F_X1_note_20 x1 x2 x3 x4 m
    else
      bnd (F_X1_forgetOldest m) fun _ m2 =>
      F_X1_note_20 x1 x2 x3 x4 m2))
set_option maxRecDepth 100000 in
set_option maxHeartbeats 4000000 in
theorem c_X1_note (ll : Launch) (cx : CX) (x1 : Int32) (x2 : Int32) (x3 : Int32) (x4 : Int32) (m : Mm) : MT ll yX1_note cX1_note 5 (none) rm_X1_note cx NN NN Lay cvV 0 0 [.ref (cx.2.2.1 + 11), .int x1, .int x2, .int x3, .int x4] m (F_X1_note x1 x2 x3 x4 m) := by
  refine MT_of (by decide) (Nat.le_of_ble_eq_true rfl) ?_
  intro pp ee ss mm aa bb me co hK hr hk hn
  have C : CM pp ss mm aa me co cX1_note 5 RX1 cx (none) := ⟨hK, hr, hk⟩
  show TV pp ll ee rm_X1_note ss mm aa bb me co 5 cx 0 [(0, .ref (cx.2.2.1 + 11)), (1, .int x1), (2, .int x2), (3, .int x3), (4, .int x4)] [] m (F_X1_note x1 x2 x3 x4 m)
  unfold F_X1_note
  refine T_iload_n C.1 dX1_note_0 3 rfl ?_
  refine T_iload C.1 dX1_note_1 4 rfl ?_
  refine T_icmp_ne (tgt := 7) C.1 dX1_note_3 (by decide) ?_ ?_
  · refine T_aload_n C.1 dX1_note_7 0 rfl ?_
    refine T_getI C.1 fd_X1_22 (fun _ _ _ _ => rfl) sh11 le11 dX1_note_8 ?_
    refine T_bipush C.1 dX1_note_11 rfl ?_
    refine T_icmp_lt (tgt := 20) C.1 dX1_note_13 (by decide) ?_ ?_
    · exact T_sub [0, 1, 2, 3, 4] rfl (t_X1_note_20 C x1 x2 x3 x4 m)
    · refine T_aload_n C.1 dX1_note_16 0 rfl ?_
      refine T_callVV (rm := rm_X1_forgetOldest) [] [] C.1 dX1_note_17 mw_X1_forgetOldest wm_2_143 wm_2_145 wm_p_2 ⟨Nat.le_of_ble_eq_true rfl, Nat.le_of_ble_eq_true rfl⟩ ⟨rfl, rfl⟩ ⟨Nat.zero_le _, Nat.zero_le _⟩ rfl rfl (Nat.le_of_ble_eq_true rfl) sh11 le11 ⟨rfl, rfl⟩ (c_X1_forgetOldest ll cx m) (fun u1 m2 => ?_)
      exact T_sub [0, 1, 2, 3, 4] rfl (t_X1_note_20 C x1 x2 x3 x4 m2)
  · exact T_vret C.1 C.2.1 C.2.2 dX1_note_6
def rm_X4_isOne : Room := { frames := 1, cells := 0, slots := 0, locals := 40 }
def F_X4_isOne  (x1 : Int32) (m : Mm) : Option (Int32 × Mm) :=
  (if x1 < iI 0 then
    rz (iI 0) m
  else
    (if (gI m 2 0) ≤ x1 then
      rz (iI 0) m
    else
      rz (iI 1) m))
set_option maxRecDepth 100000 in
set_option maxHeartbeats 4000000 in
theorem c_X4_isOne (ll : Launch) (cx : CX) (x1 : Int32) (m : Mm) : MT ll yX4_isOne cX4_isOne 2 ((some .boolean)) rm_X4_isOne cx NN NN Lay cvI 0 0 [.ref (cx.2.2.1 + 2), .int x1] m (F_X4_isOne x1 m) := by
  refine MT_of (by decide) (Nat.le_of_ble_eq_true rfl) ?_
  intro pp ee ss mm aa bb me co hK hr hk hn
  have C : CM pp ss mm aa me co cX4_isOne 2 RX4 cx ((some .boolean)) := ⟨hK, hr, hk⟩
  show TI pp ll ee rm_X4_isOne ss mm aa bb me co 2 cx 0 [(0, .ref (cx.2.2.1 + 2)), (1, .int x1)] [] m (F_X4_isOne x1 m)
  unfold F_X4_isOne
  refine T_iload_n C.1 dX4_isOne_0 1 rfl ?_
  refine T_if_lt (tgt := 16) C.1 dX4_isOne_1 (by decide) ?_ ?_
  · refine T_iconst C.1 dX4_isOne_16 ?_
    exact T_zret C.1 C.2.1 C.2.2 dX4_isOne_17
  · refine T_iload_n C.1 dX4_isOne_4 1 rfl ?_
    refine T_aload_n C.1 dX4_isOne_5 0 rfl ?_
    refine T_getI C.1 fd_X4_9 (fun _ _ _ _ => rfl) sh2 le2 dX4_isOne_6 ?_
    refine T_icmp_ge (tgt := 16) C.1 dX4_isOne_9 (by decide) ?_ ?_
    · refine T_iconst C.1 dX4_isOne_16 ?_
      exact T_zret C.1 C.2.1 C.2.2 dX4_isOne_17
    · refine T_iconst C.1 dX4_isOne_12 ?_
      refine T_goto (tgt := 17) C.1 dX4_isOne_13 (by decide) ?_
      exact T_zret C.1 C.2.1 C.2.2 dX4_isOne_17
