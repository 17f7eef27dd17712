def rm_X7_unlike : Room := { frames := 1, cells := 0, slots := 0, locals := 40 }
def F_X7_unlike_16  : Nat → Int32 → Int32 → Int32 → Mm → Option (Int32 × Mm)
  | 0, _, _, _, _ => none
  | f + 1, a1, a2, a3, m =>
    (if (gI m 2 0) ≤ a3 then
      some ((a1 - a2), m)
    else
      rd 7 a3 fun j1 =>
      nm (mxI a1 (gI m 49 j1)) fun v2 =>
      rd 7 a3 fun j3 =>
      nm (mnI a2 (gI m 49 j3)) fun v4 =>
      nm (a3 + (iI 1)) fun v5 =>
      F_X7_unlike_16  f v2 v4 v5 m)
set_option maxRecDepth 100000 in
set_option maxHeartbeats 4000000 in
theorem t_X7_unlike_16 {wn : Nat} (hn : NN ≤ wn) {pp : Program} {ll : Launch} {ee : Env} {ss : State} {mm : MethodId} {aa : Array Value} {bb : List Frame} {me : Method} {co : Code} {cx : CX}     (C : CM pp ss mm aa me co cX7_unlike 4 RX7 cx ((some .int)))    : ∀ (f : Nat) (a1 : Int32) (a2 : Int32) (a3 : Int32) (m : Mm), TI pp ll ee rm_X7_unlike ss mm aa bb me co 4 cx wn 16 [(0, .ref (cx.2.2.1 + 33)), (1, .int a1), (2, .int a2), (3, .int a3)] [] m (F_X7_unlike_16  f a1 a2 a3 m) := by
  intro f
  induction f with
  | zero => exact fun _ _ _ _ => T_none
  | succ f ih =>
    intro a1 a2 a3 m
    unfold F_X7_unlike_16
    refine T_iload_n C.1 dX7_unlike_16 3 rfl ?_
    refine T_aload_n C.1 dX7_unlike_17 0 rfl ?_
    refine T_getR (x := 2) C.1 fd_X7_43 (fun _ _ _ _ => rfl) sh33 (Nat.le_trans le33 hn) (fun _ h => h) rfl (by decide) dX7_unlike_18 ?_
    refine T_getI C.1 fd_X7_52 (fun _ _ _ _ => rfl) sh2 (Nat.le_trans le2 hn) dX7_unlike_21 ?_
    refine T_icmp_ge (tgt := 55) C.1 dX7_unlike_24 (by decide) ?_ ?_
    · refine T_iload_n C.1 dX7_unlike_55 1 rfl ?_
      refine T_iload_n C.1 dX7_unlike_56 2 rfl ?_
      refine T_isub C.1 dX7_unlike_57 ?_
      exact T_iret C.1 C.2.1 C.2.2 dX7_unlike_58
    · refine T_iload_n C.1 dX7_unlike_27 1 rfl ?_
      refine T_aload_n C.1 dX7_unlike_28 0 rfl ?_
      refine T_getR (x := 49) C.1 fd_X7_32 (fun _ _ _ _ => rfl) sh33 (Nat.le_trans le33 hn) (fun _ h => h) rfl (by decide) dX7_unlike_29 ?_
      refine T_iload_n C.1 dX7_unlike_32 3 rfl ?_
      refine T_iald C.1 dX7_unlike_33 sh49 (Nat.le_trans le49 hn) (fun j1 => ?_)
      refine T_mmax C.1 dX7_unlike_34 wm_3_41 wx_mmax_1 wx_math wx_mmax_2 (Nat.le_of_ble_eq_true rfl) (Nat.le_of_ble_eq_true rfl) ⟨Nat.zero_le _, Nat.zero_le _⟩ ?_
      refine T_istore_nN C.1 (fun v2 => [(1, .int v2), (0, .ref (cx.2.2.1 + 33)), (2, .int a2), (3, .int a3)]) dX7_unlike_37 (by decide) (fun _ => rfl) (fun v2 => ?_)
      refine T_iload_n C.1 dX7_unlike_38 2 rfl ?_
      refine T_aload_n C.1 dX7_unlike_39 1 rfl ?_
      refine T_getR (x := 49) C.1 fd_X7_32 (fun _ _ _ _ => rfl) sh33 (Nat.le_trans le33 hn) (fun _ h => h) rfl (by decide) dX7_unlike_40 ?_
      refine T_iload_n C.1 dX7_unlike_43 3 rfl ?_
      refine T_iald C.1 dX7_unlike_44 sh49 (Nat.le_trans le49 hn) (fun j3 => ?_)
      refine T_mmin C.1 dX7_unlike_45 wm_3_85 wx_mmin_1 wx_math wx_mmin_2 (Nat.le_of_ble_eq_true rfl) (Nat.le_of_ble_eq_true rfl) ⟨Nat.zero_le _, Nat.zero_le _⟩ ?_
      refine T_istore_nN C.1 (fun v4 => [(2, .int v4), (1, .int v2), (0, .ref (cx.2.2.1 + 33)), (3, .int a3)]) dX7_unlike_48 (by decide) (fun _ => rfl) (fun v4 => ?_)
      refine T_iincN C.1 (fun v5 => [(3, .int v5), (2, .int v4), (1, .int v2), (0, .ref (cx.2.2.1 + 33))]) dX7_unlike_49 3 rfl (by decide) (fun _ => rfl) (fun v5 => ?_)
      refine T_goto (tgt := 16) C.1 dX7_unlike_52 (by decide) ?_
      exact T_sub [3, 2, 1, 0] rfl (ih v2 v4 v5 m)
def F_X7_unlike   (m : Mm) : Option (Int32 × Mm) :=
  rd 7 (iI 0) fun j1 =>
  nm (gI m 49 j1) fun v2 =>
  rd 7 (iI 0) fun j3 =>
  nm (gI m 49 j3) fun v4 =>
  F_X7_unlike_16 FU v2 v4 (iI 1) m
set_option maxRecDepth 100000 in
set_option maxHeartbeats 4000000 in
theorem c_X7_unlike {wn : Nat} (hn : NN ≤ wn) (ll : Launch) (cx : CX)  (m : Mm) : MT ll yX7_unlike cX7_unlike 4 ((some .int)) rm_X7_unlike cx wn wn Lay cvI 0 0 [.ref (cx.2.2.1 + 33)] m (F_X7_unlike  m) := by
  refine MT_of (by decide) (Nat.le_of_ble_eq_true rfl) ?_
  intro pp ee ss mm aa bb me co hK hr hk hn0
  have C : CM pp ss mm aa me co cX7_unlike 4 RX7 cx ((some .int)) := ⟨hK, hr, hk⟩
  show TI pp ll ee rm_X7_unlike ss mm aa bb me co 4 cx wn 0 [(0, .ref (cx.2.2.1 + 33))] [] m (F_X7_unlike  m)
  unfold F_X7_unlike
  refine T_aload_n C.1 dX7_unlike_0 0 rfl ?_
  refine T_getR (x := 49) C.1 fd_X7_32 (fun _ _ _ _ => rfl) sh33 (Nat.le_trans le33 hn) (fun _ h => h) rfl (by decide) dX7_unlike_1 ?_
  refine T_iconst C.1 dX7_unlike_4 ?_
  refine T_iald C.1 dX7_unlike_5 sh49 (Nat.le_trans le49 hn) (fun j1 => ?_)
  refine T_istore_nN C.1 (fun v2 => [(1, .int v2), (0, .ref (cx.2.2.1 + 33))]) dX7_unlike_6 (by decide) (fun _ => rfl) (fun v2 => ?_)
  refine T_aload_n C.1 dX7_unlike_7 1 rfl ?_
  refine T_getR (x := 49) C.1 fd_X7_32 (fun _ _ _ _ => rfl) sh33 (Nat.le_trans le33 hn) (fun _ h => h) rfl (by decide) dX7_unlike_8 ?_
  refine T_iconst C.1 dX7_unlike_11 ?_
  refine T_iald C.1 dX7_unlike_12 sh49 (Nat.le_trans le49 hn) (fun j3 => ?_)
  refine T_istore_nN C.1 (fun v4 => [(2, .int v4), (1, .int v2), (0, .ref (cx.2.2.1 + 33))]) dX7_unlike_13 (by decide) (fun _ => rfl) (fun v4 => ?_)
  refine T_iconst C.1 dX7_unlike_14 ?_
  refine T_istore_n (lv' := [(3, .int (iI 1)), (2, .int v4), (1, .int v2), (0, .ref (cx.2.2.1 + 33))]) C.1 dX7_unlike_15 (by decide) rfl ?_
  exact T_sub [3, 2, 1, 0] rfl (t_X7_unlike_16 hn C FU v2 v4 (iI 1) m)
def rm_X7_hear : Room := { frames := 1, cells := 0, slots := 0, locals := 40 }
def F_X7_hear  (r1 : Nat) (x2 : Int32) (m : Mm) : Option (Unit × Mm) :=
  (if shp r1 = (5, 60) then
    nm (pR m 33 7 r1) fun m1 =>
    nm (pI m1 33 8 x2) fun m2 =>
    some ((), m2)
  else none)
set_option maxRecDepth 100000 in
set_option maxHeartbeats 4000000 in
theorem c_X7_hear {wn : Nat} (hn : NN ≤ wn) (ll : Launch) (cx : CX) (r1 : Nat) (x2 : Int32) (m : Mm) : MT ll yX7_hear cX7_hear 3 (none) rm_X7_hear cx wn wn Lay cvV 0 0 [.ref (cx.2.2.1 + 33), .ref (cx.2.2.1 + r1), .int x2] m (F_X7_hear r1 x2 m) := by
  refine MT_of (by decide) (Nat.le_of_ble_eq_true rfl) ?_
  intro pp ee ss mm aa bb me co hK hr hk hn0
  have C : CM pp ss mm aa me co cX7_hear 3 RX7 cx (none) := ⟨hK, hr, hk⟩
  show TV pp ll ee rm_X7_hear ss mm aa bb me co 3 cx wn 0 [(0, .ref (cx.2.2.1 + 33)), (1, .ref (cx.2.2.1 + r1)), (2, .int x2)] [] m (F_X7_hear r1 x2 m)
  unfold F_X7_hear
  refine T_if (fun hr1 => ?_) (fun _ => T_none)
  refine T_aload_n C.1 dX7_hear_0 0 rfl ?_
  refine T_aload_n C.1 dX7_hear_1 1 rfl ?_
  refine T_putD C.1 (fun _ _ _ _ => rfl) (fun _ => rfl) (fun _ => rfl) fd_X7_35 sh33 (Nat.le_trans le33 hn) (shp_pk hr1 (by decide)) (fun _ _ h => Lay_pR h sh33 (fun _ => rfl) (fun _ => rfl)) dX7_hear_2 (fun m1 => ?_)
  refine T_aload_n C.1 dX7_hear_5 0 rfl ?_
  refine T_iload_n C.1 dX7_hear_6 2 rfl ?_
  refine T_putI C.1 LyI_Lay fd_X7_39 sh33 (Nat.le_trans le33 hn) dX7_hear_7 (fun m2 => ?_)
  exact T_vret C.1 C.2.1 C.2.2 dX7_hear_10
def rm_X7_firstUnlikeTold : Room := { frames := 1, cells := 0, slots := 0, locals := 40 }
def F_X7_firstUnlikeTold_2 (r1 : Nat) : Nat → Int32 → Mm → Option (Int32 × Mm)
  | 0, _, _ => none
  | f + 1, a1, m =>
    (if (gI m 2 0) ≤ a1 then
      some ((iI (-2)), m)
    else
      (if gR m 33 7 = 0 then
        some ((iI (-2)), m)
      else
        (if (gI m 33 8) ≤ a1 then
          some ((iI (-2)), m)
        else
          gdS (5, 60) (gR m 33 7) fun q1 =>
          (if (iI 60) ≤ a1 then
            some ((iI (-2)), m)
          else
            gdS (5, 60) (gR m 33 7) fun q2 =>
            rd 60 a1 fun j3 =>
            rd 7 a1 fun j4 =>
            (if (lg_cmp (gL m q2 j3) ((gI m (r1 + 2) j4).toInt64)) = iI 0 then
              nm (a1 + (iI 1)) fun v5 =>
              F_X7_firstUnlikeTold_2 r1 f v5 m
            else
              some (a1, m))))))
set_option maxRecDepth 100000 in
set_option maxHeartbeats 4000000 in
theorem t_X7_firstUnlikeTold_2 {wn : Nat} (hn : NN ≤ wn) {pp : Program} {ll : Launch} {ee : Env} {ss : State} {mm : MethodId} {aa : Array Value} {bb : List Frame} {me : Method} {co : Code} {cx : CX}    {r1 : Nat} (C : CM pp ss mm aa me co cX7_firstUnlikeTold 3 RX7 cx ((some .int))) (hr1 : shp r1 = (9, 2))   : ∀ (f : Nat) (a1 : Int32) (m : Mm), TI pp ll ee rm_X7_firstUnlikeTold ss mm aa bb me co 3 cx wn 2 [(0, .ref (cx.2.2.1 + 33)), (1, .ref (cx.2.2.1 + r1)), (2, .int a1)] [] m (F_X7_firstUnlikeTold_2 r1 f a1 m) := by
  intro f
  induction f with
  | zero => exact fun _ _ => T_none
  | succ f ih =>
    intro a1 m
    unfold F_X7_firstUnlikeTold_2
    refine T_iload_n C.1 dX7_firstUnlikeTold_2 2 rfl ?_
    refine T_aload_n C.1 dX7_firstUnlikeTold_3 0 rfl ?_
    refine T_getR (x := 2) C.1 fd_X7_43 (fun _ _ _ _ => rfl) sh33 (Nat.le_trans le33 hn) (fun _ h => h) rfl (by decide) dX7_firstUnlikeTold_4 ?_
    refine T_getI C.1 fd_X7_52 (fun _ _ _ _ => rfl) sh2 (Nat.le_trans le2 hn) dX7_firstUnlikeTold_7 ?_
    refine T_icmp_ge (tgt := 62) C.1 dX7_firstUnlikeTold_10 (by decide) ?_ ?_
    · refine T_bipush C.1 dX7_firstUnlikeTold_62 rfl ?_
      exact T_iret C.1 C.2.1 C.2.2 dX7_firstUnlikeTold_64
    · refine T_aload_n C.1 dX7_firstUnlikeTold_13 0 rfl ?_
      refine T_getN (tgt := 62) C.1 fd_X7_35 (fun _ _ _ _ => rfl) sh33 (Nat.le_trans le33 hn) dX7_firstUnlikeTold_14 dX7_firstUnlikeTold_17 (by decide) ?_ ?_
      · refine T_bipush C.1 dX7_firstUnlikeTold_62 rfl ?_
        exact T_iret C.1 C.2.1 C.2.2 dX7_firstUnlikeTold_64
      · refine T_iload_n C.1 dX7_firstUnlikeTold_20 2 rfl ?_
        refine T_aload_n C.1 dX7_firstUnlikeTold_21 0 rfl ?_
        refine T_getI C.1 fd_X7_39 (fun _ _ _ _ => rfl) sh33 (Nat.le_trans le33 hn) dX7_firstUnlikeTold_22 ?_
        refine T_icmp_ge (tgt := 62) C.1 dX7_firstUnlikeTold_25 (by decide) ?_ ?_
        · refine T_bipush C.1 dX7_firstUnlikeTold_62 rfl ?_
          exact T_iret C.1 C.2.1 C.2.2 dX7_firstUnlikeTold_64
        · refine T_iload_n C.1 dX7_firstUnlikeTold_28 2 rfl ?_
          refine T_aload_n C.1 dX7_firstUnlikeTold_29 0 rfl ?_
          refine T_getS C.1 fd_X7_35 (fun _ _ _ _ => rfl) sh33 (Nat.le_trans le33 hn) (by decide) dX7_firstUnlikeTold_30 (fun q1 hq1 => ?_)
          refine T_alenL C.1 dX7_firstUnlikeTold_33 hq1 (Nat.le_trans (shp_le hq1 (by decide)) hn) ?_
          refine T_icmp_ge (tgt := 62) C.1 dX7_firstUnlikeTold_34 (by decide) ?_ ?_
          · refine T_bipush C.1 dX7_firstUnlikeTold_62 rfl ?_
            exact T_iret C.1 C.2.1 C.2.2 dX7_firstUnlikeTold_64
          · refine T_aload_n C.1 dX7_firstUnlikeTold_37 0 rfl ?_
            refine T_getS C.1 fd_X7_35 (fun _ _ _ _ => rfl) sh33 (Nat.le_trans le33 hn) (by decide) dX7_firstUnlikeTold_38 (fun q2 hq2 => ?_)
            refine T_iload_n C.1 dX7_firstUnlikeTold_41 2 rfl ?_
            refine T_lald C.1 dX7_firstUnlikeTold_42 hq2 (Nat.le_trans (shp_le hq2 (by decide)) hn) (fun j3 => ?_)
            refine T_aload_n C.1 dX7_firstUnlikeTold_43 1 rfl ?_
            refine T_getR (x := (r1 + 2)) C.1 fd_X7_73 (fun _ _ _ _ => rfl) hr1 (Nat.le_trans (shp_le hr1 (by decide)) hn) (fun _ h => h) rfl (Nat.succ_ne_zero _) dX7_firstUnlikeTold_44 ?_
            refine T_iload_n C.1 dX7_firstUnlikeTold_47 2 rfl ?_
            refine T_iald C.1 dX7_firstUnlikeTold_48 (shr_2_2 hr1) (Nat.le_trans (shp_le (shr_2_2 hr1) (by decide)) hn) (fun j4 => ?_)
            refine T_i2l C.1 dX7_firstUnlikeTold_49 ?_
            refine T_lcmp C.1 dX7_firstUnlikeTold_50 ?_
            refine T_if_eq (tgt := 56) C.1 dX7_firstUnlikeTold_51 (by decide) ?_ ?_
            · refine T_iincN C.1 (fun v5 => [(2, .int v5), (0, .ref (cx.2.2.1 + 33)), (1, .ref (cx.2.2.1 + r1))]) dX7_firstUnlikeTold_56 2 rfl (by decide) (fun _ => rfl) (fun v5 => ?_)
              refine T_goto (tgt := 2) C.1 dX7_firstUnlikeTold_59 (by decide) ?_
              exact T_sub [1, 2, 0] rfl (ih v5 m)
            · refine T_iload_n C.1 dX7_firstUnlikeTold_54 2 rfl ?_
              exact T_iret C.1 C.2.1 C.2.2 dX7_firstUnlikeTold_55
def F_X7_firstUnlikeTold  (r1 : Nat) (m : Mm) : Option (Int32 × Mm) :=
  (if shp r1 = (9, 2) then
    F_X7_firstUnlikeTold_2 r1 FU (iI 0) m
  else none)
set_option maxRecDepth 100000 in
set_option maxHeartbeats 4000000 in
theorem c_X7_firstUnlikeTold {wn : Nat} (hn : NN ≤ wn) (ll : Launch) (cx : CX) (r1 : Nat) (m : Mm) : MT ll yX7_firstUnlikeTold cX7_firstUnlikeTold 3 ((some .int)) rm_X7_firstUnlikeTold cx wn wn Lay cvI 0 0 [.ref (cx.2.2.1 + 33), .ref (cx.2.2.1 + r1)] m (F_X7_firstUnlikeTold r1 m) := by
  refine MT_of (by decide) (Nat.le_of_ble_eq_true rfl) ?_
  intro pp ee ss mm aa bb me co hK hr hk hn0
  have C : CM pp ss mm aa me co cX7_firstUnlikeTold 3 RX7 cx ((some .int)) := ⟨hK, hr, hk⟩
  show TI pp ll ee rm_X7_firstUnlikeTold ss mm aa bb me co 3 cx wn 0 [(0, .ref (cx.2.2.1 + 33)), (1, .ref (cx.2.2.1 + r1))] [] m (F_X7_firstUnlikeTold r1 m)
  unfold F_X7_firstUnlikeTold
  refine T_if (fun hr1 => ?_) (fun _ => T_none)
  refine T_iconst C.1 dX7_firstUnlikeTold_0 ?_
  refine T_istore_n (lv' := [(2, .int (iI 0)), (0, .ref (cx.2.2.1 + 33)), (1, .ref (cx.2.2.1 + r1))]) C.1 dX7_firstUnlikeTold_1 (by decide) rfl ?_
  exact T_sub [1, 2, 0] rfl (t_X7_firstUnlikeTold_2 hn C hr1 FU (iI 0) m)
def rmS_77 (d : Nat) : Room := { frames := 5 + d, cells := 0, slots := 0, locals := 145 + 26 * d }
def F_X7_lotsBehind_26 (f_X7_lotsBehind : Int32 → Int32 → Mm → Option (Int32 × Mm)) (r10 : Nat) (m : Mm) : Option (Int32 × Mm) :=
  gdS (9, 2) r10 fun r10 =>
  bnd (F_X2_closeByLaw r10 m) fun _ m2 =>
  bnd (F_X7_firstUnlikeTold r10 m2) fun v3 m4 =>
  (if v3 = (iI (-2)) then
    some ((iI 1), m4)
  else
    some ((iI 0), m4))
set_option maxRecDepth 100000 in
set_option maxHeartbeats 4000000 in
theorem t_X7_lotsBehind_26 {wn : Nat} (hn : NN ≤ wn) {pp : Program} {ll : Launch} {ee : Env} {ss : State} {mm : MethodId} {aa : Array Value} {bb : List Frame} {me : Method} {co : Code} {cx : CX} {dd : Nat}  {f_X7_lotsBehind : Int32 → Int32 → Mm → Option (Int32 × Mm)}  (C : CM pp ss mm aa me co cX7_lotsBehind 7 RX7 cx ((some .int)))  (hf_X7_lotsBehind : ∀ (x1 : Int32) (x2 : Int32) (m : Mm), MT ll yX7_lotsBehind cX7_lotsBehind 7 ((some .int)) (rmS_77 dd) cx wn wn Lay cvI 0 0 [.ref (cx.2.2.1 + 33), .int x1, .int x2] m (f_X7_lotsBehind x1 x2 m))   (r10 : Nat) (m : Mm) : TI pp ll ee (rmS_77 (dd + 1)) ss mm aa bb me co 7 cx wn 26 [(0, .ref (cx.2.2.1 + 33)), (3, .ref (cx.2.2.1 + r10))] [] m (F_X7_lotsBehind_26 f_X7_lotsBehind r10 m) := by
  unfold F_X7_lotsBehind_26
  refine T_gdS (fun hr10 => ?_)
  refine T_aload_n C.1 dX7_lotsBehind_26 1 rfl ?_
  refine T_aload_n C.1 dX7_lotsBehind_27 0 rfl ?_
  refine T_getR (x := 2) C.1 fd_X7_43 (fun _ _ _ _ => rfl) sh33 (Nat.le_trans le33 hn) (fun _ h => h) rfl (by decide) dX7_lotsBehind_28 ?_
  refine T_callVV (rm := rm_X2_closeByLaw) [.ref (cx.2.2.1 + 2)] [] C.1 dX7_lotsBehind_31 mw_X2_closeByLaw wm_2_219 wm_2_220 wm_2_221 (by constructor <;> (simp only [rmS_77, rm_X2_closeByLaw]; omega)) ⟨rfl, rfl⟩ ⟨Nat.zero_le _, Nat.zero_le _⟩ rfl rfl (Nat.le_of_ble_eq_true rfl) hr10 (Nat.le_trans (shp_le hr10 (by decide)) hn) ⟨rfl, rfl⟩ (c_X2_closeByLaw hn ll cx r10 m) (fun u1 m2 => ?_)
  refine T_aload_n C.1 dX7_lotsBehind_34 0 rfl ?_
  refine T_aload_n C.1 dX7_lotsBehind_35 1 rfl ?_
  refine T_callVI (rm := rm_X7_firstUnlikeTold) [.ref (cx.2.2.1 + r10)] [] C.1 dX7_lotsBehind_36 mw_X7_firstUnlikeTold wm_3_125 wm_3_109 wm_3_110 (by constructor <;> (simp only [rmS_77, rm_X7_firstUnlikeTold]; omega)) ⟨rfl, rfl⟩ ⟨Nat.zero_le _, Nat.zero_le _⟩ rfl rfl (Nat.le_of_ble_eq_true rfl) sh33 (Nat.le_trans le33 hn) ⟨rfl, rfl⟩ (c_X7_firstUnlikeTold hn ll cx r10 m2) (fun v3 m4 => ?_)
  refine T_bipush C.1 dX7_lotsBehind_39 rfl ?_
  refine T_icmp_ne (tgt := 48) C.1 dX7_lotsBehind_41 (by decide) ?_ ?_
  · refine T_iconst C.1 dX7_lotsBehind_48 ?_
    exact T_iret C.1 C.2.1 C.2.2 dX7_lotsBehind_49
  · refine T_iconst C.1 dX7_lotsBehind_44 ?_
    refine T_goto (tgt := 49) C.1 dX7_lotsBehind_45 (by decide) ?_
    exact T_iret C.1 C.2.1 C.2.2 dX7_lotsBehind_49
def F_X7_lotsBehind_133 (k_66 : Int32 → Int32 → Nat → Nat → Int32 → Int32 → Mm → Option (Int32 × Mm)) (f_X7_lotsBehind : Int32 → Int32 → Mm → Option (Int32 × Mm)) (a1 : Int32) (a2 : Int32) (r30 : Nat) (r40 : Nat) (a5 : Int32) (a6 : Int32) (m : Mm) : Option (Int32 × Mm) :=
  gdS (9, 2) r30 fun r30 =>
  gdS (9, 2) r40 fun r40 =>
  nm (a6 + (iI 1)) fun v1 =>
  k_66 a1 a2 r30 r40 a5 v1 m
set_option maxRecDepth 100000 in
set_option maxHeartbeats 4000000 in
theorem t_X7_lotsBehind_133 {wn : Nat} (hn : NN ≤ wn) {pp : Program} {ll : Launch} {ee : Env} {ss : State} {mm : MethodId} {aa : Array Value} {bb : List Frame} {me : Method} {co : Code} {cx : CX} {dd : Nat} {k_66 : Int32 → Int32 → Nat → Nat → Int32 → Int32 → Mm → Option (Int32 × Mm)} {f_X7_lotsBehind : Int32 → Int32 → Mm → Option (Int32 × Mm)}  (C : CM pp ss mm aa me co cX7_lotsBehind 7 RX7 cx ((some .int)))  (hf_X7_lotsBehind : ∀ (x1 : Int32) (x2 : Int32) (m : Mm), MT ll yX7_lotsBehind cX7_lotsBehind 7 ((some .int)) (rmS_77 dd) cx wn wn Lay cvI 0 0 [.ref (cx.2.2.1 + 33), .int x1, .int x2] m (f_X7_lotsBehind x1 x2 m))  (hk_66 : ∀ (a1 : Int32) (a2 : Int32) (r30 : Nat) (r40 : Nat) (a5 : Int32) (a6 : Int32) (m : Mm), TI pp ll ee (rmS_77 (dd + 1)) ss mm aa bb me co 7 cx wn 66 [(0, .ref (cx.2.2.1 + 33)), (1, .int a1), (2, .int a2), (3, .ref (cx.2.2.1 + r30)), (4, .ref (cx.2.2.1 + r40)), (5, .int a5), (6, .int a6)] [] m (k_66 a1 a2 r30 r40 a5 a6 m)) (a1 : Int32) (a2 : Int32) (r30 : Nat) (r40 : Nat) (a5 : Int32) (a6 : Int32) (m : Mm) : TI pp ll ee (rmS_77 (dd + 1)) ss mm aa bb me co 7 cx wn 133 [(0, .ref (cx.2.2.1 + 33)), (1, .int a1), (2, .int a2), (3, .ref (cx.2.2.1 + r30)), (4, .ref (cx.2.2.1 + r40)), (5, .int a5), (6, .int a6)] [] m (F_X7_lotsBehind_133 k_66 f_X7_lotsBehind a1 a2 r30 r40 a5 a6 m) := by
  unfold F_X7_lotsBehind_133
  refine T_gdS (fun hr30 => ?_)
  refine T_gdS (fun hr40 => ?_)
  refine T_iincN C.1 (fun v1 => [(6, .int v1), (0, .ref (cx.2.2.1 + 33)), (1, .int a1), (2, .int a2), (3, .ref (cx.2.2.1 + r30)), (4, .ref (cx.2.2.1 + r40)), (5, .int a5)]) dX7_lotsBehind_133 6 rfl (by decide) (fun _ => rfl) (fun v1 => ?_)
  refine T_goto (tgt := 66) C.1 dX7_lotsBehind_136 (by decide) ?_
  exact T_sub [1, 2, 3, 4, 5, 6, 0] rfl (hk_66 a1 a2 r30 r40 a5 v1 m)
def F_X7_lotsBehind_66 (f_X7_lotsBehind : Int32 → Int32 → Mm → Option (Int32 × Mm)) : Nat → Int32 → Int32 → Nat → Nat → Int32 → Int32 → Mm → Option (Int32 × Mm)
  | 0, _, _, _, _, _, _, _ => none
  | f + 1, a1, a2, r30, r40, a5, a6, m =>
    gdS (9, 2) r30 fun r30 =>
    gdS (9, 2) r40 fun r40 =>
    (if (gI m 2 0) ≤ a6 then
      some (a5, m)
    else
      (if ((a2 >>> (a6 &&& 31)) &&& (iI 1)) = iI 0 then
        bnd (F_X2_become r40 r30 m) fun _ m2 =>
        wrI 7 m2 (r40 + 1) a1 a6 fun m3 =>
        bnd (F_X2_playTill r40 (a1 + (iI 1)) m3) fun v4 m5 =>
        bnd (f_X7_lotsBehind (a1 + (iI 1)) (a2 ||| ((iI 1) <<< (a6 &&& 31))) m5) fun v6 m7 =>
        nm (a5 + v6) fun v8 =>
        F_X7_lotsBehind_133 (F_X7_lotsBehind_66 f_X7_lotsBehind f) f_X7_lotsBehind a1 a2 r30 r40 v8 a6 m7
      else
        F_X7_lotsBehind_133 (F_X7_lotsBehind_66 f_X7_lotsBehind f) f_X7_lotsBehind a1 a2 r30 r40 a5 a6 m))
set_option maxRecDepth 100000 in
set_option maxHeartbeats 4000000 in
theorem t_X7_lotsBehind_66 {wn : Nat} (hn : NN ≤ wn) {pp : Program} {ll : Launch} {ee : Env} {ss : State} {mm : MethodId} {aa : Array Value} {bb : List Frame} {me : Method} {co : Code} {cx : CX} {dd : Nat}  {f_X7_lotsBehind : Int32 → Int32 → Mm → Option (Int32 × Mm)}  (C : CM pp ss mm aa me co cX7_lotsBehind 7 RX7 cx ((some .int)))  (hf_X7_lotsBehind : ∀ (x1 : Int32) (x2 : Int32) (m : Mm), MT ll yX7_lotsBehind cX7_lotsBehind 7 ((some .int)) (rmS_77 dd) cx wn wn Lay cvI 0 0 [.ref (cx.2.2.1 + 33), .int x1, .int x2] m (f_X7_lotsBehind x1 x2 m))   : ∀ (f : Nat) (a1 : Int32) (a2 : Int32) (r30 : Nat) (r40 : Nat) (a5 : Int32) (a6 : Int32) (m : Mm), TI pp ll ee (rmS_77 (dd + 1)) ss mm aa bb me co 7 cx wn 66 [(0, .ref (cx.2.2.1 + 33)), (1, .int a1), (2, .int a2), (3, .ref (cx.2.2.1 + r30)), (4, .ref (cx.2.2.1 + r40)), (5, .int a5), (6, .int a6)] [] m (F_X7_lotsBehind_66 f_X7_lotsBehind f a1 a2 r30 r40 a5 a6 m) := by
  intro f
  induction f with
  | zero => exact fun _ _ _ _ _ _ _ => T_none
  | succ f ih =>
    intro a1 a2 r30 r40 a5 a6 m
    unfold F_X7_lotsBehind_66
    refine T_gdS (fun hr30 => ?_)
    refine T_gdS (fun hr40 => ?_)
    refine T_iload C.1 dX7_lotsBehind_66 6 rfl ?_
    refine T_aload_n C.1 dX7_lotsBehind_68 0 rfl ?_
    refine T_getR (x := 2) C.1 fd_X7_43 (fun _ _ _ _ => rfl) sh33 (Nat.le_trans le33 hn) (fun _ h => h) rfl (by decide) dX7_lotsBehind_69 ?_
    refine T_getI C.1 fd_X7_52 (fun _ _ _ _ => rfl) sh2 (Nat.le_trans le2 hn) dX7_lotsBehind_72 ?_
    refine T_icmp_ge (tgt := 139) C.1 dX7_lotsBehind_75 (by decide) ?_ ?_
    · refine T_iload C.1 dX7_lotsBehind_139 5 rfl ?_
      exact T_iret C.1 C.2.1 C.2.2 dX7_lotsBehind_141
    · refine T_iload_n C.1 dX7_lotsBehind_78 2 rfl ?_
      refine T_iload C.1 dX7_lotsBehind_79 6 rfl ?_
      refine T_ishr C.1 dX7_lotsBehind_81 ?_
      refine T_iconst C.1 dX7_lotsBehind_82 ?_
      refine T_iand C.1 dX7_lotsBehind_83 ?_
      refine T_if_ne (tgt := 133) C.1 dX7_lotsBehind_84 (by decide) ?_ ?_
      · exact T_sub [0, 1, 2, 3, 4, 5, 6] rfl (t_X7_lotsBehind_133 hn C hf_X7_lotsBehind (ih) a1 a2 r30 r40 a5 a6 m)
      · refine T_aload C.1 dX7_lotsBehind_87 4 rfl ?_
        refine T_aload_n C.1 dX7_lotsBehind_89 3 rfl ?_
        refine T_callVV (rm := rm_X2_become) [.ref (cx.2.2.1 + r30)] [] C.1 dX7_lotsBehind_90 mw_X2_become wm_3_3 wm_3_4 wm_3_5 (by constructor <;> (simp only [rmS_77, rm_X2_become]; omega)) ⟨rfl, rfl⟩ ⟨Nat.zero_le _, Nat.zero_le _⟩ rfl rfl (Nat.le_of_ble_eq_true rfl) hr40 (Nat.le_trans (shp_le hr40 (by decide)) hn) ⟨rfl, rfl⟩ (c_X2_become hn ll cx r40 r30 m) (fun u1 m2 => ?_)
        refine T_aload C.1 dX7_lotsBehind_93 4 rfl ?_
        refine T_getR (x := (r40 + 1)) C.1 fd_X7_171 (fun _ _ _ _ => rfl) hr40 (Nat.le_trans (shp_le hr40 (by decide)) hn) (fun _ h => h) rfl (Nat.succ_ne_zero _) dX7_lotsBehind_95 ?_
        refine T_iload_n C.1 dX7_lotsBehind_98 1 rfl ?_
        refine T_iload C.1 dX7_lotsBehind_99 6 rfl ?_
        refine T_iast C.1 LyI_Lay (shr_2_1 hr40) (Nat.le_trans (shp_le (shr_2_1 hr40) (by decide)) hn) dX7_lotsBehind_101 (fun m3 => ?_)
        refine T_aload C.1 dX7_lotsBehind_102 4 rfl ?_
        refine T_iload_n C.1 dX7_lotsBehind_104 1 rfl ?_
        refine T_iconst C.1 dX7_lotsBehind_105 ?_
        refine T_iadd C.1 dX7_lotsBehind_106 ?_
        refine T_aload_n C.1 dX7_lotsBehind_107 0 rfl ?_
        refine T_getR (x := 2) C.1 fd_X7_43 (fun _ _ _ _ => rfl) sh33 (Nat.le_trans le33 hn) (fun _ h => h) rfl (by decide) dX7_lotsBehind_108 ?_
        refine T_callVI (rm := rm_X2_playTill) [.int (a1 + (iI 1)), .ref (cx.2.2.1 + 2)] [] C.1 dX7_lotsBehind_111 mw_X2_playTill wm_2_218 wm_2_119 wm_2_120 (by constructor <;> (simp only [rmS_77, rm_X2_playTill]; omega)) ⟨rfl, rfl⟩ ⟨Nat.zero_le _, Nat.zero_le _⟩ rfl rfl (Nat.le_of_ble_eq_true rfl) hr40 (Nat.le_trans (shp_le hr40 (by decide)) hn) ⟨rfl, rfl⟩ (c_X2_playTill hn ll cx r40 (a1 + (iI 1)) m3) (fun v4 m5 => ?_)
        refine T_pop C.1 dX7_lotsBehind_114 rfl ?_
        refine T_iload C.1 dX7_lotsBehind_115 5 rfl ?_
        refine T_aload_n C.1 dX7_lotsBehind_117 0 rfl ?_
        refine T_iload_n C.1 dX7_lotsBehind_118 1 rfl ?_
        refine T_iconst C.1 dX7_lotsBehind_119 ?_
        refine T_iadd C.1 dX7_lotsBehind_120 ?_
        refine T_iload_n C.1 dX7_lotsBehind_121 2 rfl ?_
        refine T_iconst C.1 dX7_lotsBehind_122 ?_
        refine T_iload C.1 dX7_lotsBehind_123 6 rfl ?_
        refine T_ishl C.1 dX7_lotsBehind_125 ?_
        refine T_ior C.1 dX7_lotsBehind_126 ?_
        refine T_callVI (rm := (rmS_77 dd)) [.int (a1 + (iI 1)), .int (a2 ||| ((iI 1) <<< (a6 &&& 31)))] [.int a5] C.1 dX7_lotsBehind_127 mw_X7_lotsBehind wm_3_121 wm_3_123 wm_p_14 (by constructor <;> (simp only [rmS_77]; omega)) ⟨rfl, rfl⟩ ⟨Nat.zero_le _, Nat.zero_le _⟩ rfl rfl (Nat.le_of_ble_eq_true rfl) sh33 (Nat.le_trans le33 hn) ⟨rfl, rfl⟩ (hf_X7_lotsBehind (a1 + (iI 1)) (a2 ||| ((iI 1) <<< (a6 &&& 31))) m5) (fun v6 m7 => ?_)
        refine T_iadd C.1 dX7_lotsBehind_130 ?_
        refine T_istoreN C.1 (fun v8 => [(5, .int v8), (0, .ref (cx.2.2.1 + 33)), (1, .int a1), (2, .int a2), (3, .ref (cx.2.2.1 + r30)), (4, .ref (cx.2.2.1 + r40)), (6, .int a6)]) dX7_lotsBehind_131 (by decide) (fun _ => rfl) (fun v8 => ?_)
        exact T_sub [1, 2, 3, 4, 5, 0, 6] rfl (t_X7_lotsBehind_133 hn C hf_X7_lotsBehind (ih) a1 a2 r30 r40 v8 a6 m7)
def B_X7_lotsBehind (f_X7_lotsBehind : Int32 → Int32 → Mm → Option (Int32 × Mm)) (x1 : Int32) (x2 : Int32) (m : Mm) : Option (Int32 × Mm) :=
  rd 10 x1 fun j1 =>
  (if (gI m 2 0) ≤ x1 then
    F_X7_lotsBehind_26 f_X7_lotsBehind (50 + 5 * j1) m
  else
    (if (x1 + (iI 1)) < (iI 10) then
      rd 10 (x1 + (iI 1)) fun j2 =>
      F_X7_lotsBehind_66 f_X7_lotsBehind FU x1 x2 (50 + 5 * j1) (50 + 5 * j2) (iI 0) (iI 0) m
    else
      F_X7_lotsBehind_26 f_X7_lotsBehind (50 + 5 * j1) m))
set_option maxRecDepth 100000 in
set_option maxHeartbeats 4000000 in
theorem b_X7_lotsBehind {wn : Nat} (hn : NN ≤ wn) {ll : Launch} {cx : CX} {dd : Nat} (f_X7_lotsBehind : Int32 → Int32 → Mm → Option (Int32 × Mm)) (hf_X7_lotsBehind : ∀ (x1 : Int32) (x2 : Int32) (m : Mm), MT ll yX7_lotsBehind cX7_lotsBehind 7 ((some .int)) (rmS_77 dd) cx wn wn Lay cvI 0 0 [.ref (cx.2.2.1 + 33), .int x1, .int x2] m (f_X7_lotsBehind x1 x2 m))  (x1 : Int32) (x2 : Int32) (m : Mm) : MT ll yX7_lotsBehind cX7_lotsBehind 7 ((some .int)) (rmS_77 (dd + 1)) cx wn wn Lay cvI 0 0 [.ref (cx.2.2.1 + 33), .int x1, .int x2] m (B_X7_lotsBehind f_X7_lotsBehind x1 x2 m) := by
  refine MT_of (by decide) (Nat.le_of_ble_eq_true rfl) ?_
  intro pp ee ss mm aa bb me co hK hr hk hn0
  have C : CM pp ss mm aa me co cX7_lotsBehind 7 RX7 cx ((some .int)) := ⟨hK, hr, hk⟩
  show TI pp ll ee (rmS_77 (dd + 1)) ss mm aa bb me co 7 cx wn 0 [(0, .ref (cx.2.2.1 + 33)), (1, .int x1), (2, .int x2)] [] m (B_X7_lotsBehind f_X7_lotsBehind x1 x2 m)
  unfold B_X7_lotsBehind
  refine T_aload_n C.1 dX7_lotsBehind_0 0 rfl ?_
  refine T_getR (x := 34) C.1 fd_X7_13 (fun _ _ _ _ => rfl) sh33 (Nat.le_trans le33 hn) (fun _ h => h) rfl (by decide) dX7_lotsBehind_1 ?_
  refine T_iload_n C.1 dX7_lotsBehind_4 1 rfl ?_
  refine T_aald (x := fun j => 50 + 5 * j) C.1 dX7_lotsBehind_5 (by decide) sh34 (Nat.le_trans le34 hn) (fun _ h => h) ar34 (fun j1 hj1 => ?_)
  refine T_astore_n (lv' := [(3, .ref (cx.2.2.1 + (50 + 5 * j1))), (0, .ref (cx.2.2.1 + 33)), (1, .int x1), (2, .int x2)]) C.1 dX7_lotsBehind_6 (by decide) rfl ?_
  refine T_iload_n C.1 dX7_lotsBehind_7 2 rfl ?_
  refine T_aload_n C.1 dX7_lotsBehind_8 1 rfl ?_
  refine T_getR (x := 2) C.1 fd_X7_43 (fun _ _ _ _ => rfl) sh33 (Nat.le_trans le33 hn) (fun _ h => h) rfl (by decide) dX7_lotsBehind_9 ?_
  refine T_getI C.1 fd_X7_52 (fun _ _ _ _ => rfl) sh2 (Nat.le_trans le2 hn) dX7_lotsBehind_12 ?_
  refine T_icmp_ge (tgt := 26) C.1 dX7_lotsBehind_15 (by decide) ?_ ?_
  · exact T_sub [1, 0] rfl (t_X7_lotsBehind_26 hn C hf_X7_lotsBehind (50 + 5 * j1) m)
  · refine T_iload_n C.1 dX7_lotsBehind_18 2 rfl ?_
    refine T_iconst C.1 dX7_lotsBehind_19 ?_
    refine T_iadd C.1 dX7_lotsBehind_20 ?_
    refine T_bipush C.1 dX7_lotsBehind_21 rfl ?_
    refine T_icmp_lt (tgt := 50) C.1 dX7_lotsBehind_23 (by decide) ?_ ?_
    · refine T_aload_n C.1 dX7_lotsBehind_50 1 rfl ?_
      refine T_getR (x := 34) C.1 fd_X7_13 (fun _ _ _ _ => rfl) sh33 (Nat.le_trans le33 hn) (fun _ h => h) rfl (by decide) dX7_lotsBehind_51 ?_
      refine T_iload_n C.1 dX7_lotsBehind_54 2 rfl ?_
      refine T_iconst C.1 dX7_lotsBehind_55 ?_
      refine T_iadd C.1 dX7_lotsBehind_56 ?_
      refine T_aald (x := fun j => 50 + 5 * j) C.1 dX7_lotsBehind_57 (by decide) sh34 (Nat.le_trans le34 hn) (fun _ h => h) ar34 (fun j2 hj2 => ?_)
      refine T_astore (lv' := [(4, .ref (cx.2.2.1 + (50 + 5 * j2))), (3, .ref (cx.2.2.1 + (50 + 5 * j1))), (0, .ref (cx.2.2.1 + 33)), (1, .int x1), (2, .int x2)]) C.1 dX7_lotsBehind_58 (by decide) rfl ?_
      refine T_iconst C.1 dX7_lotsBehind_60 ?_
      refine T_istore (lv' := [(5, .int (iI 0)), (4, .ref (cx.2.2.1 + (50 + 5 * j2))), (3, .ref (cx.2.2.1 + (50 + 5 * j1))), (0, .ref (cx.2.2.1 + 33)), (1, .int x1), (2, .int x2)]) C.1 dX7_lotsBehind_61 (by decide) rfl ?_
      refine T_iconst C.1 dX7_lotsBehind_63 ?_
      refine T_istore (lv' := [(6, .int (iI 0)), (5, .int (iI 0)), (4, .ref (cx.2.2.1 + (50 + 5 * j2))), (3, .ref (cx.2.2.1 + (50 + 5 * j1))), (0, .ref (cx.2.2.1 + 33)), (1, .int x1), (2, .int x2)]) C.1 dX7_lotsBehind_64 (by decide) rfl ?_
      exact T_sub [4, 5, 6, 3, 2, 1, 0] rfl (t_X7_lotsBehind_66 hn C hf_X7_lotsBehind FU x1 x2 (50 + 5 * j1) (50 + 5 * j2) (iI 0) (iI 0) m)
    · exact T_sub [1, 0] rfl (t_X7_lotsBehind_26 hn C hf_X7_lotsBehind (50 + 5 * j1) m)
def R_77 : Nat → (Int32 → Int32 → Mm → Option (Int32 × Mm))
  | 0 => (fun _ _ _ => none)
  | d + 1 => (B_X7_lotsBehind (R_77 d))
set_option maxRecDepth 100000 in
set_option maxHeartbeats 4000000 in
theorem r_77 {wn : Nat} (hn : NN ≤ wn) (ll : Launch) (cx : CX) : ∀ d : Nat, (∀ (x1 : Int32) (x2 : Int32) (m : Mm), MT ll yX7_lotsBehind cX7_lotsBehind 7 ((some .int)) (rmS_77 d) cx wn wn Lay cvI 0 0 [.ref (cx.2.2.1 + 33), .int x1, .int x2] m ((R_77 d) x1 x2 m))
  | 0 => fun _ _ _ => fun r μ1 h => (by cases (show (none : Option (Int32 × Mm)) = some (r, μ1) from h))
  | d + 1 => b_X7_lotsBehind hn _ (r_77 hn ll cx d)
def F_X7_lotsBehind (x1 : Int32) (x2 : Int32) (m : Mm) : Option (Int32 × Mm) := (R_77 40) x1 x2 m
theorem c_X7_lotsBehind {wn : Nat} (hn : NN ≤ wn) (ll : Launch) (cx : CX) (x1 : Int32) (x2 : Int32) (m : Mm) : MT ll yX7_lotsBehind cX7_lotsBehind 7 ((some .int)) (rmS_77 40) cx wn wn Lay cvI 0 0 [.ref (cx.2.2.1 + 33), .int x1, .int x2] m (F_X7_lotsBehind x1 x2 m) := (r_77 hn ll cx 40) x1 x2 m
def rm_X7_lotsAsTold : Room := { frames := 46, cells := 0, slots := 0, locals := 1211 }
def F_X7_lotsAsTold   (m : Mm) : Option (Int32 × Mm) :=
  rd 10 (iI 0) fun j1 =>
  bnd (F_X2_wrapAll (50 + 5 * j1) m) fun _ m3 =>
  bnd (F_X7_lotsBehind (iI 0) (iI 0) m3) fun v4 m5 =>
  some (v4, m5)
set_option maxRecDepth 100000 in
set_option maxHeartbeats 4000000 in
theorem c_X7_lotsAsTold {wn : Nat} (hn : NN ≤ wn) (ll : Launch) (cx : CX)  (m : Mm) : MT ll yX7_lotsAsTold cX7_lotsAsTold 1 ((some .int)) rm_X7_lotsAsTold cx wn wn Lay cvI 0 0 [.ref (cx.2.2.1 + 33)] m (F_X7_lotsAsTold  m) := by
  refine MT_of (by decide) (Nat.le_of_ble_eq_true rfl) ?_
  intro pp ee ss mm aa bb me co hK hr hk hn0
  have C : CM pp ss mm aa me co cX7_lotsAsTold 1 RX7 cx ((some .int)) := ⟨hK, hr, hk⟩
  show TI pp ll ee rm_X7_lotsAsTold ss mm aa bb me co 1 cx wn 0 [(0, .ref (cx.2.2.1 + 33))] [] m (F_X7_lotsAsTold  m)
  unfold F_X7_lotsAsTold
  refine T_aload_n C.1 dX7_lotsAsTold_0 0 rfl ?_
  refine T_getR (x := 34) C.1 fd_X7_13 (fun _ _ _ _ => rfl) sh33 (Nat.le_trans le33 hn) (fun _ h => h) rfl (by decide) dX7_lotsAsTold_1 ?_
  refine T_iconst C.1 dX7_lotsAsTold_4 ?_
  refine T_aald (x := fun j => 50 + 5 * j) C.1 dX7_lotsAsTold_5 (by decide) sh34 (Nat.le_trans le34 hn) (fun _ h => h) ar34 (fun j1 hj1 => ?_)
  refine T_callVV (rm := rm_X2_wrapAll) [] [] C.1 dX7_lotsAsTold_6 mw_X2_wrapAll wm_3_120 wm_2_195 wm_2_196 ⟨Nat.le_of_ble_eq_true rfl, Nat.le_of_ble_eq_true rfl⟩ ⟨rfl, rfl⟩ ⟨Nat.zero_le _, Nat.zero_le _⟩ rfl rfl (Nat.le_of_ble_eq_true rfl) (shar34 hj1) (Nat.le_trans (shp_le (shar34 hj1) (by decide)) hn) ⟨rfl, rfl⟩ (c_X2_wrapAll hn ll cx (50 + 5 * j1) m) (fun u2 m3 => ?_)
  refine T_aload_n C.1 dX7_lotsAsTold_9 0 rfl ?_
  refine T_iconst C.1 dX7_lotsAsTold_10 ?_
  refine T_iconst C.1 dX7_lotsAsTold_11 ?_
  refine T_callVI (rm := (rmS_77 40)) [.int (iI 0), .int (iI 0)] [] C.1 dX7_lotsAsTold_12 mw_X7_lotsBehind wm_3_121 wm_3_123 wm_p_14 ⟨Nat.le_of_ble_eq_true rfl, Nat.le_of_ble_eq_true rfl⟩ ⟨rfl, rfl⟩ ⟨Nat.zero_le _, Nat.zero_le _⟩ rfl rfl (Nat.le_of_ble_eq_true rfl) sh33 (Nat.le_trans le33 hn) ⟨rfl, rfl⟩ (c_X7_lotsBehind hn ll cx (iI 0) (iI 0) m3) (fun v4 m5 => ?_)
  exact T_iret C.1 C.2.1 C.2.2 dX7_lotsAsTold_15
def rm_X8_welcome : Room := { frames := 1, cells := 0, slots := 0, locals := 40 }
def F_X8_welcome  (x1 : Int32) (m : Mm) : Option (Int32 × Mm) :=
  nm (gI m 2 0) fun v1 =>
  (if v1 < (iI 7) then
    wrI 7 m 5 v1 x1 fun m2 =>
    wrI 7 m2 24 v1 v1 fun m3 =>
    nm (pI m3 2 0 (v1 + (iI 1))) fun m4 =>
    some (v1, m4)
  else
    some ((iI (-3)), m))
set_option maxRecDepth 100000 in
set_option maxHeartbeats 4000000 in
theorem c_X8_welcome {wn : Nat} (hn : NN ≤ wn) (ll : Launch) (cx : CX) (x1 : Int32) (m : Mm) : MT ll yX8_welcome cX8_welcome 3 ((some .int)) rm_X8_welcome cx wn wn Lay cvI 0 0 [.ref (cx.2.2.1 + 1), .int x1] m (F_X8_welcome x1 m) := by
  refine MT_of (by decide) (Nat.le_of_ble_eq_true rfl) ?_
  intro pp ee ss mm aa bb me co hK hr hk hn0
  have C : CM pp ss mm aa me co cX8_welcome 3 RX8 cx ((some .int)) := ⟨hK, hr, hk⟩
  show TI pp ll ee rm_X8_welcome ss mm aa bb me co 3 cx wn 0 [(0, .ref (cx.2.2.1 + 1)), (1, .int x1)] [] m (F_X8_welcome x1 m)
  unfold F_X8_welcome
  refine T_aload_n C.1 dX8_welcome_0 0 rfl ?_
  refine T_getR (x := 2) C.1 fd_X8_10 (fun _ _ _ _ => rfl) sh1 (Nat.le_trans le1 hn) (fun _ h => h) rfl (by decide) dX8_welcome_1 ?_
  refine T_getI C.1 fd_X8_71 (fun _ _ _ _ => rfl) sh2 (Nat.le_trans le2 hn) dX8_welcome_4 ?_
  refine T_istore_nN C.1 (fun v1 => [(2, .int v1), (0, .ref (cx.2.2.1 + 1)), (1, .int x1)]) dX8_welcome_7 (by decide) (fun _ => rfl) (fun v1 => ?_)
  refine T_iload_n C.1 dX8_welcome_8 0 rfl ?_
  refine T_bipush C.1 dX8_welcome_9 rfl ?_
  refine T_icmp_lt (tgt := 17) C.1 dX8_welcome_11 (by decide) ?_ ?_
  · refine T_aload_n C.1 dX8_welcome_17 1 rfl ?_
    refine T_getR (x := 2) C.1 fd_X8_10 (fun _ _ _ _ => rfl) sh1 (Nat.le_trans le1 hn) (fun _ h => h) rfl (by decide) dX8_welcome_18 ?_
    refine T_getR (x := 5) C.1 fd_X8_323 (fun _ _ _ _ => rfl) sh2 (Nat.le_trans le2 hn) (fun _ h => h) rfl (by decide) dX8_welcome_21 ?_
    refine T_iload_n C.1 dX8_welcome_24 0 rfl ?_
    refine T_iload_n C.1 dX8_welcome_25 2 rfl ?_
    refine T_iast C.1 LyI_Lay sh5 (Nat.le_trans le5 hn) dX8_welcome_26 (fun m2 => ?_)
    refine T_aload_n C.1 dX8_welcome_27 1 rfl ?_
    refine T_getR (x := 23) C.1 fd_X8_33 (fun _ _ _ _ => rfl) sh1 (Nat.le_trans le1 hn) (fun _ h => h) rfl (by decide) dX8_welcome_28 ?_
    refine T_getR (x := 24) C.1 fd_X8_110 (fun _ _ _ _ => rfl) sh23 (Nat.le_trans le23 hn) (fun _ h => h) rfl (by decide) dX8_welcome_31 ?_
    refine T_iload_n C.1 dX8_welcome_34 0 rfl ?_
    refine T_iload_n C.1 dX8_welcome_35 0 rfl ?_
    refine T_iast C.1 LyI_Lay sh24 (Nat.le_trans le24 hn) dX8_welcome_36 (fun m3 => ?_)
    refine T_aload_n C.1 dX8_welcome_37 1 rfl ?_
    refine T_getR (x := 2) C.1 fd_X8_10 (fun _ _ _ _ => rfl) sh1 (Nat.le_trans le1 hn) (fun _ h => h) rfl (by decide) dX8_welcome_38 ?_
    refine T_iload_n C.1 dX8_welcome_41 0 rfl ?_
    refine T_iconst C.1 dX8_welcome_42 ?_
    refine T_iadd C.1 dX8_welcome_43 ?_
    refine T_putI C.1 LyI_Lay fd_X8_71 sh2 (Nat.le_trans le2 hn) dX8_welcome_44 (fun m4 => ?_)
    refine T_iload_n C.1 dX8_welcome_47 0 rfl ?_
    exact T_iret C.1 C.2.1 C.2.2 dX8_welcome_48
  · refine T_bipush C.1 dX8_welcome_14 rfl ?_
    exact T_iret C.1 C.2.1 C.2.2 dX8_welcome_16
def rm_X8_person : Room := { frames := 2, cells := 0, slots := 0, locals := 62 }
def F_X8_person  (x1 : Int32) (m : Mm) : Option (Int32 × Mm) :=
  (if x1 < iI 0 then
    some ((iI (-1)), m)
  else
    (if x1 ≤ (iI 2) then
      bnd (F_X2_hasBegun 23 m) fun v1 m2 =>
      (if v1 = iI 0 then
        (if (gI m2 2 0) < (iI 7) then
          bnd (F_X8_welcome x1 m2) fun v3 m4 =>
          some (v3, m4)
        else
          some ((iI (-3)), m2))
      else
        some ((iI (-5)), m2))
    else
      some ((iI (-1)), m)))
set_option maxRecDepth 100000 in
set_option maxHeartbeats 4000000 in
theorem c_X8_person {wn : Nat} (hn : NN ≤ wn) (ll : Launch) (cx : CX) (x1 : Int32) (m : Mm) : MT ll yX8_person cX8_person 2 ((some .int)) rm_X8_person cx wn wn Lay cvI 0 0 [.ref (cx.2.2.1 + 1), .int x1] m (F_X8_person x1 m) := by
  refine MT_of (by decide) (Nat.le_of_ble_eq_true rfl) ?_
  intro pp ee ss mm aa bb me co hK hr hk hn0
  have C : CM pp ss mm aa me co cX8_person 2 RX8 cx ((some .int)) := ⟨hK, hr, hk⟩
  show TI pp ll ee rm_X8_person ss mm aa bb me co 2 cx wn 0 [(0, .ref (cx.2.2.1 + 1)), (1, .int x1)] [] m (F_X8_person x1 m)
  unfold F_X8_person
  refine T_iload_n C.1 dX8_person_0 1 rfl ?_
  refine T_if_lt (tgt := 9) C.1 dX8_person_1 (by decide) ?_ ?_
  · refine T_iconst C.1 dX8_person_9 ?_
    exact T_iret C.1 C.2.1 C.2.2 dX8_person_10
  · refine T_iload_n C.1 dX8_person_4 1 rfl ?_
    refine T_iconst C.1 dX8_person_5 ?_
    refine T_icmp_le (tgt := 11) C.1 dX8_person_6 (by decide) ?_ ?_
    · refine T_aload_n C.1 dX8_person_11 0 rfl ?_
      refine T_getR (x := 23) C.1 fd_X8_33 (fun _ _ _ _ => rfl) sh1 (Nat.le_trans le1 hn) (fun _ h => h) rfl (by decide) dX8_person_12 ?_
      refine T_callVI (rm := rm_X2_hasBegun) [] [] C.1 dX8_person_15 mw_X2_hasBegun wm_3_184 wm_2_179 wm_2_180 ⟨Nat.le_of_ble_eq_true rfl, Nat.le_of_ble_eq_true rfl⟩ ⟨rfl, rfl⟩ ⟨Nat.zero_le _, Nat.zero_le _⟩ rfl rfl (Nat.le_of_ble_eq_true rfl) sh23 (Nat.le_trans le23 hn) ⟨rfl, rfl⟩ (c_X2_hasBegun hn ll cx 23 m) (fun v1 m2 => ?_)
      refine T_if_eq (tgt := 24) C.1 dX8_person_18 (by decide) ?_ ?_
      · refine T_aload_n C.1 dX8_person_24 0 rfl ?_
        refine T_getR (x := 2) C.1 fd_X8_10 (fun _ _ _ _ => rfl) sh1 (Nat.le_trans le1 hn) (fun _ h => h) rfl (by decide) dX8_person_25 ?_
        refine T_getI C.1 fd_X8_71 (fun _ _ _ _ => rfl) sh2 (Nat.le_trans le2 hn) dX8_person_28 ?_
        refine T_bipush C.1 dX8_person_31 rfl ?_
        refine T_icmp_lt (tgt := 41) C.1 dX8_person_33 (by decide) ?_ ?_
        · refine T_aload_n C.1 dX8_person_41 0 rfl ?_
          refine T_iload_n C.1 dX8_person_42 1 rfl ?_
          refine T_callVI (rm := rm_X8_welcome) [.int x1] [] C.1 dX8_person_43 mw_X8_welcome wm_3_185 wm_3_187 wm_p_15 ⟨Nat.le_of_ble_eq_true rfl, Nat.le_of_ble_eq_true rfl⟩ ⟨rfl, rfl⟩ ⟨Nat.zero_le _, Nat.zero_le _⟩ rfl rfl (Nat.le_of_ble_eq_true rfl) sh1 (Nat.le_trans le1 hn) ⟨rfl, rfl⟩ (c_X8_welcome hn ll cx x1 m2) (fun v3 m4 => ?_)
          exact T_iret C.1 C.2.1 C.2.2 dX8_person_46
        · refine T_bipush C.1 dX8_person_36 rfl ?_
          refine T_goto (tgt := 46) C.1 dX8_person_38 (by decide) ?_
          exact T_iret C.1 C.2.1 C.2.2 dX8_person_46
      · refine T_bipush C.1 dX8_person_21 rfl ?_
        exact T_iret C.1 C.2.1 C.2.2 dX8_person_23
    · refine T_iconst C.1 dX8_person_9 ?_
      exact T_iret C.1 C.2.1 C.2.2 dX8_person_10
def rm_X8_mend : Room := { frames := 5, cells := 0, slots := 0, locals := 127 }
def F_X8_mend  (x1 : Int32) (x2 : Int32) (x3 : Int32) (m : Mm) : Option (Int32 × Mm) :=
  bnd (F_X4_knows x1 x2 m) fun v1 m2 =>
  (if v1 = iI 0 then
    some ((iI (-1)), m2)
  else
    bnd (F_X4_allows x2 x3 m2) fun v3 m4 =>
    (if v3 = iI 0 then
      some ((iI (-1)), m4)
    else
      bnd (F_X4_value x1 x2 m4) fun v5 m6 =>
      bnd (F_X1_note x1 x2 v5 x3 m6) fun _ m8 =>
      bnd (F_X4_become x1 x2 x3 m8) fun _ m10 =>
      some (v5, m10)))
set_option maxRecDepth 100000 in
set_option maxHeartbeats 4000000 in
theorem c_X8_mend {wn : Nat} (hn : NN ≤ wn) (ll : Launch) (cx : CX) (x1 : Int32) (x2 : Int32) (x3 : Int32) (m : Mm) : MT ll yX8_mend cX8_mend 5 ((some .int)) rm_X8_mend cx wn wn Lay cvI 0 0 [.ref (cx.2.2.1 + 1), .int x1, .int x2, .int x3] m (F_X8_mend x1 x2 x3 m) := by
  refine MT_of (by decide) (Nat.le_of_ble_eq_true rfl) ?_
  intro pp ee ss mm aa bb me co hK hr hk hn0
  have C : CM pp ss mm aa me co cX8_mend 5 RX8 cx ((some .int)) := ⟨hK, hr, hk⟩
  show TI pp ll ee rm_X8_mend ss mm aa bb me co 5 cx wn 0 [(0, .ref (cx.2.2.1 + 1)), (1, .int x1), (2, .int x2), (3, .int x3)] [] m (F_X8_mend x1 x2 x3 m)
  unfold F_X8_mend
  refine T_aload_n C.1 dX8_mend_0 0 rfl ?_
  refine T_getR (x := 2) C.1 fd_X8_10 (fun _ _ _ _ => rfl) sh1 (Nat.le_trans le1 hn) (fun _ h => h) rfl (by decide) dX8_mend_1 ?_
  refine T_iload_n C.1 dX8_mend_4 1 rfl ?_
  refine T_iload_n C.1 dX8_mend_5 2 rfl ?_
  refine T_callVI (rm := rm_X4_knows) [.int x1, .int x2] [] C.1 dX8_mend_6 mw_X4_knows wm_2_76 wm_2_77 wm_2_78 ⟨Nat.le_of_ble_eq_true rfl, Nat.le_of_ble_eq_true rfl⟩ ⟨rfl, rfl⟩ ⟨Nat.zero_le _, Nat.zero_le _⟩ rfl rfl (Nat.le_of_ble_eq_true rfl) sh2 (Nat.le_trans le2 hn) ⟨rfl, rfl⟩ (c_X4_knows hn ll cx x1 x2 m) (fun v1 m2 => ?_)
  refine T_if_eq (tgt := 20) C.1 dX8_mend_9 (by decide) ?_ ?_
  · refine T_iconst C.1 dX8_mend_20 ?_
    exact T_iret C.1 C.2.1 C.2.2 dX8_mend_21
  · refine T_iload_n C.1 dX8_mend_12 2 rfl ?_
    refine T_iload_n C.1 dX8_mend_13 3 rfl ?_
    refine T_callSI (rm := rm_X4_allows) [.int x2, .int x3] [] C.1 dX8_mend_14 mw_X4_allows wm_3_196 wm_3_197 ⟨Nat.le_of_ble_eq_true rfl, Nat.le_of_ble_eq_true rfl⟩ ⟨rfl, rfl⟩ ⟨Nat.zero_le _, Nat.zero_le _⟩ rfl rfl (Nat.le_of_ble_eq_true rfl) (c_X4_allows hn ll cx x2 x3 m2) (fun v3 m4 => ?_)
    refine T_if_ne (tgt := 22) C.1 dX8_mend_17 (by decide) ?_ ?_
    · refine T_aload_n C.1 dX8_mend_22 0 rfl ?_
      refine T_getR (x := 2) C.1 fd_X8_10 (fun _ _ _ _ => rfl) sh1 (Nat.le_trans le1 hn) (fun _ h => h) rfl (by decide) dX8_mend_23 ?_
      refine T_iload_n C.1 dX8_mend_26 1 rfl ?_
      refine T_iload_n C.1 dX8_mend_27 2 rfl ?_
      refine T_callVI (rm := rm_X4_value) [.int x1, .int x2] [] C.1 dX8_mend_28 mw_X4_value wm_2_88 wm_2_89 wm_2_90 ⟨Nat.le_of_ble_eq_true rfl, Nat.le_of_ble_eq_true rfl⟩ ⟨rfl, rfl⟩ ⟨Nat.zero_le _, Nat.zero_le _⟩ rfl rfl (Nat.le_of_ble_eq_true rfl) sh2 (Nat.le_trans le2 hn) ⟨rfl, rfl⟩ (c_X4_value hn ll cx x1 x2 m4) (fun v5 m6 => ?_)
      refine T_istore (lv' := [(4, .int v5), (0, .ref (cx.2.2.1 + 1)), (1, .int x1), (2, .int x2), (3, .int x3)]) C.1 dX8_mend_31 (by decide) rfl ?_
      refine T_aload_n C.1 dX8_mend_33 1 rfl ?_
      refine T_getR (x := 11) C.1 fd_X8_19 (fun _ _ _ _ => rfl) sh1 (Nat.le_trans le1 hn) (fun _ h => h) rfl (by decide) dX8_mend_34 ?_
      refine T_iload_n C.1 dX8_mend_37 2 rfl ?_
      refine T_iload_n C.1 dX8_mend_38 3 rfl ?_
      refine T_iload C.1 dX8_mend_39 0 rfl ?_
      refine T_iload_n C.1 dX8_mend_41 4 rfl ?_
      refine T_callVV (rm := rm_X1_note) [.int x1, .int x2, .int v5, .int x3] [] C.1 dX8_mend_42 mw_X1_note wm_3_199 wm_3_200 wm_3_201 ⟨Nat.le_of_ble_eq_true rfl, Nat.le_of_ble_eq_true rfl⟩ ⟨rfl, rfl⟩ ⟨Nat.zero_le _, Nat.zero_le _⟩ rfl rfl (Nat.le_of_ble_eq_true rfl) sh11 (Nat.le_trans le11 hn) ⟨rfl, rfl⟩ (c_X1_note hn ll cx x1 x2 v5 x3 m6) (fun u7 m8 => ?_)
      refine T_aload_n C.1 dX8_mend_45 1 rfl ?_
      refine T_getR (x := 2) C.1 fd_X8_10 (fun _ _ _ _ => rfl) sh1 (Nat.le_trans le1 hn) (fun _ h => h) rfl (by decide) dX8_mend_46 ?_
      refine T_iload_n C.1 dX8_mend_49 2 rfl ?_
      refine T_iload_n C.1 dX8_mend_50 3 rfl ?_
      refine T_iload_n C.1 dX8_mend_51 4 rfl ?_
      refine T_callVV (rm := rm_X4_become) [.int x1, .int x2, .int x3] [] C.1 dX8_mend_52 mw_X4_become wm_3_208 wm_3_209 wm_3_210 ⟨Nat.le_of_ble_eq_true rfl, Nat.le_of_ble_eq_true rfl⟩ ⟨rfl, rfl⟩ ⟨Nat.zero_le _, Nat.zero_le _⟩ rfl rfl (Nat.le_of_ble_eq_true rfl) sh2 (Nat.le_trans le2 hn) ⟨rfl, rfl⟩ (c_X4_become hn ll cx x1 x2 x3 m8) (fun u9 m10 => ?_)
      refine T_iload C.1 dX8_mend_55 0 rfl ?_
      exact T_iret C.1 C.2.1 C.2.2 dX8_mend_57
    · refine T_iconst C.1 dX8_mend_20 ?_
      exact T_iret C.1 C.2.1 C.2.2 dX8_mend_21
def rm_X8_of : Room := { frames := 5, cells := 0, slots := 0, locals := 126 }
def F_X8_of_35  (a1 : Int32) (a2 : Int32) (m : Mm) : Option (Int32 × Mm) :=
  bnd (F_X4_isOne a1 m) fun v1 m2 =>
  (if v1 = iI 0 then
    some ((iI (-1)), m2)
  else
    tsw a2 (10) [(rd 7 a1 fun j3 =>
    some ((gI m2 24 j3), m2)),
     (rd 7 a1 fun j4 =>
    (if iI 0 ≤ (gI m2 25 j4) then
      rd 7 a1 fun j5 =>
      some ((gI m2 25 j5), m2)
    else
      some ((iI (-2)), m2))),
     (rd 7 a1 fun j6 =>
    some ((gI m2 27 j6), m2)),
     ((if a1 < (gI m2 23 4) then
      some ((iI 0), m2)
    else
      some ((iI 1), m2)))] (some ((iI (-1)), m2)))
set_option maxRecDepth 100000 in
set_option maxHeartbeats 4000000 in
theorem t_X8_of_35 {wn : Nat} (hn : NN ≤ wn) {pp : Program} {ll : Launch} {ee : Env} {ss : State} {mm : MethodId} {aa : Array Value} {bb : List Frame} {me : Method} {co : Code} {cx : CX}     (C : CM pp ss mm aa me co cX8_of 3 RX8 cx ((some .int)))    (a1 : Int32) (a2 : Int32) (m : Mm) : TI pp ll ee rm_X8_of ss mm aa bb me co 3 cx wn 35 [(0, .ref (cx.2.2.1 + 1)), (1, .int a1), (2, .int a2)] [] m (F_X8_of_35  a1 a2 m) := by
  unfold F_X8_of_35
  refine T_aload_n C.1 dX8_of_35 0 rfl ?_
  refine T_getR (x := 2) C.1 fd_X8_10 (fun _ _ _ _ => rfl) sh1 (Nat.le_trans le1 hn) (fun _ h => h) rfl (by decide) dX8_of_36 ?_
  refine T_iload_n C.1 dX8_of_39 1 rfl ?_
  refine T_callVI (rm := rm_X4_isOne) [.int a1] [] C.1 dX8_of_40 mw_X4_isOne wm_2_93 wm_2_85 wm_2_86 ⟨Nat.le_of_ble_eq_true rfl, Nat.le_of_ble_eq_true rfl⟩ ⟨rfl, rfl⟩ ⟨Nat.zero_le _, Nat.zero_le _⟩ rfl rfl (Nat.le_of_ble_eq_true rfl) sh2 (Nat.le_trans le2 hn) ⟨rfl, rfl⟩ (c_X4_isOne hn ll cx a1 m) (fun v1 m2 => ?_)
  refine T_if_ne (tgt := 48) C.1 dX8_of_43 (by decide) ?_ ?_
  · refine T_iload_n C.1 dX8_of_48 2 rfl ?_
    refine T_tsw (lo := (10)) (os := [31, 41, 68, 78]) C.1 dX8_of_49 rfl (by decide) (tgd := 144) (by decide) ⟨⟨80, by decide, ?_⟩, ⟨90, by decide, ?_⟩, ⟨117, by decide, ?_⟩, ⟨127, by decide, ?_⟩, trivial⟩ ?_
    · show TI pp ll ee rm_X8_of ss mm aa bb me co 3 cx wn _ _ _ _ _
      refine T_aload_n C.1 dX8_of_80 0 rfl ?_
      refine T_getR (x := 23) C.1 fd_X8_33 (fun _ _ _ _ => rfl) sh1 (Nat.le_trans le1 hn) (fun _ h => h) rfl (by decide) dX8_of_81 ?_
      refine T_getR (x := 24) C.1 fd_X8_110 (fun _ _ _ _ => rfl) sh23 (Nat.le_trans le23 hn) (fun _ h => h) rfl (by decide) dX8_of_84 ?_
      refine T_iload_n C.1 dX8_of_87 1 rfl ?_
      refine T_iald C.1 dX8_of_88 sh24 (Nat.le_trans le24 hn) (fun j3 => ?_)
      exact T_iret C.1 C.2.1 C.2.2 dX8_of_89
    · show TI pp ll ee rm_X8_of ss mm aa bb me co 3 cx wn _ _ _ _ _
      refine T_aload_n C.1 dX8_of_90 0 rfl ?_
      refine T_getR (x := 23) C.1 fd_X8_33 (fun _ _ _ _ => rfl) sh1 (Nat.le_trans le1 hn) (fun _ h => h) rfl (by decide) dX8_of_91 ?_
      refine T_getR (x := 25) C.1 fd_X8_114 (fun _ _ _ _ => rfl) sh23 (Nat.le_trans le23 hn) (fun _ h => h) rfl (by decide) dX8_of_94 ?_
      refine T_iload_n C.1 dX8_of_97 1 rfl ?_
      refine T_iald C.1 dX8_of_98 sh25 (Nat.le_trans le25 hn) (fun j4 => ?_)
      refine T_if_ge (tgt := 107) C.1 dX8_of_99 (by decide) ?_ ?_
      · refine T_aload_n C.1 dX8_of_107 0 rfl ?_
        refine T_getR (x := 23) C.1 fd_X8_33 (fun _ _ _ _ => rfl) sh1 (Nat.le_trans le1 hn) (fun _ h => h) rfl (by decide) dX8_of_108 ?_
        refine T_getR (x := 25) C.1 fd_X8_114 (fun _ _ _ _ => rfl) sh23 (Nat.le_trans le23 hn) (fun _ h => h) rfl (by decide) dX8_of_111 ?_
        refine T_iload_n C.1 dX8_of_114 1 rfl ?_
        refine T_iald C.1 dX8_of_115 sh25 (Nat.le_trans le25 hn) (fun j5 => ?_)
        exact T_iret C.1 C.2.1 C.2.2 dX8_of_116
      · refine T_bipush C.1 dX8_of_102 rfl ?_
        refine T_goto (tgt := 116) C.1 dX8_of_104 (by decide) ?_
        exact T_iret C.1 C.2.1 C.2.2 dX8_of_116
    · show TI pp ll ee rm_X8_of ss mm aa bb me co 3 cx wn _ _ _ _ _
      refine T_aload_n C.1 dX8_of_117 0 rfl ?_
      refine T_getR (x := 23) C.1 fd_X8_33 (fun _ _ _ _ => rfl) sh1 (Nat.le_trans le1 hn) (fun _ h => h) rfl (by decide) dX8_of_118 ?_
      refine T_getR (x := 27) C.1 fd_X8_117 (fun _ _ _ _ => rfl) sh23 (Nat.le_trans le23 hn) (fun _ h => h) rfl (by decide) dX8_of_121 ?_
      refine T_iload_n C.1 dX8_of_124 1 rfl ?_
      refine T_iald C.1 dX8_of_125 sh27 (Nat.le_trans le27 hn) (fun j6 => ?_)
      exact T_iret C.1 C.2.1 C.2.2 dX8_of_126
    · show TI pp ll ee rm_X8_of ss mm aa bb me co 3 cx wn _ _ _ _ _
      refine T_iload_n C.1 dX8_of_127 1 rfl ?_
      refine T_aload_n C.1 dX8_of_128 0 rfl ?_
      refine T_getR (x := 23) C.1 fd_X8_33 (fun _ _ _ _ => rfl) sh1 (Nat.le_trans le1 hn) (fun _ h => h) rfl (by decide) dX8_of_129 ?_
      refine T_getI C.1 fd_X8_120 (fun _ _ _ _ => rfl) sh23 (Nat.le_trans le23 hn) dX8_of_132 ?_
      refine T_icmp_lt (tgt := 142) C.1 dX8_of_135 (by decide) ?_ ?_
      · refine T_iconst C.1 dX8_of_142 ?_
        exact T_iret C.1 C.2.1 C.2.2 dX8_of_143
      · refine T_iconst C.1 dX8_of_138 ?_
        refine T_goto (tgt := 143) C.1 dX8_of_139 (by decide) ?_
        exact T_iret C.1 C.2.1 C.2.2 dX8_of_143
    · show TI pp ll ee rm_X8_of ss mm aa bb me co 3 cx wn _ _ _ _ _
      refine T_iconst C.1 dX8_of_144 ?_
      exact T_iret C.1 C.2.1 C.2.2 dX8_of_145
  · refine T_iconst C.1 dX8_of_46 ?_
    exact T_iret C.1 C.2.1 C.2.2 dX8_of_47
def F_X8_of  (x1 : Int32) (x2 : Int32) (m : Mm) : Option (Int32 × Mm) :=
  (if x2 < iI 0 then
    F_X8_of_35 x1 x2 m
  else
    (if (iI 4) < x2 then
      F_X8_of_35 x1 x2 m
    else
      bnd (F_X4_knows x1 x2 m) fun v1 m2 =>
      (if v1 = iI 0 then
        some ((iI (-1)), m2)
      else
        bnd (F_X4_value x1 x2 m2) fun v3 m4 =>
        some (v3, m4))))
set_option maxRecDepth 100000 in
set_option maxHeartbeats 4000000 in
theorem c_X8_of {wn : Nat} (hn : NN ≤ wn) (ll : Launch) (cx : CX) (x1 : Int32) (x2 : Int32) (m : Mm) : MT ll yX8_of cX8_of 3 ((some .int)) rm_X8_of cx wn wn Lay cvI 0 0 [.ref (cx.2.2.1 + 1), .int x1, .int x2] m (F_X8_of x1 x2 m) := by
  refine MT_of (by decide) (Nat.le_of_ble_eq_true rfl) ?_
  intro pp ee ss mm aa bb me co hK hr hk hn0
  have C : CM pp ss mm aa me co cX8_of 3 RX8 cx ((some .int)) := ⟨hK, hr, hk⟩
  show TI pp ll ee rm_X8_of ss mm aa bb me co 3 cx wn 0 [(0, .ref (cx.2.2.1 + 1)), (1, .int x1), (2, .int x2)] [] m (F_X8_of x1 x2 m)
  unfold F_X8_of
  refine T_iload_n C.1 dX8_of_0 2 rfl ?_
  refine T_if_lt (tgt := 35) C.1 dX8_of_1 (by decide) ?_ ?_
  · exact T_sub [0, 1, 2] rfl (t_X8_of_35 hn C x1 x2 m)
  · refine T_iload_n C.1 dX8_of_4 2 rfl ?_
    refine T_iconst C.1 dX8_of_5 ?_
    refine T_icmp_gt (tgt := 35) C.1 dX8_of_6 (by decide) ?_ ?_
    · exact T_sub [0, 1, 2] rfl (t_X8_of_35 hn C x1 x2 m)
    · refine T_aload_n C.1 dX8_of_9 0 rfl ?_
      refine T_getR (x := 2) C.1 fd_X8_10 (fun _ _ _ _ => rfl) sh1 (Nat.le_trans le1 hn) (fun _ h => h) rfl (by decide) dX8_of_10 ?_
      refine T_iload_n C.1 dX8_of_13 1 rfl ?_
      refine T_iload_n C.1 dX8_of_14 2 rfl ?_
      refine T_callVI (rm := rm_X4_knows) [.int x1, .int x2] [] C.1 dX8_of_15 mw_X4_knows wm_2_76 wm_2_77 wm_2_78 ⟨Nat.le_of_ble_eq_true rfl, Nat.le_of_ble_eq_true rfl⟩ ⟨rfl, rfl⟩ ⟨Nat.zero_le _, Nat.zero_le _⟩ rfl rfl (Nat.le_of_ble_eq_true rfl) sh2 (Nat.le_trans le2 hn) ⟨rfl, rfl⟩ (c_X4_knows hn ll cx x1 x2 m) (fun v1 m2 => ?_)
      refine T_if_eq (tgt := 33) C.1 dX8_of_18 (by decide) ?_ ?_
      · refine T_iconst C.1 dX8_of_33 ?_
        exact T_iret C.1 C.2.1 C.2.2 dX8_of_34
      · refine T_aload_n C.1 dX8_of_21 0 rfl ?_
        refine T_getR (x := 2) C.1 fd_X8_10 (fun _ _ _ _ => rfl) sh1 (Nat.le_trans le1 hn) (fun _ h => h) rfl (by decide) dX8_of_22 ?_
        refine T_iload_n C.1 dX8_of_25 1 rfl ?_
        refine T_iload_n C.1 dX8_of_26 2 rfl ?_
        refine T_callVI (rm := rm_X4_value) [.int x1, .int x2] [] C.1 dX8_of_27 mw_X4_value wm_2_88 wm_2_89 wm_2_90 ⟨Nat.le_of_ble_eq_true rfl, Nat.le_of_ble_eq_true rfl⟩ ⟨rfl, rfl⟩ ⟨Nat.zero_le _, Nat.zero_le _⟩ rfl rfl (Nat.le_of_ble_eq_true rfl) sh2 (Nat.le_trans le2 hn) ⟨rfl, rfl⟩ (c_X4_value hn ll cx x1 x2 m2) (fun v3 m4 => ?_)
        refine T_goto (tgt := 34) C.1 dX8_of_30 (by decide) ?_
        exact T_iret C.1 C.2.1 C.2.2 dX8_of_34
def rm_X8_swap : Room := { frames := 3, cells := 0, slots := 0, locals := 82 }
def F_X8_swap  (x1 : Int32) (m : Mm) : Option (Int32 × Mm) :=
  bnd (F_X4_isPair x1 m) fun v1 m2 =>
  (if v1 = iI 0 then
    some ((iI (-1)), m2)
  else
    dvI x1 (iI 10) fun v3 =>
    rmI x1 (iI 10) fun v4 =>
    (if v3 = v4 then
      some ((iI (-1)), m2)
    else
      bnd (F_X2_hasBegun 23 m2) fun v5 m6 =>
      (if v5 = iI 0 then
        dvI x1 (iI 10) fun v7 =>
        rmI x1 (iI 10) fun v8 =>
        bnd (F_X2_changePlaces 23 v7 v8 m6) fun _ m10 =>
        dvI x1 (iI 10) fun v11 =>
        rd 7 v11 fun j12 =>
        some ((gI m10 24 j12), m10)
      else
        some ((iI (-5)), m6))))
set_option maxRecDepth 100000 in
set_option maxHeartbeats 4000000 in
theorem c_X8_swap {wn : Nat} (hn : NN ≤ wn) (ll : Launch) (cx : CX) (x1 : Int32) (m : Mm) : MT ll yX8_swap cX8_swap 2 ((some .int)) rm_X8_swap cx wn wn Lay cvI 0 0 [.ref (cx.2.2.1 + 1), .int x1] m (F_X8_swap x1 m) := by
  refine MT_of (by decide) (Nat.le_of_ble_eq_true rfl) ?_
  intro pp ee ss mm aa bb me co hK hr hk hn0
  have C : CM pp ss mm aa me co cX8_swap 2 RX8 cx ((some .int)) := ⟨hK, hr, hk⟩
  show TI pp ll ee rm_X8_swap ss mm aa bb me co 2 cx wn 0 [(0, .ref (cx.2.2.1 + 1)), (1, .int x1)] [] m (F_X8_swap x1 m)
  unfold F_X8_swap
  refine T_aload_n C.1 dX8_swap_0 0 rfl ?_
  refine T_getR (x := 2) C.1 fd_X8_10 (fun _ _ _ _ => rfl) sh1 (Nat.le_trans le1 hn) (fun _ h => h) rfl (by decide) dX8_swap_1 ?_
  refine T_iload_n C.1 dX8_swap_4 1 rfl ?_
  refine T_callVI (rm := rm_X4_isPair) [.int x1] [] C.1 dX8_swap_5 mw_X4_isPair wm_3_222 wm_2_81 wm_2_82 ⟨Nat.le_of_ble_eq_true rfl, Nat.le_of_ble_eq_true rfl⟩ ⟨rfl, rfl⟩ ⟨Nat.zero_le _, Nat.zero_le _⟩ rfl rfl (Nat.le_of_ble_eq_true rfl) sh2 (Nat.le_trans le2 hn) ⟨rfl, rfl⟩ (c_X4_isPair hn ll cx x1 m) (fun v1 m2 => ?_)
  refine T_if_eq (tgt := 22) C.1 dX8_swap_8 (by decide) ?_ ?_
  · refine T_iconst C.1 dX8_swap_22 ?_
    exact T_iret C.1 C.2.1 C.2.2 dX8_swap_23
  · refine T_iload_n C.1 dX8_swap_11 1 rfl ?_
    refine T_bipush C.1 dX8_swap_12 rfl ?_
    refine T_idiv C.1 dX8_swap_14 (fun v3 => ?_)
    refine T_iload_n C.1 dX8_swap_15 1 rfl ?_
    refine T_bipush C.1 dX8_swap_16 rfl ?_
    refine T_irem C.1 dX8_swap_18 (fun v4 => ?_)
    refine T_icmp_ne (tgt := 24) C.1 dX8_swap_19 (by decide) ?_ ?_
    · refine T_aload_n C.1 dX8_swap_24 0 rfl ?_
      refine T_getR (x := 23) C.1 fd_X8_33 (fun _ _ _ _ => rfl) sh1 (Nat.le_trans le1 hn) (fun _ h => h) rfl (by decide) dX8_swap_25 ?_
      refine T_callVI (rm := rm_X2_hasBegun) [] [] C.1 dX8_swap_28 mw_X2_hasBegun wm_3_184 wm_2_179 wm_2_180 ⟨Nat.le_of_ble_eq_true rfl, Nat.le_of_ble_eq_true rfl⟩ ⟨rfl, rfl⟩ ⟨Nat.zero_le _, Nat.zero_le _⟩ rfl rfl (Nat.le_of_ble_eq_true rfl) sh23 (Nat.le_trans le23 hn) ⟨rfl, rfl⟩ (c_X2_hasBegun hn ll cx 23 m2) (fun v5 m6 => ?_)
      refine T_if_eq (tgt := 37) C.1 dX8_swap_31 (by decide) ?_ ?_
      · refine T_aload_n C.1 dX8_swap_37 0 rfl ?_
        refine T_getR (x := 23) C.1 fd_X8_33 (fun _ _ _ _ => rfl) sh1 (Nat.le_trans le1 hn) (fun _ h => h) rfl (by decide) dX8_swap_38 ?_
        refine T_iload_n C.1 dX8_swap_41 1 rfl ?_
        refine T_bipush C.1 dX8_swap_42 rfl ?_
        refine T_idiv C.1 dX8_swap_44 (fun v7 => ?_)
        refine T_iload_n C.1 dX8_swap_45 1 rfl ?_
        refine T_bipush C.1 dX8_swap_46 rfl ?_
        refine T_irem C.1 dX8_swap_48 (fun v8 => ?_)
        refine T_callVV (rm := rm_X2_changePlaces) [.int v7, .int v8] [] C.1 dX8_swap_49 mw_X2_changePlaces wm_3_223 wm_3_224 wm_3_225 ⟨Nat.le_of_ble_eq_true rfl, Nat.le_of_ble_eq_true rfl⟩ ⟨rfl, rfl⟩ ⟨Nat.zero_le _, Nat.zero_le _⟩ rfl rfl (Nat.le_of_ble_eq_true rfl) sh23 (Nat.le_trans le23 hn) ⟨rfl, rfl⟩ (c_X2_changePlaces hn ll cx 23 v7 v8 m6) (fun u9 m10 => ?_)
        refine T_aload_n C.1 dX8_swap_52 0 rfl ?_
        refine T_getR (x := 23) C.1 fd_X8_33 (fun _ _ _ _ => rfl) sh1 (Nat.le_trans le1 hn) (fun _ h => h) rfl (by decide) dX8_swap_53 ?_
        refine T_getR (x := 24) C.1 fd_X8_110 (fun _ _ _ _ => rfl) sh23 (Nat.le_trans le23 hn) (fun _ h => h) rfl (by decide) dX8_swap_56 ?_
        refine T_iload_n C.1 dX8_swap_59 1 rfl ?_
        refine T_bipush C.1 dX8_swap_60 rfl ?_
        refine T_idiv C.1 dX8_swap_62 (fun v11 => ?_)
        refine T_iald C.1 dX8_swap_63 sh24 (Nat.le_trans le24 hn) (fun j12 => ?_)
        exact T_iret C.1 C.2.1 C.2.2 dX8_swap_64
      · refine T_bipush C.1 dX8_swap_34 rfl ?_
        exact T_iret C.1 C.2.1 C.2.2 dX8_swap_36
    · refine T_iconst C.1 dX8_swap_22 ?_
      exact T_iret C.1 C.2.1 C.2.2 dX8_swap_23
def rm_X8_feed : Room := { frames := 2, cells := 0, slots := 0, locals := 61 }
def F_X8_feed  (x1 : Int32) (m : Mm) : Option (Int32 × Mm) :=
  (if x1 < iI 0 then
    some ((iI (-1)), m)
  else
    (if x1 ≤ (iI 255) then
      bnd (F_X6_append x1 m) fun v1 m2 =>
      (if v1 = iI 0 then
        some ((iI (-3)), m2)
      else
        some ((gI m2 16 1), m2))
    else
      some ((iI (-1)), m)))
set_option maxRecDepth 100000 in
set_option maxHeartbeats 4000000 in
theorem c_X8_feed {wn : Nat} (hn : NN ≤ wn) (ll : Launch) (cx : CX) (x1 : Int32) (m : Mm) : MT ll yX8_feed cX8_feed 2 ((some .int)) rm_X8_feed cx wn wn Lay cvI 0 0 [.ref (cx.2.2.1 + 1), .int x1] m (F_X8_feed x1 m) := by
  refine MT_of (by decide) (Nat.le_of_ble_eq_true rfl) ?_
  intro pp ee ss mm aa bb me co hK hr hk hn0
  have C : CM pp ss mm aa me co cX8_feed 2 RX8 cx ((some .int)) := ⟨hK, hr, hk⟩
  show TI pp ll ee rm_X8_feed ss mm aa bb me co 2 cx wn 0 [(0, .ref (cx.2.2.1 + 1)), (1, .int x1)] [] m (F_X8_feed x1 m)
  unfold F_X8_feed
  refine T_iload_n C.1 dX8_feed_0 1 rfl ?_
  refine T_if_lt (tgt := 11) C.1 dX8_feed_1 (by decide) ?_ ?_
  · refine T_iconst C.1 dX8_feed_11 ?_
    exact T_iret C.1 C.2.1 C.2.2 dX8_feed_12
  · refine T_iload_n C.1 dX8_feed_4 1 rfl ?_
    refine T_sipush C.1 dX8_feed_5 rfl ?_
    refine T_icmp_le (tgt := 13) C.1 dX8_feed_8 (by decide) ?_ ?_
    · refine T_aload_n C.1 dX8_feed_13 0 rfl ?_
      refine T_getR (x := 16) C.1 fd_X8_26 (fun _ _ _ _ => rfl) sh1 (Nat.le_trans le1 hn) (fun _ h => h) rfl (by decide) dX8_feed_14 ?_
      refine T_iload_n C.1 dX8_feed_17 1 rfl ?_
      refine T_callVI (rm := rm_X6_append) [.int x1] [] C.1 dX8_feed_18 mw_X6_append wm_3_237 wm_3_238 wm_3_239 ⟨Nat.le_of_ble_eq_true rfl, Nat.le_of_ble_eq_true rfl⟩ ⟨rfl, rfl⟩ ⟨Nat.zero_le _, Nat.zero_le _⟩ rfl rfl (Nat.le_of_ble_eq_true rfl) sh16 (Nat.le_trans le16 hn) ⟨rfl, rfl⟩ (c_X6_append hn ll cx x1 m) (fun v1 m2 => ?_)
      refine T_if_eq (tgt := 34) C.1 dX8_feed_21 (by decide) ?_ ?_
      · refine T_bipush C.1 dX8_feed_34 rfl ?_
        exact T_iret C.1 C.2.1 C.2.2 dX8_feed_36
      · refine T_aload_n C.1 dX8_feed_24 0 rfl ?_
        refine T_getR (x := 16) C.1 fd_X8_26 (fun _ _ _ _ => rfl) sh1 (Nat.le_trans le1 hn) (fun _ h => h) rfl (by decide) dX8_feed_25 ?_
        refine T_getI C.1 fd_X8_133 (fun _ _ _ _ => rfl) sh16 (Nat.le_trans le16 hn) dX8_feed_28 ?_
        refine T_goto (tgt := 36) C.1 dX8_feed_31 (by decide) ?_
        exact T_iret C.1 C.2.1 C.2.2 dX8_feed_36
    · refine T_iconst C.1 dX8_feed_11 ?_
      exact T_iret C.1 C.2.1 C.2.2 dX8_feed_12
def rm_X8_law : Room := { frames := 906, cells := 0, slots := 0, locals := 20847 }
def F_X8_law   (m : Mm) : Option (Int32 × Mm) :=
  bnd (F_X6_read m) fun v1 m2 =>
  (if v1 = (iI (-1)) then
    gdS (9, 3) (gR m2 2 6) fun q3 =>
    bnd (F_X6_draftFor q3 m2) fun q4 m5 =>
    gdS (9, 3) q4 fun q4 =>
    nm (pR m5 2 6 q4) fun m6 =>
    some ((iI 1), m6)
  else
    some (((iI (-100)) - v1), m2))
set_option maxRecDepth 100000 in
set_option maxHeartbeats 4000000 in
theorem c_X8_law {wn : Nat} (hn : NN ≤ wn) (ll : Launch) (cx : CX)  (m : Mm) : MT ll yX8_law cX8_law 2 ((some .int)) rm_X8_law cx wn wn Lay cvI 0 0 [.ref (cx.2.2.1 + 1)] m (F_X8_law  m) := by
  refine MT_of (by decide) (Nat.le_of_ble_eq_true rfl) ?_
  intro pp ee ss mm aa bb me co hK hr hk hn0
  have C : CM pp ss mm aa me co cX8_law 2 RX8 cx ((some .int)) := ⟨hK, hr, hk⟩
  show TI pp ll ee rm_X8_law ss mm aa bb me co 2 cx wn 0 [(0, .ref (cx.2.2.1 + 1))] [] m (F_X8_law  m)
  unfold F_X8_law
  refine T_aload_n C.1 dX8_law_0 0 rfl ?_
  refine T_getR (x := 16) C.1 fd_X8_26 (fun _ _ _ _ => rfl) sh1 (Nat.le_trans le1 hn) (fun _ h => h) rfl (by decide) dX8_law_1 ?_
  refine T_callVI (rm := rm_X6_read) [] [] C.1 dX8_law_4 mw_X6_read wm_4_5 wm_4_6 wm_4_7 ⟨Nat.le_of_ble_eq_true rfl, Nat.le_of_ble_eq_true rfl⟩ ⟨rfl, rfl⟩ ⟨Nat.zero_le _, Nat.zero_le _⟩ rfl rfl (Nat.le_of_ble_eq_true rfl) sh16 (Nat.le_trans le16 hn) ⟨rfl, rfl⟩ (c_X6_read hn ll cx m) (fun v1 m2 => ?_)
  refine T_istore_n (lv' := [(1, .int v1), (0, .ref (cx.2.2.1 + 1))]) C.1 dX8_law_7 (by decide) rfl ?_
  refine T_iload_n C.1 dX8_law_8 0 rfl ?_
  refine T_iconst C.1 dX8_law_9 ?_
  refine T_icmp_eq (tgt := 18) C.1 dX8_law_10 (by decide) ?_ ?_
  · refine T_aload_n C.1 dX8_law_18 1 rfl ?_
    refine T_getR (x := 2) C.1 fd_X8_10 (fun _ _ _ _ => rfl) sh1 (Nat.le_trans le1 hn) (fun _ h => h) rfl (by decide) dX8_law_19 ?_
    refine T_aload_n C.1 dX8_law_22 1 rfl ?_
    refine T_getR (x := 16) C.1 fd_X8_26 (fun _ _ _ _ => rfl) sh1 (Nat.le_trans le1 hn) (fun _ h => h) rfl (by decide) dX8_law_23 ?_
    refine T_aload_n C.1 dX8_law_26 1 rfl ?_
    refine T_getR (x := 2) C.1 fd_X8_10 (fun _ _ _ _ => rfl) sh1 (Nat.le_trans le1 hn) (fun _ h => h) rfl (by decide) dX8_law_27 ?_
    refine T_getS C.1 fd_X8_140 (fun _ _ _ _ => rfl) sh2 (Nat.le_trans le2 hn) (by decide) dX8_law_30 (fun q3 hq3 => ?_)
    refine T_callVR (rm := rm_X6_draftFor) [.ref (cx.2.2.1 + q3)] [.ref (cx.2.2.1 + 2)] C.1 dX8_law_33 mw_X6_draftFor wm_4_80 wm_4_81 wm_4_82 ⟨Nat.le_of_ble_eq_true rfl, Nat.le_of_ble_eq_true rfl⟩ ⟨rfl, rfl⟩ ⟨Nat.zero_le _, Nat.zero_le _⟩ rfl rfl (Nat.le_of_ble_eq_true rfl) sh16 (Nat.le_trans le16 hn) ⟨rfl, rfl⟩ (c_X6_draftFor hn ll cx q3 m2) (fun q4 m5 => ?_)
    refine T_gdS (fun hq4 => ?_)
    refine T_putD C.1 (fun _ _ _ _ => rfl) (fun _ => rfl) (fun _ => rfl) fd_X8_140 sh2 (Nat.le_trans le2 hn) (shp_pk hq4 (by decide)) (fun _ _ h => Lay_pR h sh2 (fun _ => rfl) (fun _ => rfl)) dX8_law_36 (fun m6 => ?_)
    refine T_iconst C.1 dX8_law_39 ?_
    exact T_iret C.1 C.2.1 C.2.2 dX8_law_40
  · refine T_bipush C.1 dX8_law_13 rfl ?_
    refine T_iload_n C.1 dX8_law_15 0 rfl ?_
    refine T_isub C.1 dX8_law_16 ?_
    exact T_iret C.1 C.2.1 C.2.2 dX8_law_17
