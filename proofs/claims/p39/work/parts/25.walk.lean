def rm_X7_firstBest : Room := { frames := 3, cells := 0, slots := 0, locals := 86 }
def F_X7_firstBest_39 (k_2 : Int32 → Int32 → Int32 → Mm → Option (Int32 × Mm)) (a1 : Int32) (a2 : Int32) (a3 : Int32) (m : Mm) : Option (Int32 × Mm) :=
  nm (a3 + (iI 1)) fun v1 =>
  k_2 a1 a2 v1 m
set_option maxRecDepth 100000 in
set_option maxHeartbeats 4000000 in
theorem t_X7_firstBest_39 {wn : Nat} (hn : NN ≤ wn) {pp : Program} {ll : Launch} {ee : Env} {ss : State} {mm : MethodId} {aa : Array Value} {bb : List Frame} {me : Method} {co : Code} {cx : CX}  {k_2 : Int32 → Int32 → Int32 → Mm → Option (Int32 × Mm)}   (C : CM pp ss mm aa me co cX7_firstBest 4 RX7 cx ((some .int)))   (hk_2 : ∀ (a1 : Int32) (a2 : Int32) (a3 : Int32) (m : Mm), TI pp ll ee rm_X7_firstBest ss mm aa bb me co 4 cx wn 2 [(0, .ref (cx.2.2.1 + 33)), (1, .int a1), (2, .int a2), (3, .int a3)] [] m (k_2 a1 a2 a3 m)) (a1 : Int32) (a2 : Int32) (a3 : Int32) (m : Mm) : TI pp ll ee rm_X7_firstBest ss mm aa bb me co 4 cx wn 39 [(0, .ref (cx.2.2.1 + 33)), (1, .int a1), (2, .int a2), (3, .int a3)] [] m (F_X7_firstBest_39 k_2 a1 a2 a3 m) := by
  unfold F_X7_firstBest_39
  refine T_iincN C.1 (fun v1 => [(3, .int v1), (0, .ref (cx.2.2.1 + 33)), (1, .int a1), (2, .int a2)]) dX7_firstBest_39 3 rfl (by decide) (fun _ => rfl) (fun v1 => ?_)
  refine T_goto (tgt := 2) C.1 dX7_firstBest_42 (by decide) ?_
  exact T_sub [1, 2, 3, 0] rfl (hk_2 a1 a2 v1 m)
def F_X7_firstBest_2  : Nat → Int32 → Int32 → Int32 → Mm → Option (Int32 × Mm)
  | 0, _, _, _, _ => none
  | f + 1, a1, a2, a3, m =>
    (if (gI m 2 0) ≤ a3 then
      some ((iI (-1)), m)
    else
      (if ((a2 >>> (a3 &&& 31)) &&& (iI 1)) = iI 0 then
        bnd (F_X7_worthWithAllBehind a1 a3 a2 m) fun v1 m2 =>
        rd 128 a2 fun j3 =>
        (if v1 = (gI m2 46 j3) then
          some (a3, m2)
        else
          F_X7_firstBest_39 (F_X7_firstBest_2  f) a1 a2 a3 m2)
      else
        F_X7_firstBest_39 (F_X7_firstBest_2  f) a1 a2 a3 m))
set_option maxRecDepth 100000 in
set_option maxHeartbeats 4000000 in
theorem t_X7_firstBest_2 {wn : Nat} (hn : NN ≤ wn) {pp : Program} {ll : Launch} {ee : Env} {ss : State} {mm : MethodId} {aa : Array Value} {bb : List Frame} {me : Method} {co : Code} {cx : CX}     (C : CM pp ss mm aa me co cX7_firstBest 4 RX7 cx ((some .int)))    : ∀ (f : Nat) (a1 : Int32) (a2 : Int32) (a3 : Int32) (m : Mm), TI pp ll ee rm_X7_firstBest ss mm aa bb me co 4 cx wn 2 [(0, .ref (cx.2.2.1 + 33)), (1, .int a1), (2, .int a2), (3, .int a3)] [] m (F_X7_firstBest_2  f a1 a2 a3 m) := by
  intro f
  induction f with
  | zero => exact fun _ _ _ _ => T_none
  | succ f ih =>
    intro a1 a2 a3 m
    unfold F_X7_firstBest_2
    refine T_iload_n C.1 dX7_firstBest_2 3 rfl ?_
    refine T_aload_n C.1 dX7_firstBest_3 0 rfl ?_
    refine T_getR (x := 2) C.1 fd_X7_43 (fun _ _ _ _ => rfl) sh33 (Nat.le_trans le33 hn) (fun _ h => h) rfl (by decide) dX7_firstBest_4 ?_
    refine T_getI C.1 fd_X7_52 (fun _ _ _ _ => rfl) sh2 (Nat.le_trans le2 hn) dX7_firstBest_7 ?_
    refine T_icmp_ge (tgt := 45) C.1 dX7_firstBest_10 (by decide) ?_ ?_
    · refine T_iconst C.1 dX7_firstBest_45 ?_
      exact T_iret C.1 C.2.1 C.2.2 dX7_firstBest_46
    · refine T_iload_n C.1 dX7_firstBest_13 2 rfl ?_
      refine T_iload_n C.1 dX7_firstBest_14 3 rfl ?_
      refine T_ishr C.1 dX7_firstBest_15 ?_
      refine T_iconst C.1 dX7_firstBest_16 ?_
      refine T_iand C.1 dX7_firstBest_17 ?_
      refine T_if_ne (tgt := 39) C.1 dX7_firstBest_18 (by decide) ?_ ?_
      · exact T_sub [0, 1, 2, 3] rfl (t_X7_firstBest_39 hn C (ih) a1 a2 a3 m)
      · refine T_aload_n C.1 dX7_firstBest_21 0 rfl ?_
        refine T_iload_n C.1 dX7_firstBest_22 1 rfl ?_
        refine T_iload_n C.1 dX7_firstBest_23 3 rfl ?_
        refine T_iload_n C.1 dX7_firstBest_24 2 rfl ?_
        refine T_callVI (rm := rm_X7_worthWithAllBehind) [.int a1, .int a3, .int a2] [] C.1 dX7_firstBest_25 mw_X7_worthWithAllBehind wm_3_37 wm_3_39 wm_p_10 ⟨Nat.le_of_ble_eq_true rfl, Nat.le_of_ble_eq_true rfl⟩ ⟨rfl, rfl⟩ ⟨Nat.zero_le _, Nat.zero_le _⟩ rfl rfl (Nat.le_of_ble_eq_true rfl) sh33 (Nat.le_trans le33 hn) ⟨rfl, rfl⟩ (c_X7_worthWithAllBehind hn ll cx a1 a3 a2 m) (fun v1 m2 => ?_)
        refine T_aload_n C.1 dX7_firstBest_28 0 rfl ?_
        refine T_getR (x := 46) C.1 fd_X7_22 (fun _ _ _ _ => rfl) sh33 (Nat.le_trans le33 hn) (fun _ h => h) rfl (by decide) dX7_firstBest_29 ?_
        refine T_iload_n C.1 dX7_firstBest_32 2 rfl ?_
        refine T_iald C.1 dX7_firstBest_33 sh46 (Nat.le_trans le46 hn) (fun j3 => ?_)
        refine T_icmp_ne (tgt := 39) C.1 dX7_firstBest_34 (by decide) ?_ ?_
        · exact T_sub [0, 1, 2, 3] rfl (t_X7_firstBest_39 hn C (ih) a1 a2 a3 m2)
        · refine T_iload_n C.1 dX7_firstBest_37 3 rfl ?_
          exact T_iret C.1 C.2.1 C.2.2 dX7_firstBest_38
def F_X7_firstBest  (x1 : Int32) (x2 : Int32) (m : Mm) : Option (Int32 × Mm) :=
  F_X7_firstBest_2 FU x1 x2 (iI 0) m
set_option maxRecDepth 100000 in
set_option maxHeartbeats 4000000 in
theorem c_X7_firstBest {wn : Nat} (hn : NN ≤ wn) (ll : Launch) (cx : CX) (x1 : Int32) (x2 : Int32) (m : Mm) : MT ll yX7_firstBest cX7_firstBest 4 ((some .int)) rm_X7_firstBest cx wn wn Lay cvI 0 0 [.ref (cx.2.2.1 + 33), .int x1, .int x2] m (F_X7_firstBest x1 x2 m) := by
  refine MT_of (by decide) (Nat.le_of_ble_eq_true rfl) ?_
  intro pp ee ss mm aa bb me co hK hr hk hn0
  have C : CM pp ss mm aa me co cX7_firstBest 4 RX7 cx ((some .int)) := ⟨hK, hr, hk⟩
  show TI pp ll ee rm_X7_firstBest ss mm aa bb me co 4 cx wn 0 [(0, .ref (cx.2.2.1 + 33)), (1, .int x1), (2, .int x2)] [] m (F_X7_firstBest x1 x2 m)
  unfold F_X7_firstBest
  refine T_iconst C.1 dX7_firstBest_0 ?_
  refine T_istore_n (lv' := [(3, .int (iI 0)), (0, .ref (cx.2.2.1 + 33)), (1, .int x1), (2, .int x2)]) C.1 dX7_firstBest_1 (by decide) rfl ?_
  exact T_sub [1, 2, 3, 0] rfl (t_X7_firstBest_2 hn C FU x1 x2 (iI 0) m)
def rm_X7_bestParting : Room := { frames := 4, cells := 0, slots := 0, locals := 111 }
def F_X7_bestParting_60 (k_23 : Int32 → Int32 → Int32 → Int32 → Mm → Option (Int32 × Mm)) (a1 : Int32) (a2 : Int32) (a3 : Int32) (a4 : Int32) (m : Mm) : Option (Int32 × Mm) :=
  nm (a4 + (iI 1)) fun v1 =>
  k_23 a1 a2 a3 v1 m
set_option maxRecDepth 100000 in
set_option maxHeartbeats 4000000 in
theorem t_X7_bestParting_60 {wn : Nat} (hn : NN ≤ wn) {pp : Program} {ll : Launch} {ee : Env} {ss : State} {mm : MethodId} {aa : Array Value} {bb : List Frame} {me : Method} {co : Code} {cx : CX}  {k_23 : Int32 → Int32 → Int32 → Int32 → Mm → Option (Int32 × Mm)}   (C : CM pp ss mm aa me co cX7_bestParting 5 RX7 cx ((some .int)))   (hk_23 : ∀ (a1 : Int32) (a2 : Int32) (a3 : Int32) (a4 : Int32) (m : Mm), TI pp ll ee rm_X7_bestParting ss mm aa bb me co 5 cx wn 23 [(0, .ref (cx.2.2.1 + 33)), (1, .int a1), (2, .int a2), (3, .int a3), (4, .int a4)] [] m (k_23 a1 a2 a3 a4 m)) (a1 : Int32) (a2 : Int32) (a3 : Int32) (a4 : Int32) (m : Mm) : TI pp ll ee rm_X7_bestParting ss mm aa bb me co 5 cx wn 60 [(0, .ref (cx.2.2.1 + 33)), (1, .int a1), (2, .int a2), (3, .int a3), (4, .int a4)] [] m (F_X7_bestParting_60 k_23 a1 a2 a3 a4 m) := by
  unfold F_X7_bestParting_60
  refine T_iincN C.1 (fun v1 => [(4, .int v1), (0, .ref (cx.2.2.1 + 33)), (1, .int a1), (2, .int a2), (3, .int a3)]) dX7_bestParting_60 4 rfl (by decide) (fun _ => rfl) (fun v1 => ?_)
  refine T_goto (tgt := 23) C.1 dX7_bestParting_63 (by decide) ?_
  exact T_sub [1, 2, 3, 4, 0] rfl (hk_23 a1 a2 a3 v1 m)
def F_X7_bestParting_23  : Nat → Int32 → Int32 → Int32 → Int32 → Mm → Option (Int32 × Mm)
  | 0, _, _, _, _, _ => none
  | f + 1, a1, a2, a3, a4, m =>
    (if a1 < a4 then
      some (a3, m)
    else
      (if (gI m 2 0) ≤ a4 then
        some (a3, m)
      else
        bnd (F_X7_firstBest a4 a2 m) fun v1 m2 =>
        (if v1 = (iI (-1)) then
          F_X7_bestParting_60 (F_X7_bestParting_23  f) a1 a2 v1 a4 m2
        else
          nm (a2 ||| ((iI 1) <<< (v1 &&& 31))) fun v3 =>
          F_X7_bestParting_60 (F_X7_bestParting_23  f) a1 v3 v1 a4 m2)))
set_option maxRecDepth 100000 in
set_option maxHeartbeats 4000000 in
theorem t_X7_bestParting_23 {wn : Nat} (hn : NN ≤ wn) {pp : Program} {ll : Launch} {ee : Env} {ss : State} {mm : MethodId} {aa : Array Value} {bb : List Frame} {me : Method} {co : Code} {cx : CX}     (C : CM pp ss mm aa me co cX7_bestParting 5 RX7 cx ((some .int)))    : ∀ (f : Nat) (a1 : Int32) (a2 : Int32) (a3 : Int32) (a4 : Int32) (m : Mm), TI pp ll ee rm_X7_bestParting ss mm aa bb me co 5 cx wn 23 [(0, .ref (cx.2.2.1 + 33)), (1, .int a1), (2, .int a2), (3, .int a3), (4, .int a4)] [] m (F_X7_bestParting_23  f a1 a2 a3 a4 m) := by
  intro f
  induction f with
  | zero => exact fun _ _ _ _ _ => T_none
  | succ f ih =>
    intro a1 a2 a3 a4 m
    unfold F_X7_bestParting_23
    refine T_iload C.1 dX7_bestParting_23 4 rfl ?_
    refine T_iload_n C.1 dX7_bestParting_25 1 rfl ?_
    refine T_icmp_gt (tgt := 66) C.1 dX7_bestParting_26 (by decide) ?_ ?_
    · refine T_iload_n C.1 dX7_bestParting_66 3 rfl ?_
      exact T_iret C.1 C.2.1 C.2.2 dX7_bestParting_67
    · refine T_iload C.1 dX7_bestParting_29 4 rfl ?_
      refine T_aload_n C.1 dX7_bestParting_31 0 rfl ?_
      refine T_getR (x := 2) C.1 fd_X7_43 (fun _ _ _ _ => rfl) sh33 (Nat.le_trans le33 hn) (fun _ h => h) rfl (by decide) dX7_bestParting_32 ?_
      refine T_getI C.1 fd_X7_52 (fun _ _ _ _ => rfl) sh2 (Nat.le_trans le2 hn) dX7_bestParting_35 ?_
      refine T_icmp_ge (tgt := 66) C.1 dX7_bestParting_38 (by decide) ?_ ?_
      · refine T_iload_n C.1 dX7_bestParting_66 3 rfl ?_
        exact T_iret C.1 C.2.1 C.2.2 dX7_bestParting_67
      · refine T_aload_n C.1 dX7_bestParting_41 0 rfl ?_
        refine T_iload C.1 dX7_bestParting_42 4 rfl ?_
        refine T_iload_n C.1 dX7_bestParting_44 2 rfl ?_
        refine T_callVI (rm := rm_X7_firstBest) [.int a4, .int a2] [] C.1 dX7_bestParting_45 mw_X7_firstBest wm_3_42 wm_3_44 wm_p_11 ⟨Nat.le_of_ble_eq_true rfl, Nat.le_of_ble_eq_true rfl⟩ ⟨rfl, rfl⟩ ⟨Nat.zero_le _, Nat.zero_le _⟩ rfl rfl (Nat.le_of_ble_eq_true rfl) sh33 (Nat.le_trans le33 hn) ⟨rfl, rfl⟩ (c_X7_firstBest hn ll cx a4 a2 m) (fun v1 m2 => ?_)
        refine T_istore_n (lv' := [(3, .int v1), (0, .ref (cx.2.2.1 + 33)), (1, .int a1), (2, .int a2), (4, .int a4)]) C.1 dX7_bestParting_48 (by decide) rfl ?_
        refine T_iload_n C.1 dX7_bestParting_49 0 rfl ?_
        refine T_iconst C.1 dX7_bestParting_50 ?_
        refine T_icmp_eq (tgt := 60) C.1 dX7_bestParting_51 (by decide) ?_ ?_
        · exact T_sub [1, 2, 3, 0, 4] rfl (t_X7_bestParting_60 hn C (ih) a1 a2 v1 a4 m2)
        · refine T_iload_n C.1 dX7_bestParting_54 3 rfl ?_
          refine T_iconst C.1 dX7_bestParting_55 ?_
          refine T_iload_n C.1 dX7_bestParting_56 0 rfl ?_
          refine T_ishl C.1 dX7_bestParting_57 ?_
          refine T_ior C.1 dX7_bestParting_58 ?_
          refine T_istore_nN C.1 (fun v3 => [(2, .int v3), (3, .int v1), (0, .ref (cx.2.2.1 + 33)), (1, .int a1), (4, .int a4)]) dX7_bestParting_59 (by decide) (fun _ => rfl) (fun v3 => ?_)
          exact T_sub [2, 3, 0, 1, 4] rfl (t_X7_bestParting_60 hn C (ih) a1 v3 v1 a4 m2)
def F_X7_bestParting  (x1 : Int32) (m : Mm) : Option (Int32 × Mm) :=
  bnd (F_X7_fillMostBehind m) fun _ m2 =>
  (if x1 = (iI (-1)) then
    rd 128 (iI 0) fun j3 =>
    some ((gI m2 46 j3), m2)
  else
    F_X7_bestParting_23 FU x1 (iI 0) (iI (-1)) (iI 0) m2)
set_option maxRecDepth 100000 in
set_option maxHeartbeats 4000000 in
theorem c_X7_bestParting {wn : Nat} (hn : NN ≤ wn) (ll : Launch) (cx : CX) (x1 : Int32) (m : Mm) : MT ll yX7_bestParting cX7_bestParting 5 ((some .int)) rm_X7_bestParting cx wn wn Lay cvI 0 0 [.ref (cx.2.2.1 + 33), .int x1] m (F_X7_bestParting x1 m) := by
  refine MT_of (by decide) (Nat.le_of_ble_eq_true rfl) ?_
  intro pp ee ss mm aa bb me co hK hr hk hn0
  have C : CM pp ss mm aa me co cX7_bestParting 5 RX7 cx ((some .int)) := ⟨hK, hr, hk⟩
  show TI pp ll ee rm_X7_bestParting ss mm aa bb me co 5 cx wn 0 [(0, .ref (cx.2.2.1 + 33)), (1, .int x1)] [] m (F_X7_bestParting x1 m)
  unfold F_X7_bestParting
  refine T_aload_n C.1 dX7_bestParting_0 0 rfl ?_
  refine T_callVV (rm := rm_X7_fillMostBehind) [] [] C.1 dX7_bestParting_1 mw_X7_fillMostBehind wm_3_27 wm_3_29 wm_p_9 ⟨Nat.le_of_ble_eq_true rfl, Nat.le_of_ble_eq_true rfl⟩ ⟨rfl, rfl⟩ ⟨Nat.zero_le _, Nat.zero_le _⟩ rfl rfl (Nat.le_of_ble_eq_true rfl) sh33 (Nat.le_trans le33 hn) ⟨rfl, rfl⟩ (c_X7_fillMostBehind hn ll cx m) (fun u1 m2 => ?_)
  refine T_iload_n C.1 dX7_bestParting_4 1 rfl ?_
  refine T_iconst C.1 dX7_bestParting_5 ?_
  refine T_icmp_ne (tgt := 16) C.1 dX7_bestParting_6 (by decide) ?_ ?_
  · refine T_iconst C.1 dX7_bestParting_16 ?_
    refine T_istore_n (lv' := [(2, .int (iI 0)), (0, .ref (cx.2.2.1 + 33)), (1, .int x1)]) C.1 dX7_bestParting_17 (by decide) rfl ?_
    refine T_iconst C.1 dX7_bestParting_18 ?_
    refine T_istore_n (lv' := [(3, .int (iI (-1))), (2, .int (iI 0)), (0, .ref (cx.2.2.1 + 33)), (1, .int x1)]) C.1 dX7_bestParting_19 (by decide) rfl ?_
    refine T_iconst C.1 dX7_bestParting_20 ?_
    refine T_istore (lv' := [(4, .int (iI 0)), (3, .int (iI (-1))), (2, .int (iI 0)), (0, .ref (cx.2.2.1 + 33)), (1, .int x1)]) C.1 dX7_bestParting_21 (by decide) rfl ?_
    exact T_sub [3, 4, 2, 1, 0] rfl (t_X7_bestParting_23 hn C FU x1 (iI 0) (iI (-1)) (iI 0) m2)
  · refine T_aload_n C.1 dX7_bestParting_9 0 rfl ?_
    refine T_getR (x := 46) C.1 fd_X7_22 (fun _ _ _ _ => rfl) sh33 (Nat.le_trans le33 hn) (fun _ h => h) rfl (by decide) dX7_bestParting_10 ?_
    refine T_iconst C.1 dX7_bestParting_13 ?_
    refine T_iald C.1 dX7_bestParting_14 sh46 (Nat.le_trans le46 hn) (fun j3 => ?_)
    exact T_iret C.1 C.2.1 C.2.2 dX7_bestParting_15
def rm_X7_envies : Room := { frames := 2, cells := 0, slots := 0, locals := 63 }
def F_X7_envies  (r1 : Nat) (x2 : Int32) (x3 : Int32) (m : Mm) : Option (Int32 × Mm) :=
  (if shp r1 = (9, 2) then
    rd 7 x3 fun j1 =>
    bnd (F_X4_worthFor x2 (gI m (r1 + 2) j1) m) fun v2 m3 =>
    rd 7 x2 fun j4 =>
    bnd (F_X4_worthFor x2 (gI m3 (r1 + 2) j4) m3) fun v5 m6 =>
    (if v2 ≤ v5 then
      rz (iI 0) m6
    else
      rz (iI 1) m6)
  else none)
set_option maxRecDepth 100000 in
set_option maxHeartbeats 4000000 in
theorem c_X7_envies {wn : Nat} (hn : NN ≤ wn) (ll : Launch) (cx : CX) (r1 : Nat) (x2 : Int32) (x3 : Int32) (m : Mm) : MT ll yX7_envies cX7_envies 4 ((some .boolean)) rm_X7_envies cx wn wn Lay cvI 0 0 [.ref (cx.2.2.1 + 33), .ref (cx.2.2.1 + r1), .int x2, .int x3] m (F_X7_envies r1 x2 x3 m) := by
  refine MT_of (by decide) (Nat.le_of_ble_eq_true rfl) ?_
  intro pp ee ss mm aa bb me co hK hr hk hn0
  have C : CM pp ss mm aa me co cX7_envies 4 RX7 cx ((some .boolean)) := ⟨hK, hr, hk⟩
  show TI pp ll ee rm_X7_envies ss mm aa bb me co 4 cx wn 0 [(0, .ref (cx.2.2.1 + 33)), (1, .ref (cx.2.2.1 + r1)), (2, .int x2), (3, .int x3)] [] m (F_X7_envies r1 x2 x3 m)
  unfold F_X7_envies
  refine T_if (fun hr1 => ?_) (fun _ => T_none)
  refine T_aload_n C.1 dX7_envies_0 0 rfl ?_
  refine T_getR (x := 2) C.1 fd_X7_43 (fun _ _ _ _ => rfl) sh33 (Nat.le_trans le33 hn) (fun _ h => h) rfl (by decide) dX7_envies_1 ?_
  refine T_iload_n C.1 dX7_envies_4 2 rfl ?_
  refine T_aload_n C.1 dX7_envies_5 1 rfl ?_
  refine T_getR (x := (r1 + 2)) C.1 fd_X7_73 (fun _ _ _ _ => rfl) hr1 (Nat.le_trans (shp_le hr1 (by decide)) hn) (fun _ h => h) rfl (Nat.succ_ne_zero _) dX7_envies_6 ?_
  refine T_iload_n C.1 dX7_envies_9 3 rfl ?_
  refine T_iald C.1 dX7_envies_10 (shr_2_2 hr1) (Nat.le_trans (shp_le (shr_2_2 hr1) (by decide)) hn) (fun j1 => ?_)
  refine T_callVI (rm := rm_X4_worthFor) [.int x2, .int (gI m (r1 + 2) j1)] [] C.1 dX7_envies_11 mw_X4_worthFor wm_3_18 wm_2_132 wm_2_133 ⟨Nat.le_of_ble_eq_true rfl, Nat.le_of_ble_eq_true rfl⟩ ⟨rfl, rfl⟩ ⟨Nat.zero_le _, Nat.zero_le _⟩ rfl rfl (Nat.le_of_ble_eq_true rfl) sh2 (Nat.le_trans le2 hn) ⟨rfl, rfl⟩ (c_X4_worthFor hn ll cx x2 (gI m (r1 + 2) j1) m) (fun v2 m3 => ?_)
  refine T_aload_n C.1 dX7_envies_14 0 rfl ?_
  refine T_getR (x := 2) C.1 fd_X7_43 (fun _ _ _ _ => rfl) sh33 (Nat.le_trans le33 hn) (fun _ h => h) rfl (by decide) dX7_envies_15 ?_
  refine T_iload_n C.1 dX7_envies_18 2 rfl ?_
  refine T_aload_n C.1 dX7_envies_19 1 rfl ?_
  refine T_getR (x := (r1 + 2)) C.1 fd_X7_73 (fun _ _ _ _ => rfl) hr1 (Nat.le_trans (shp_le hr1 (by decide)) hn) (fun _ h => h) rfl (Nat.succ_ne_zero _) dX7_envies_20 ?_
  refine T_iload_n C.1 dX7_envies_23 2 rfl ?_
  refine T_iald C.1 dX7_envies_24 (shr_2_2 hr1) (Nat.le_trans (shp_le (shr_2_2 hr1) (by decide)) hn) (fun j4 => ?_)
  refine T_callVI (rm := rm_X4_worthFor) [.int x2, .int (gI m3 (r1 + 2) j4)] [.int v2] C.1 dX7_envies_25 mw_X4_worthFor wm_3_18 wm_2_132 wm_2_133 ⟨Nat.le_of_ble_eq_true rfl, Nat.le_of_ble_eq_true rfl⟩ ⟨rfl, rfl⟩ ⟨Nat.zero_le _, Nat.zero_le _⟩ rfl rfl (Nat.le_of_ble_eq_true rfl) sh2 (Nat.le_trans le2 hn) ⟨rfl, rfl⟩ (c_X4_worthFor hn ll cx x2 (gI m3 (r1 + 2) j4) m3) (fun v5 m6 => ?_)
  refine T_icmp_le (tgt := 35) C.1 dX7_envies_28 (by decide) ?_ ?_
  · refine T_iconst C.1 dX7_envies_35 ?_
    exact T_zret C.1 C.2.1 C.2.2 dX7_envies_36
  · refine T_iconst C.1 dX7_envies_31 ?_
    refine T_goto (tgt := 36) C.1 dX7_envies_32 (by decide) ?_
    exact T_zret C.1 C.2.1 C.2.2 dX7_envies_36
def rm_X7_pairsWhoWouldChange : Room := { frames := 6, cells := 0, slots := 0, locals := 167 }
def F_X7_pairsWhoWouldChange_68 (k_11 : Nat → Int32 → Int32 → Mm → Option (Int32 × Mm)) (k_29 : Nat → Int32 → Int32 → Int32 → Mm → Option (Int32 × Mm)) (r1 : Nat) (r10 : Nat) (a2 : Int32) (a3 : Int32) (a4 : Int32) (m : Mm) : Option (Int32 × Mm) :=
  gdS (9, 2) r10 fun r10 =>
  nm (a4 + (iI 1)) fun v1 =>
  k_29 r10 a2 a3 v1 m
set_option maxRecDepth 100000 in
set_option maxHeartbeats 4000000 in
theorem t_X7_pairsWhoWouldChange_68 {wn : Nat} (hn : NN ≤ wn) {pp : Program} {ll : Launch} {ee : Env} {ss : State} {mm : MethodId} {aa : Array Value} {bb : List Frame} {me : Method} {co : Code} {cx : CX}  {k_11 : Nat → Int32 → Int32 → Mm → Option (Int32 × Mm)} {k_29 : Nat → Int32 → Int32 → Int32 → Mm → Option (Int32 × Mm)}  {r1 : Nat} (C : CM pp ss mm aa me co cX7_pairsWhoWouldChange 6 RX7 cx ((some .int))) (hr1 : shp r1 = (1, 7))  (hk_11 : ∀ (r10 : Nat) (a2 : Int32) (a3 : Int32) (m : Mm), TI pp ll ee rm_X7_pairsWhoWouldChange ss mm aa bb me co 6 cx wn 11 [(0, .ref (cx.2.2.1 + 33)), (2, .ref (cx.2.2.1 + r10)), (3, .int a2), (4, .int a3)] [] m (k_11 r10 a2 a3 m)) (hk_29 : ∀ (r10 : Nat) (a2 : Int32) (a3 : Int32) (a4 : Int32) (m : Mm), TI pp ll ee rm_X7_pairsWhoWouldChange ss mm aa bb me co 6 cx wn 29 [(0, .ref (cx.2.2.1 + 33)), (2, .ref (cx.2.2.1 + r10)), (3, .int a2), (4, .int a3), (5, .int a4)] [] m (k_29 r10 a2 a3 a4 m)) (r10 : Nat) (a2 : Int32) (a3 : Int32) (a4 : Int32) (m : Mm) : TI pp ll ee rm_X7_pairsWhoWouldChange ss mm aa bb me co 6 cx wn 68 [(0, .ref (cx.2.2.1 + 33)), (2, .ref (cx.2.2.1 + r10)), (3, .int a2), (4, .int a3), (5, .int a4)] [] m (F_X7_pairsWhoWouldChange_68 k_11 k_29 r1 r10 a2 a3 a4 m) := by
  unfold F_X7_pairsWhoWouldChange_68
  refine T_gdS (fun hr10 => ?_)
  refine T_iincN C.1 (fun v1 => [(5, .int v1), (0, .ref (cx.2.2.1 + 33)), (2, .ref (cx.2.2.1 + r10)), (3, .int a2), (4, .int a3)]) dX7_pairsWhoWouldChange_68 4 rfl (by decide) (fun _ => rfl) (fun v1 => ?_)
  refine T_goto (tgt := 29) C.1 dX7_pairsWhoWouldChange_71 (by decide) ?_
  exact T_sub [1, 2, 3, 4, 0] rfl (hk_29 r10 a2 a3 v1 m)
def F_X7_pairsWhoWouldChange_29 (k_11 : Nat → Int32 → Int32 → Mm → Option (Int32 × Mm)) (r1 : Nat) : Nat → Nat → Int32 → Int32 → Int32 → Mm → Option (Int32 × Mm)
  | 0, _, _, _, _, _ => none
  | f + 1, r10, a2, a3, a4, m =>
    gdS (9, 2) r10 fun r10 =>
    (if (gI m 2 0) ≤ a4 then
      nm (a3 + (iI 1)) fun v1 =>
      k_11 r10 a2 v1 m
    else
      bnd (F_X7_envies r10 a3 a4 m) fun v2 m3 =>
      (if v2 = iI 0 then
        F_X7_pairsWhoWouldChange_68 (k_11) (F_X7_pairsWhoWouldChange_29 k_11 r1 f) r1 r10 a2 a3 a4 m3
      else
        bnd (F_X7_envies r10 a4 a3 m3) fun v4 m5 =>
        (if v4 = iI 0 then
          F_X7_pairsWhoWouldChange_68 (k_11) (F_X7_pairsWhoWouldChange_29 k_11 r1 f) r1 r10 a2 a3 a4 m5
        else
          nm (a2 + (iI 1)) fun v6 =>
          F_X7_pairsWhoWouldChange_68 (k_11) (F_X7_pairsWhoWouldChange_29 k_11 r1 f) r1 r10 v6 a3 a4 m5)))
set_option maxRecDepth 100000 in
set_option maxHeartbeats 4000000 in
theorem t_X7_pairsWhoWouldChange_29 {wn : Nat} (hn : NN ≤ wn) {pp : Program} {ll : Launch} {ee : Env} {ss : State} {mm : MethodId} {aa : Array Value} {bb : List Frame} {me : Method} {co : Code} {cx : CX}  {k_11 : Nat → Int32 → Int32 → Mm → Option (Int32 × Mm)}  {r1 : Nat} (C : CM pp ss mm aa me co cX7_pairsWhoWouldChange 6 RX7 cx ((some .int))) (hr1 : shp r1 = (1, 7))  (hk_11 : ∀ (r10 : Nat) (a2 : Int32) (a3 : Int32) (m : Mm), TI pp ll ee rm_X7_pairsWhoWouldChange ss mm aa bb me co 6 cx wn 11 [(0, .ref (cx.2.2.1 + 33)), (2, .ref (cx.2.2.1 + r10)), (3, .int a2), (4, .int a3)] [] m (k_11 r10 a2 a3 m)) : ∀ (f : Nat) (r10 : Nat) (a2 : Int32) (a3 : Int32) (a4 : Int32) (m : Mm), TI pp ll ee rm_X7_pairsWhoWouldChange ss mm aa bb me co 6 cx wn 29 [(0, .ref (cx.2.2.1 + 33)), (2, .ref (cx.2.2.1 + r10)), (3, .int a2), (4, .int a3), (5, .int a4)] [] m (F_X7_pairsWhoWouldChange_29 k_11 r1 f r10 a2 a3 a4 m) := by
  intro f
  induction f with
  | zero => exact fun _ _ _ _ _ => T_none
  | succ f ih =>
    intro r10 a2 a3 a4 m
    unfold F_X7_pairsWhoWouldChange_29
    refine T_gdS (fun hr10 => ?_)
    refine T_iload C.1 dX7_pairsWhoWouldChange_29 4 rfl ?_
    refine T_aload_n C.1 dX7_pairsWhoWouldChange_31 0 rfl ?_
    refine T_getR (x := 2) C.1 fd_X7_43 (fun _ _ _ _ => rfl) sh33 (Nat.le_trans le33 hn) (fun _ h => h) rfl (by decide) dX7_pairsWhoWouldChange_32 ?_
    refine T_getI C.1 fd_X7_52 (fun _ _ _ _ => rfl) sh2 (Nat.le_trans le2 hn) dX7_pairsWhoWouldChange_35 ?_
    refine T_icmp_ge (tgt := 74) C.1 dX7_pairsWhoWouldChange_38 (by decide) ?_ ?_
    · refine T_iincN C.1 (fun v1 => [(4, .int v1), (0, .ref (cx.2.2.1 + 33)), (2, .ref (cx.2.2.1 + r10)), (3, .int a2), (5, .int a4)]) dX7_pairsWhoWouldChange_74 3 rfl (by decide) (fun _ => rfl) (fun v1 => ?_)
      refine T_goto (tgt := 11) C.1 dX7_pairsWhoWouldChange_77 (by decide) ?_
      exact T_sub [1, 2, 3, 0] rfl (hk_11 r10 a2 v1 m)
    · refine T_aload_n C.1 dX7_pairsWhoWouldChange_41 0 rfl ?_
      refine T_aload_n C.1 dX7_pairsWhoWouldChange_42 1 rfl ?_
      refine T_iload C.1 dX7_pairsWhoWouldChange_43 3 rfl ?_
      refine T_iload C.1 dX7_pairsWhoWouldChange_45 4 rfl ?_
      refine T_callVI (rm := rm_X7_envies) [.ref (cx.2.2.1 + r10), .int a3, .int a4] [] C.1 dX7_pairsWhoWouldChange_47 mw_X7_envies wm_3_55 wm_3_57 wm_p_12 ⟨Nat.le_of_ble_eq_true rfl, Nat.le_of_ble_eq_true rfl⟩ ⟨rfl, rfl⟩ ⟨Nat.zero_le _, Nat.zero_le _⟩ rfl rfl (Nat.le_of_ble_eq_true rfl) sh33 (Nat.le_trans le33 hn) ⟨rfl, rfl⟩ (c_X7_envies hn ll cx r10 a3 a4 m) (fun v2 m3 => ?_)
      refine T_if_eq (tgt := 68) C.1 dX7_pairsWhoWouldChange_50 (by decide) ?_ ?_
      · exact T_sub [0, 1, 2, 3, 4] rfl (t_X7_pairsWhoWouldChange_68 hn C hr1 (hk_11) (ih) r10 a2 a3 a4 m3)
      · refine T_aload_n C.1 dX7_pairsWhoWouldChange_53 0 rfl ?_
        refine T_aload_n C.1 dX7_pairsWhoWouldChange_54 1 rfl ?_
        refine T_iload C.1 dX7_pairsWhoWouldChange_55 4 rfl ?_
        refine T_iload C.1 dX7_pairsWhoWouldChange_57 3 rfl ?_
        refine T_callVI (rm := rm_X7_envies) [.ref (cx.2.2.1 + r10), .int a4, .int a3] [] C.1 dX7_pairsWhoWouldChange_59 mw_X7_envies wm_3_55 wm_3_57 wm_p_12 ⟨Nat.le_of_ble_eq_true rfl, Nat.le_of_ble_eq_true rfl⟩ ⟨rfl, rfl⟩ ⟨Nat.zero_le _, Nat.zero_le _⟩ rfl rfl (Nat.le_of_ble_eq_true rfl) sh33 (Nat.le_trans le33 hn) ⟨rfl, rfl⟩ (c_X7_envies hn ll cx r10 a4 a3 m3) (fun v4 m5 => ?_)
        refine T_if_eq (tgt := 68) C.1 dX7_pairsWhoWouldChange_62 (by decide) ?_ ?_
        · exact T_sub [0, 1, 2, 3, 4] rfl (t_X7_pairsWhoWouldChange_68 hn C hr1 (hk_11) (ih) r10 a2 a3 a4 m5)
        · refine T_iincN C.1 (fun v6 => [(3, .int v6), (0, .ref (cx.2.2.1 + 33)), (2, .ref (cx.2.2.1 + r10)), (4, .int a3), (5, .int a4)]) dX7_pairsWhoWouldChange_65 2 rfl (by decide) (fun _ => rfl) (fun v6 => ?_)
          exact T_sub [1, 2, 0, 3, 4] rfl (t_X7_pairsWhoWouldChange_68 hn C hr1 (hk_11) (ih) r10 v6 a3 a4 m5)
def F_X7_pairsWhoWouldChange_11 (r1 : Nat) : Nat → Nat → Int32 → Int32 → Mm → Option (Int32 × Mm)
  | 0, _, _, _, _ => none
  | f + 1, r10, a2, a3, m =>
    gdS (9, 2) r10 fun r10 =>
    (if (gI m 2 0) ≤ a3 then
      some (a2, m)
    else
      nm (a3 + (iI 1)) fun v1 =>
      F_X7_pairsWhoWouldChange_29 (F_X7_pairsWhoWouldChange_11 r1 f) r1 FU r10 a2 a3 v1 m)
set_option maxRecDepth 100000 in
set_option maxHeartbeats 4000000 in
theorem t_X7_pairsWhoWouldChange_11 {wn : Nat} (hn : NN ≤ wn) {pp : Program} {ll : Launch} {ee : Env} {ss : State} {mm : MethodId} {aa : Array Value} {bb : List Frame} {me : Method} {co : Code} {cx : CX}    {r1 : Nat} (C : CM pp ss mm aa me co cX7_pairsWhoWouldChange 6 RX7 cx ((some .int))) (hr1 : shp r1 = (1, 7))   : ∀ (f : Nat) (r10 : Nat) (a2 : Int32) (a3 : Int32) (m : Mm), TI pp ll ee rm_X7_pairsWhoWouldChange ss mm aa bb me co 6 cx wn 11 [(0, .ref (cx.2.2.1 + 33)), (2, .ref (cx.2.2.1 + r10)), (3, .int a2), (4, .int a3)] [] m (F_X7_pairsWhoWouldChange_11 r1 f r10 a2 a3 m) := by
  intro f
  induction f with
  | zero => exact fun _ _ _ _ => T_none
  | succ f ih =>
    intro r10 a2 a3 m
    unfold F_X7_pairsWhoWouldChange_11
    refine T_gdS (fun hr10 => ?_)
    refine T_iload C.1 dX7_pairsWhoWouldChange_11 3 rfl ?_
    refine T_aload_n C.1 dX7_pairsWhoWouldChange_13 0 rfl ?_
    refine T_getR (x := 2) C.1 fd_X7_43 (fun _ _ _ _ => rfl) sh33 (Nat.le_trans le33 hn) (fun _ h => h) rfl (by decide) dX7_pairsWhoWouldChange_14 ?_
    refine T_getI C.1 fd_X7_52 (fun _ _ _ _ => rfl) sh2 (Nat.le_trans le2 hn) dX7_pairsWhoWouldChange_17 ?_
    refine T_icmp_ge (tgt := 80) C.1 dX7_pairsWhoWouldChange_20 (by decide) ?_ ?_
    · refine T_iload_n C.1 dX7_pairsWhoWouldChange_80 2 rfl ?_
      exact T_iret C.1 C.2.1 C.2.2 dX7_pairsWhoWouldChange_81
    · refine T_iload C.1 dX7_pairsWhoWouldChange_23 3 rfl ?_
      refine T_iconst C.1 dX7_pairsWhoWouldChange_25 ?_
      refine T_iadd C.1 dX7_pairsWhoWouldChange_26 ?_
      refine T_istoreN C.1 (fun v1 => [(5, .int v1), (0, .ref (cx.2.2.1 + 33)), (2, .ref (cx.2.2.1 + r10)), (3, .int a2), (4, .int a3)]) dX7_pairsWhoWouldChange_27 (by decide) (fun _ => rfl) (fun v1 => ?_)
      exact T_sub [1, 2, 3, 4, 0] rfl (t_X7_pairsWhoWouldChange_29 hn C hr1 (ih) FU r10 a2 a3 v1 m)
def F_X7_pairsWhoWouldChange  (r1 : Nat) (m : Mm) : Option (Int32 × Mm) :=
  (if shp r1 = (1, 7) then
    bnd (F_X7_eveningBy r1 m) fun q1 m2 =>
    gdS (9, 2) q1 fun q1 =>
    F_X7_pairsWhoWouldChange_11 r1 FU q1 (iI 0) (iI 0) m2
  else none)
set_option maxRecDepth 100000 in
set_option maxHeartbeats 4000000 in
theorem c_X7_pairsWhoWouldChange {wn : Nat} (hn : NN ≤ wn) (ll : Launch) (cx : CX) (r1 : Nat) (m : Mm) : MT ll yX7_pairsWhoWouldChange cX7_pairsWhoWouldChange 6 ((some .int)) rm_X7_pairsWhoWouldChange cx wn wn Lay cvI 0 0 [.ref (cx.2.2.1 + 33), .ref (cx.2.2.1 + r1)] m (F_X7_pairsWhoWouldChange r1 m) := by
  refine MT_of (by decide) (Nat.le_of_ble_eq_true rfl) ?_
  intro pp ee ss mm aa bb me co hK hr hk hn0
  have C : CM pp ss mm aa me co cX7_pairsWhoWouldChange 6 RX7 cx ((some .int)) := ⟨hK, hr, hk⟩
  show TI pp ll ee rm_X7_pairsWhoWouldChange ss mm aa bb me co 6 cx wn 0 [(0, .ref (cx.2.2.1 + 33)), (1, .ref (cx.2.2.1 + r1))] [] m (F_X7_pairsWhoWouldChange r1 m)
  unfold F_X7_pairsWhoWouldChange
  refine T_if (fun hr1 => ?_) (fun _ => T_none)
  refine T_aload_n C.1 dX7_pairsWhoWouldChange_0 0 rfl ?_
  refine T_aload_n C.1 dX7_pairsWhoWouldChange_1 1 rfl ?_
  refine T_callVR (rm := rm_X7_eveningBy) [.ref (cx.2.2.1 + r1)] [] C.1 dX7_pairsWhoWouldChange_2 mw_X7_eveningBy wm_3_54 wm_2_207 wm_2_208 ⟨Nat.le_of_ble_eq_true rfl, Nat.le_of_ble_eq_true rfl⟩ ⟨rfl, rfl⟩ ⟨Nat.zero_le _, Nat.zero_le _⟩ rfl rfl (Nat.le_of_ble_eq_true rfl) sh33 (Nat.le_trans le33 hn) ⟨rfl, rfl⟩ (c_X7_eveningBy hn ll cx r1 m) (fun q1 m2 => ?_)
  refine T_gdS (fun hq1 => ?_)
  refine T_astore_n (lv' := [(2, .ref (cx.2.2.1 + q1)), (0, .ref (cx.2.2.1 + 33)), (1, .ref (cx.2.2.1 + r1))]) C.1 dX7_pairsWhoWouldChange_5 (by decide) rfl ?_
  refine T_iconst C.1 dX7_pairsWhoWouldChange_6 ?_
  refine T_istore_n (lv' := [(3, .int (iI 0)), (2, .ref (cx.2.2.1 + q1)), (0, .ref (cx.2.2.1 + 33)), (1, .ref (cx.2.2.1 + r1))]) C.1 dX7_pairsWhoWouldChange_7 (by decide) rfl ?_
  refine T_iconst C.1 dX7_pairsWhoWouldChange_8 ?_
  refine T_istore (lv' := [(4, .int (iI 0)), (3, .int (iI 0)), (2, .ref (cx.2.2.1 + q1)), (0, .ref (cx.2.2.1 + 33)), (1, .ref (cx.2.2.1 + r1))]) C.1 dX7_pairsWhoWouldChange_9 (by decide) rfl ?_
  exact T_sub [3, 2, 1, 0] rfl (t_X7_pairsWhoWouldChange_11 hn C hr1 FU q1 (iI 0) (iI 0) m2)
def rm_X7_lessen : Room := { frames := 1, cells := 0, slots := 0, locals := 40 }
def F_X7_lessen_2  : Nat → Int32 → Int32 → Int32 → Mm → Option (Unit × Mm)
  | 0, _, _, _, _ => none
  | f + 1, a1, a2, a3, m =>
    (if (gI m 2 0) ≤ a3 then
      some ((), m)
    else
      rd 7 a3 fun j1 =>
      wrI 70 m 3 (((iI 10) * a3) + a1) (mxI ((gI m 47 j1) - a2) (iI 0)) fun m2 =>
      nm (a3 + (iI 1)) fun v3 =>
      F_X7_lessen_2  f a1 a2 v3 m2)
set_option maxRecDepth 100000 in
set_option maxHeartbeats 4000000 in
theorem t_X7_lessen_2 {wn : Nat} (hn : NN ≤ wn) {pp : Program} {ll : Launch} {ee : Env} {ss : State} {mm : MethodId} {aa : Array Value} {bb : List Frame} {me : Method} {co : Code} {cx : CX}     (C : CM pp ss mm aa me co cX7_lessen 4 RX7 cx (none))    : ∀ (f : Nat) (a1 : Int32) (a2 : Int32) (a3 : Int32) (m : Mm), TV pp ll ee rm_X7_lessen ss mm aa bb me co 4 cx wn 2 [(0, .ref (cx.2.2.1 + 33)), (1, .int a1), (2, .int a2), (3, .int a3)] [] m (F_X7_lessen_2  f a1 a2 a3 m) := by
  intro f
  induction f with
  | zero => exact fun _ _ _ _ => T_none
  | succ f ih =>
    intro a1 a2 a3 m
    unfold F_X7_lessen_2
    refine T_iload_n C.1 dX7_lessen_2 3 rfl ?_
    refine T_aload_n C.1 dX7_lessen_3 0 rfl ?_
    refine T_getR (x := 2) C.1 fd_X7_43 (fun _ _ _ _ => rfl) sh33 (Nat.le_trans le33 hn) (fun _ h => h) rfl (by decide) dX7_lessen_4 ?_
    refine T_getI C.1 fd_X7_52 (fun _ _ _ _ => rfl) sh2 (Nat.le_trans le2 hn) dX7_lessen_7 ?_
    refine T_icmp_ge (tgt := 45) C.1 dX7_lessen_10 (by decide) ?_ ?_
    · exact T_vret C.1 C.2.1 C.2.2 dX7_lessen_45
    · refine T_aload_n C.1 dX7_lessen_13 0 rfl ?_
      refine T_getR (x := 2) C.1 fd_X7_43 (fun _ _ _ _ => rfl) sh33 (Nat.le_trans le33 hn) (fun _ h => h) rfl (by decide) dX7_lessen_14 ?_
      refine T_getR (x := 3) C.1 fd_X7_141 (fun _ _ _ _ => rfl) sh2 (Nat.le_trans le2 hn) (fun _ h => h) rfl (by decide) dX7_lessen_17 ?_
      refine T_bipush C.1 dX7_lessen_20 rfl ?_
      refine T_iload_n C.1 dX7_lessen_22 3 rfl ?_
      refine T_imul C.1 dX7_lessen_23 ?_
      refine T_iload_n C.1 dX7_lessen_24 1 rfl ?_
      refine T_iadd C.1 dX7_lessen_25 ?_
      refine T_aload_n C.1 dX7_lessen_26 0 rfl ?_
      refine T_getR (x := 47) C.1 fd_X7_26 (fun _ _ _ _ => rfl) sh33 (Nat.le_trans le33 hn) (fun _ h => h) rfl (by decide) dX7_lessen_27 ?_
      refine T_iload_n C.1 dX7_lessen_30 3 rfl ?_
      refine T_iald C.1 dX7_lessen_31 sh47 (Nat.le_trans le47 hn) (fun j1 => ?_)
      refine T_iload_n C.1 dX7_lessen_32 2 rfl ?_
      refine T_isub C.1 dX7_lessen_33 ?_
      refine T_iconst C.1 dX7_lessen_34 ?_
      refine T_mmax C.1 dX7_lessen_35 wm_3_41 wx_mmax_1 wx_math wx_mmax_2 (Nat.le_of_ble_eq_true rfl) (Nat.le_of_ble_eq_true rfl) ⟨Nat.zero_le _, Nat.zero_le _⟩ ?_
      refine T_iast C.1 LyI_Lay sh3 (Nat.le_trans le3 hn) dX7_lessen_38 (fun m2 => ?_)
      refine T_iincN C.1 (fun v3 => [(3, .int v3), (0, .ref (cx.2.2.1 + 33)), (1, .int a1), (2, .int a2)]) dX7_lessen_39 3 rfl (by decide) (fun _ => rfl) (fun v3 => ?_)
      refine T_goto (tgt := 2) C.1 dX7_lessen_42 (by decide) ?_
      exact T_sub [1, 2, 3, 0] rfl (ih a1 a2 v3 m2)
def F_X7_lessen  (x1 : Int32) (x2 : Int32) (m : Mm) : Option (Unit × Mm) :=
  F_X7_lessen_2 FU x1 x2 (iI 0) m
set_option maxRecDepth 100000 in
set_option maxHeartbeats 4000000 in
theorem c_X7_lessen {wn : Nat} (hn : NN ≤ wn) (ll : Launch) (cx : CX) (x1 : Int32) (x2 : Int32) (m : Mm) : MT ll yX7_lessen cX7_lessen 4 (none) rm_X7_lessen cx wn wn Lay cvV 0 0 [.ref (cx.2.2.1 + 33), .int x1, .int x2] m (F_X7_lessen x1 x2 m) := by
  refine MT_of (by decide) (Nat.le_of_ble_eq_true rfl) ?_
  intro pp ee ss mm aa bb me co hK hr hk hn0
  have C : CM pp ss mm aa me co cX7_lessen 4 RX7 cx (none) := ⟨hK, hr, hk⟩
  show TV pp ll ee rm_X7_lessen ss mm aa bb me co 4 cx wn 0 [(0, .ref (cx.2.2.1 + 33)), (1, .int x1), (2, .int x2)] [] m (F_X7_lessen x1 x2 m)
  unfold F_X7_lessen
  refine T_iconst C.1 dX7_lessen_0 ?_
  refine T_istore_n (lv' := [(3, .int (iI 0)), (0, .ref (cx.2.2.1 + 33)), (1, .int x1), (2, .int x2)]) C.1 dX7_lessen_1 (by decide) rfl ?_
  exact T_sub [1, 2, 3, 0] rfl (t_X7_lessen_2 hn C FU x1 x2 (iI 0) m)
def rm_X7_leastFace : Room := { frames := 6, cells := 0, slots := 0, locals := 167 }
def F_X7_leastFace_87 (r1 : Nat) (a1 : Int32) (a2 : Int32) (m : Mm) : Option (Int32 × Mm) :=
  bnd (F_X7_lessen a1 (iI 0) m) fun _ m2 =>
  some (a2, m2)
set_option maxRecDepth 100000 in
set_option maxHeartbeats 4000000 in
theorem t_X7_leastFace_87 {wn : Nat} (hn : NN ≤ wn) {pp : Program} {ll : Launch} {ee : Env} {ss : State} {mm : MethodId} {aa : Array Value} {bb : List Frame} {me : Method} {co : Code} {cx : CX}    {r1 : Nat} (C : CM pp ss mm aa me co cX7_leastFace 5 RX7 cx ((some .int))) (hr1 : shp r1 = (1, 7))   (a1 : Int32) (a2 : Int32) (m : Mm) : TI pp ll ee rm_X7_leastFace ss mm aa bb me co 5 cx wn 87 [(0, .ref (cx.2.2.1 + 33)), (2, .int a1), (3, .int a2)] [] m (F_X7_leastFace_87 r1 a1 a2 m) := by
  unfold F_X7_leastFace_87
  refine T_aload_n C.1 dX7_leastFace_87 0 rfl ?_
  refine T_iload_n C.1 dX7_leastFace_88 1 rfl ?_
  refine T_iconst C.1 dX7_leastFace_89 ?_
  refine T_callVV (rm := rm_X7_lessen) [.int a1, .int (iI 0)] [] C.1 dX7_leastFace_90 mw_X7_lessen wm_3_67 wm_3_69 wm_p_13 ⟨Nat.le_of_ble_eq_true rfl, Nat.le_of_ble_eq_true rfl⟩ ⟨rfl, rfl⟩ ⟨Nat.zero_le _, Nat.zero_le _⟩ rfl rfl (Nat.le_of_ble_eq_true rfl) sh33 (Nat.le_trans le33 hn) ⟨rfl, rfl⟩ (c_X7_lessen hn ll cx a1 (iI 0) m) (fun u1 m2 => ?_)
  refine T_iload_n C.1 dX7_leastFace_93 2 rfl ?_
  exact T_iret C.1 C.2.1 C.2.2 dX7_leastFace_94
def F_X7_leastFace_81 (k_45 : Int32 → Int32 → Int32 → Mm → Option (Int32 × Mm)) (r1 : Nat) (a1 : Int32) (a2 : Int32) (a3 : Int32) (m : Mm) : Option (Int32 × Mm) :=
  nm (a3 + (iI 1)) fun v1 =>
  k_45 a1 a2 v1 m
set_option maxRecDepth 100000 in
set_option maxHeartbeats 4000000 in
theorem t_X7_leastFace_81 {wn : Nat} (hn : NN ≤ wn) {pp : Program} {ll : Launch} {ee : Env} {ss : State} {mm : MethodId} {aa : Array Value} {bb : List Frame} {me : Method} {co : Code} {cx : CX}  {k_45 : Int32 → Int32 → Int32 → Mm → Option (Int32 × Mm)}  {r1 : Nat} (C : CM pp ss mm aa me co cX7_leastFace 5 RX7 cx ((some .int))) (hr1 : shp r1 = (1, 7))  (hk_45 : ∀ (a1 : Int32) (a2 : Int32) (a3 : Int32) (m : Mm), TI pp ll ee rm_X7_leastFace ss mm aa bb me co 5 cx wn 45 [(0, .ref (cx.2.2.1 + 33)), (1, .ref (cx.2.2.1 + r1)), (2, .int a1), (3, .int a2), (4, .int a3)] [] m (k_45 a1 a2 a3 m)) (a1 : Int32) (a2 : Int32) (a3 : Int32) (m : Mm) : TI pp ll ee rm_X7_leastFace ss mm aa bb me co 5 cx wn 81 [(0, .ref (cx.2.2.1 + 33)), (1, .ref (cx.2.2.1 + r1)), (2, .int a1), (3, .int a2), (4, .int a3)] [] m (F_X7_leastFace_81 k_45 r1 a1 a2 a3 m) := by
  unfold F_X7_leastFace_81
  refine T_iincN C.1 (fun v1 => [(4, .int v1), (0, .ref (cx.2.2.1 + 33)), (1, .ref (cx.2.2.1 + r1)), (2, .int a1), (3, .int a2)]) dX7_leastFace_81 4 rfl (by decide) (fun _ => rfl) (fun v1 => ?_)
  refine T_goto (tgt := 45) C.1 dX7_leastFace_84 (by decide) ?_
  exact T_sub [1, 2, 3, 4, 0] rfl (hk_45 a1 a2 v1 m)
def F_X7_leastFace_45 (r1 : Nat) : Nat → Int32 → Int32 → Int32 → Mm → Option (Int32 × Mm)
  | 0, _, _, _, _ => none
  | f + 1, a1, a2, a3, m =>
    (if (iI 99) < a3 then
      F_X7_leastFace_87 r1 a1 a2 m
    else
      (if a2 = (iI (-2)) then
        bnd (F_X7_lessen a1 a3 m) fun _ m2 =>
        bnd (F_X7_eveningBy r1 m2) fun q3 m4 =>
        gdS (9, 2) q3 fun q3 =>
        rd 7 a1 fun j5 =>
        (if (gI m4 (q3 + 4) j5) = iI 0 then
          F_X7_leastFace_81 (F_X7_leastFace_45 r1 f) r1 a1 a3 a3 m4
        else
          F_X7_leastFace_81 (F_X7_leastFace_45 r1 f) r1 a1 a2 a3 m4)
      else
        F_X7_leastFace_87 r1 a1 a2 m))
set_option maxRecDepth 100000 in
set_option maxHeartbeats 4000000 in
theorem t_X7_leastFace_45 {wn : Nat} (hn : NN ≤ wn) {pp : Program} {ll : Launch} {ee : Env} {ss : State} {mm : MethodId} {aa : Array Value} {bb : List Frame} {me : Method} {co : Code} {cx : CX}    {r1 : Nat} (C : CM pp ss mm aa me co cX7_leastFace 5 RX7 cx ((some .int))) (hr1 : shp r1 = (1, 7))   : ∀ (f : Nat) (a1 : Int32) (a2 : Int32) (a3 : Int32) (m : Mm), TI pp ll ee rm_X7_leastFace ss mm aa bb me co 5 cx wn 45 [(0, .ref (cx.2.2.1 + 33)), (1, .ref (cx.2.2.1 + r1)), (2, .int a1), (3, .int a2), (4, .int a3)] [] m (F_X7_leastFace_45 r1 f a1 a2 a3 m) := by
  intro f
  induction f with
  | zero => exact fun _ _ _ _ => T_none
  | succ f ih =>
    intro a1 a2 a3 m
    unfold F_X7_leastFace_45
    refine T_iload C.1 dX7_leastFace_45 4 rfl ?_
    refine T_bipush C.1 dX7_leastFace_47 rfl ?_
    refine T_icmp_gt (tgt := 87) C.1 dX7_leastFace_49 (by decide) ?_ ?_
    · exact T_sub [0, 2, 3] rfl (t_X7_leastFace_87 hn C hr1 a1 a2 m)
    · refine T_iload_n C.1 dX7_leastFace_52 3 rfl ?_
      refine T_bipush C.1 dX7_leastFace_53 rfl ?_
      refine T_icmp_ne (tgt := 87) C.1 dX7_leastFace_55 (by decide) ?_ ?_
      · exact T_sub [0, 2, 3] rfl (t_X7_leastFace_87 hn C hr1 a1 a2 m)
      · refine T_aload_n C.1 dX7_leastFace_58 0 rfl ?_
        refine T_iload_n C.1 dX7_leastFace_59 2 rfl ?_
        refine T_iload C.1 dX7_leastFace_60 4 rfl ?_
        refine T_callVV (rm := rm_X7_lessen) [.int a1, .int a3] [] C.1 dX7_leastFace_62 mw_X7_lessen wm_3_67 wm_3_69 wm_p_13 ⟨Nat.le_of_ble_eq_true rfl, Nat.le_of_ble_eq_true rfl⟩ ⟨rfl, rfl⟩ ⟨Nat.zero_le _, Nat.zero_le _⟩ rfl rfl (Nat.le_of_ble_eq_true rfl) sh33 (Nat.le_trans le33 hn) ⟨rfl, rfl⟩ (c_X7_lessen hn ll cx a1 a3 m) (fun u1 m2 => ?_)
        refine T_aload_n C.1 dX7_leastFace_65 0 rfl ?_
        refine T_aload_n C.1 dX7_leastFace_66 1 rfl ?_
        refine T_callVR (rm := rm_X7_eveningBy) [.ref (cx.2.2.1 + r1)] [] C.1 dX7_leastFace_67 mw_X7_eveningBy wm_3_54 wm_2_207 wm_2_208 ⟨Nat.le_of_ble_eq_true rfl, Nat.le_of_ble_eq_true rfl⟩ ⟨rfl, rfl⟩ ⟨Nat.zero_le _, Nat.zero_le _⟩ rfl rfl (Nat.le_of_ble_eq_true rfl) sh33 (Nat.le_trans le33 hn) ⟨rfl, rfl⟩ (c_X7_eveningBy hn ll cx r1 m2) (fun q3 m4 => ?_)
        refine T_gdS (fun hq3 => ?_)
        refine T_getR (x := (q3 + 4)) C.1 fd_X7_148 (fun _ _ _ _ => rfl) hq3 (Nat.le_trans (shp_le hq3 (by decide)) hn) (fun _ h => h) rfl (Nat.succ_ne_zero _) dX7_leastFace_70 ?_
        refine T_iload_n C.1 dX7_leastFace_73 2 rfl ?_
        refine T_iald C.1 dX7_leastFace_74 (shr_2_4 hq3) (Nat.le_trans (shp_le (shr_2_4 hq3) (by decide)) hn) (fun j5 => ?_)
        refine T_if_ne (tgt := 81) C.1 dX7_leastFace_75 (by decide) ?_ ?_
        · exact T_sub [0, 1, 2, 3, 4] rfl (t_X7_leastFace_81 hn C hr1 (ih) a1 a2 a3 m4)
        · refine T_iload C.1 dX7_leastFace_78 4 rfl ?_
          refine T_istore_n (lv' := [(3, .int a3), (0, .ref (cx.2.2.1 + 33)), (1, .ref (cx.2.2.1 + r1)), (2, .int a1), (4, .int a3)]) C.1 dX7_leastFace_80 (by decide) rfl ?_
          exact T_sub [1, 2, 3, 0, 4] rfl (t_X7_leastFace_81 hn C hr1 (ih) a1 a3 a3 m4)
def F_X7_leastFace_2 (r1 : Nat) : Nat → Int32 → Int32 → Mm → Option (Int32 × Mm)
  | 0, _, _, _ => none
  | f + 1, a1, a2, m =>
    (if (gI m 2 0) ≤ a2 then
      F_X7_leastFace_45 r1 FU a1 (iI (-2)) (iI 0) m
    else
      rd 70 (((iI 10) * a2) + a1) fun j1 =>
      wrI 7 m 47 a2 (gI m 3 j1) fun m2 =>
      nm (a2 + (iI 1)) fun v3 =>
      F_X7_leastFace_2 r1 f a1 v3 m2)
set_option maxRecDepth 100000 in
set_option maxHeartbeats 4000000 in
theorem t_X7_leastFace_2 {wn : Nat} (hn : NN ≤ wn) {pp : Program} {ll : Launch} {ee : Env} {ss : State} {mm : MethodId} {aa : Array Value} {bb : List Frame} {me : Method} {co : Code} {cx : CX}    {r1 : Nat} (C : CM pp ss mm aa me co cX7_leastFace 5 RX7 cx ((some .int))) (hr1 : shp r1 = (1, 7))   : ∀ (f : Nat) (a1 : Int32) (a2 : Int32) (m : Mm), TI pp ll ee rm_X7_leastFace ss mm aa bb me co 5 cx wn 2 [(0, .ref (cx.2.2.1 + 33)), (1, .ref (cx.2.2.1 + r1)), (2, .int a1), (3, .int a2)] [] m (F_X7_leastFace_2 r1 f a1 a2 m) := by
  intro f
  induction f with
  | zero => exact fun _ _ _ => T_none
  | succ f ih =>
    intro a1 a2 m
    unfold F_X7_leastFace_2
    refine T_iload_n C.1 dX7_leastFace_2 3 rfl ?_
    refine T_aload_n C.1 dX7_leastFace_3 0 rfl ?_
    refine T_getR (x := 2) C.1 fd_X7_43 (fun _ _ _ _ => rfl) sh33 (Nat.le_trans le33 hn) (fun _ h => h) rfl (by decide) dX7_leastFace_4 ?_
    refine T_getI C.1 fd_X7_52 (fun _ _ _ _ => rfl) sh2 (Nat.le_trans le2 hn) dX7_leastFace_7 ?_
    refine T_icmp_ge (tgt := 39) C.1 dX7_leastFace_10 (by decide) ?_ ?_
    · refine T_bipush C.1 dX7_leastFace_39 rfl ?_
      refine T_istore_n (lv' := [(3, .int (iI (-2))), (0, .ref (cx.2.2.1 + 33)), (1, .ref (cx.2.2.1 + r1)), (2, .int a1)]) C.1 dX7_leastFace_41 (by decide) rfl ?_
      refine T_iconst C.1 dX7_leastFace_42 ?_
      refine T_istore (lv' := [(4, .int (iI 0)), (3, .int (iI (-2))), (0, .ref (cx.2.2.1 + 33)), (1, .ref (cx.2.2.1 + r1)), (2, .int a1)]) C.1 dX7_leastFace_43 (by decide) rfl ?_
      exact T_sub [2, 3, 4, 1, 0] rfl (t_X7_leastFace_45 hn C hr1 FU a1 (iI (-2)) (iI 0) m)
    · refine T_aload_n C.1 dX7_leastFace_13 0 rfl ?_
      refine T_getR (x := 47) C.1 fd_X7_26 (fun _ _ _ _ => rfl) sh33 (Nat.le_trans le33 hn) (fun _ h => h) rfl (by decide) dX7_leastFace_14 ?_
      refine T_iload_n C.1 dX7_leastFace_17 3 rfl ?_
      refine T_aload_n C.1 dX7_leastFace_18 0 rfl ?_
      refine T_getR (x := 2) C.1 fd_X7_43 (fun _ _ _ _ => rfl) sh33 (Nat.le_trans le33 hn) (fun _ h => h) rfl (by decide) dX7_leastFace_19 ?_
      refine T_getR (x := 3) C.1 fd_X7_141 (fun _ _ _ _ => rfl) sh2 (Nat.le_trans le2 hn) (fun _ h => h) rfl (by decide) dX7_leastFace_22 ?_
      refine T_bipush C.1 dX7_leastFace_25 rfl ?_
      refine T_iload_n C.1 dX7_leastFace_27 3 rfl ?_
      refine T_imul C.1 dX7_leastFace_28 ?_
      refine T_iload_n C.1 dX7_leastFace_29 2 rfl ?_
      refine T_iadd C.1 dX7_leastFace_30 ?_
      refine T_iald C.1 dX7_leastFace_31 sh3 (Nat.le_trans le3 hn) (fun j1 => ?_)
      refine T_iast C.1 LyI_Lay sh47 (Nat.le_trans le47 hn) dX7_leastFace_32 (fun m2 => ?_)
      refine T_iincN C.1 (fun v3 => [(3, .int v3), (0, .ref (cx.2.2.1 + 33)), (1, .ref (cx.2.2.1 + r1)), (2, .int a1)]) dX7_leastFace_33 3 rfl (by decide) (fun _ => rfl) (fun v3 => ?_)
      refine T_goto (tgt := 2) C.1 dX7_leastFace_36 (by decide) ?_
      exact T_sub [1, 2, 3, 0] rfl (ih a1 v3 m2)
def F_X7_leastFace  (r1 : Nat) (x2 : Int32) (m : Mm) : Option (Int32 × Mm) :=
  (if shp r1 = (1, 7) then
    F_X7_leastFace_2 r1 FU x2 (iI 0) m
  else none)
set_option maxRecDepth 100000 in
set_option maxHeartbeats 4000000 in
theorem c_X7_leastFace {wn : Nat} (hn : NN ≤ wn) (ll : Launch) (cx : CX) (r1 : Nat) (x2 : Int32) (m : Mm) : MT ll yX7_leastFace cX7_leastFace 5 ((some .int)) rm_X7_leastFace cx wn wn Lay cvI 0 0 [.ref (cx.2.2.1 + 33), .ref (cx.2.2.1 + r1), .int x2] m (F_X7_leastFace r1 x2 m) := by
  refine MT_of (by decide) (Nat.le_of_ble_eq_true rfl) ?_
  intro pp ee ss mm aa bb me co hK hr hk hn0
  have C : CM pp ss mm aa me co cX7_leastFace 5 RX7 cx ((some .int)) := ⟨hK, hr, hk⟩
  show TI pp ll ee rm_X7_leastFace ss mm aa bb me co 5 cx wn 0 [(0, .ref (cx.2.2.1 + 33)), (1, .ref (cx.2.2.1 + r1)), (2, .int x2)] [] m (F_X7_leastFace r1 x2 m)
  unfold F_X7_leastFace
  refine T_if (fun hr1 => ?_) (fun _ => T_none)
  refine T_iconst C.1 dX7_leastFace_0 ?_
  refine T_istore_n (lv' := [(3, .int (iI 0)), (0, .ref (cx.2.2.1 + 33)), (1, .ref (cx.2.2.1 + r1)), (2, .int x2)]) C.1 dX7_leastFace_1 (by decide) rfl ?_
  exact T_sub [1, 2, 3, 0] rfl (t_X7_leastFace_2 hn C hr1 FU x2 (iI 0) m)
def rm_X7_drawNumbers : Room := { frames := 6, cells := 0, slots := 0, locals := 167 }
def F_X7_drawNumbers_123 (k_14 : Int32 → Int32 → Int32 → Mm → Option (Unit × Mm)) (r1 : Nat) : Nat → Int32 → Int32 → Int32 → Nat → Int32 → Mm → Option (Unit × Mm)
  | 0, _, _, _, _, _, _ => none
  | f + 1, a1, a2, a3, r40, a5, m =>
    gdS (9, 2) r40 fun r40 =>
    (if (gI m 2 0) ≤ a5 then
      nm (a3 + (iI 1)) fun v1 =>
      k_14 a1 a2 v1 m
    else
      rd 7 a5 fun j2 =>
      nm (gI m 48 j2) fun v3 =>
      rd 7 a5 fun j4 =>
      rd 7 v3 fun j5 =>
      bnd (F_X4_worthFor v3 (gI m (r40 + 2) j5) m) fun v6 m7 =>
      wrI 7 m7 49 a5 ((gI m 49 j4) + v6) fun m8 =>
      nm (a5 + (iI 1)) fun v9 =>
      F_X7_drawNumbers_123 k_14 r1 f a1 a2 a3 r40 v9 m8)
set_option maxRecDepth 100000 in
set_option maxHeartbeats 4000000 in
theorem t_X7_drawNumbers_123 {wn : Nat} (hn : NN ≤ wn) {pp : Program} {ll : Launch} {ee : Env} {ss : State} {mm : MethodId} {aa : Array Value} {bb : List Frame} {me : Method} {co : Code} {cx : CX}  {k_14 : Int32 → Int32 → Int32 → Mm → Option (Unit × Mm)}  {r1 : Nat} (C : CM pp ss mm aa me co cX7_drawNumbers 9 RX7 cx (none)) (hr1 : shp r1 = (1, 7))  (hk_14 : ∀ (a1 : Int32) (a2 : Int32) (a3 : Int32) (m : Mm), TV pp ll ee rm_X7_drawNumbers ss mm aa bb me co 9 cx wn 14 [(0, .ref (cx.2.2.1 + 33)), (1, .ref (cx.2.2.1 + r1)), (3, .int a1), (4, .int a2), (5, .int a3)] [] m (k_14 a1 a2 a3 m)) : ∀ (f : Nat) (a1 : Int32) (a2 : Int32) (a3 : Int32) (r40 : Nat) (a5 : Int32) (m : Mm), TV pp ll ee rm_X7_drawNumbers ss mm aa bb me co 9 cx wn 123 [(0, .ref (cx.2.2.1 + 33)), (1, .ref (cx.2.2.1 + r1)), (3, .int a1), (4, .int a2), (5, .int a3), (6, .ref (cx.2.2.1 + r40)), (7, .int a5)] [] m (F_X7_drawNumbers_123 k_14 r1 f a1 a2 a3 r40 a5 m) := by
  intro f
  induction f with
  | zero => exact fun _ _ _ _ _ _ => T_none
  | succ f ih =>
    intro a1 a2 a3 r40 a5 m
    unfold F_X7_drawNumbers_123
    refine T_gdS (fun hr40 => ?_)
    refine T_iload C.1 dX7_drawNumbers_123 6 rfl ?_
    refine T_aload_n C.1 dX7_drawNumbers_125 0 rfl ?_
    refine T_getR (x := 2) C.1 fd_X7_43 (fun _ _ _ _ => rfl) sh33 (Nat.le_trans le33 hn) (fun _ h => h) rfl (by decide) dX7_drawNumbers_126 ?_
    refine T_getI C.1 fd_X7_52 (fun _ _ _ _ => rfl) sh2 (Nat.le_trans le2 hn) dX7_drawNumbers_129 ?_
    refine T_icmp_ge (tgt := 177) C.1 dX7_drawNumbers_132 (by decide) ?_ ?_
    · refine T_iincN C.1 (fun v1 => [(5, .int v1), (0, .ref (cx.2.2.1 + 33)), (1, .ref (cx.2.2.1 + r1)), (3, .int a1), (4, .int a2), (6, .ref (cx.2.2.1 + r40)), (7, .int a5)]) dX7_drawNumbers_177 4 rfl (by decide) (fun _ => rfl) (fun v1 => ?_)
      refine T_goto (tgt := 14) C.1 dX7_drawNumbers_180 (by decide) ?_
      exact T_sub [1, 2, 3, 4, 0] rfl (hk_14 a1 a2 v1 m)
    · refine T_aload_n C.1 dX7_drawNumbers_135 0 rfl ?_
      refine T_getR (x := 48) C.1 fd_X7_29 (fun _ _ _ _ => rfl) sh33 (Nat.le_trans le33 hn) (fun _ h => h) rfl (by decide) dX7_drawNumbers_136 ?_
      refine T_iload C.1 dX7_drawNumbers_139 6 rfl ?_
      refine T_iald C.1 dX7_drawNumbers_141 sh48 (Nat.le_trans le48 hn) (fun j2 => ?_)
      refine T_istoreN C.1 (fun v3 => [(8, .int v3), (0, .ref (cx.2.2.1 + 33)), (1, .ref (cx.2.2.1 + r1)), (3, .int a1), (4, .int a2), (5, .int a3), (6, .ref (cx.2.2.1 + r40)), (7, .int a5)]) dX7_drawNumbers_142 (by decide) (fun _ => rfl) (fun v3 => ?_)
      refine T_aload_n C.1 dX7_drawNumbers_144 1 rfl ?_
      refine T_getR (x := 49) C.1 fd_X7_32 (fun _ _ _ _ => rfl) sh33 (Nat.le_trans le33 hn) (fun _ h => h) rfl (by decide) dX7_drawNumbers_145 ?_
      refine T_iload C.1 dX7_drawNumbers_148 7 rfl ?_
      refine T_dup2 C.1 dX7_drawNumbers_150 rfl rfl ?_
      refine T_iald C.1 dX7_drawNumbers_151 sh49 (Nat.le_trans le49 hn) (fun j4 => ?_)
      refine T_aload_n C.1 dX7_drawNumbers_152 1 rfl ?_
      refine T_getR (x := 2) C.1 fd_X7_43 (fun _ _ _ _ => rfl) sh33 (Nat.le_trans le33 hn) (fun _ h => h) rfl (by decide) dX7_drawNumbers_153 ?_
      refine T_iload C.1 dX7_drawNumbers_156 0 rfl ?_
      refine T_aload C.1 dX7_drawNumbers_158 6 rfl ?_
      refine T_getR (x := (r40 + 2)) C.1 fd_X7_73 (fun _ _ _ _ => rfl) hr40 (Nat.le_trans (shp_le hr40 (by decide)) hn) (fun _ h => h) rfl (Nat.succ_ne_zero _) dX7_drawNumbers_160 ?_
      refine T_iload C.1 dX7_drawNumbers_163 0 rfl ?_
      refine T_iald C.1 dX7_drawNumbers_165 (shr_2_2 hr40) (Nat.le_trans (shp_le (shr_2_2 hr40) (by decide)) hn) (fun j5 => ?_)
      refine T_callVI (rm := rm_X4_worthFor) [.int v3, .int (gI m (r40 + 2) j5)] [.int (gI m 49 j4), .int a5, .ref (cx.2.2.1 + 49)] C.1 dX7_drawNumbers_166 mw_X4_worthFor wm_3_18 wm_2_132 wm_2_133 ⟨Nat.le_of_ble_eq_true rfl, Nat.le_of_ble_eq_true rfl⟩ ⟨rfl, rfl⟩ ⟨Nat.zero_le _, Nat.zero_le _⟩ rfl rfl (Nat.le_of_ble_eq_true rfl) sh2 (Nat.le_trans le2 hn) ⟨rfl, rfl⟩ (c_X4_worthFor hn ll cx v3 (gI m (r40 + 2) j5) m) (fun v6 m7 => ?_)
      refine T_iadd C.1 dX7_drawNumbers_169 ?_
      refine T_iast C.1 LyI_Lay sh49 (Nat.le_trans le49 hn) dX7_drawNumbers_170 (fun m8 => ?_)
      refine T_iincN C.1 (fun v9 => [(7, .int v9), (8, .int v3), (0, .ref (cx.2.2.1 + 33)), (1, .ref (cx.2.2.1 + r1)), (3, .int a1), (4, .int a2), (5, .int a3), (6, .ref (cx.2.2.1 + r40))]) dX7_drawNumbers_171 7 rfl (by decide) (fun _ => rfl) (fun v9 => ?_)
      refine T_goto (tgt := 123) C.1 dX7_drawNumbers_174 (by decide) ?_
      exact T_sub [2, 3, 4, 5, 6, 7, 0] rfl (ih a1 a2 a3 r40 v9 m8)
def F_X7_drawNumbers_43 (k_14 : Int32 → Int32 → Int32 → Mm → Option (Unit × Mm)) (r1 : Nat) : Nat → Int32 → Int32 → Int32 → Int32 → Mm → Option (Unit × Mm)
  | 0, _, _, _, _, _ => none
  | f + 1, a1, a2, a3, a4, m =>
    (if a4 < (iI 1) then
      bnd (F_X7_eveningBy 48 m) fun q1 m2 =>
      gdS (9, 2) q1 fun q1 =>
      F_X7_drawNumbers_123 (k_14) r1 FU a1 a2 a3 q1 (iI 0) m2
    else
      nm ((a2 * (iI (1103515245))) + (iI 12345)) fun v3 =>
      rmI ((v3.toUInt32 >>> ((iI 8).toUInt32 &&& Int32.toUInt32 31)).toInt32) (a4 + (iI 1)) fun v4 =>
      rd 7 a4 fun j5 =>
      nm (gI m 48 j5) fun v6 =>
      rd 7 v4 fun j7 =>
      wrI 7 m 48 a4 (gI m 48 j7) fun m8 =>
      wrI 7 m8 48 v4 v6 fun m9 =>
      nm (a4 + (iI (-1))) fun v10 =>
      F_X7_drawNumbers_43 k_14 r1 f a1 v3 a3 v10 m9)
set_option maxRecDepth 100000 in
set_option maxHeartbeats 4000000 in
theorem t_X7_drawNumbers_43 {wn : Nat} (hn : NN ≤ wn) {pp : Program} {ll : Launch} {ee : Env} {ss : State} {mm : MethodId} {aa : Array Value} {bb : List Frame} {me : Method} {co : Code} {cx : CX}  {k_14 : Int32 → Int32 → Int32 → Mm → Option (Unit × Mm)}  {r1 : Nat} (C : CM pp ss mm aa me co cX7_drawNumbers 9 RX7 cx (none)) (hr1 : shp r1 = (1, 7))  (hk_14 : ∀ (a1 : Int32) (a2 : Int32) (a3 : Int32) (m : Mm), TV pp ll ee rm_X7_drawNumbers ss mm aa bb me co 9 cx wn 14 [(0, .ref (cx.2.2.1 + 33)), (1, .ref (cx.2.2.1 + r1)), (3, .int a1), (4, .int a2), (5, .int a3)] [] m (k_14 a1 a2 a3 m)) : ∀ (f : Nat) (a1 : Int32) (a2 : Int32) (a3 : Int32) (a4 : Int32) (m : Mm), TV pp ll ee rm_X7_drawNumbers ss mm aa bb me co 9 cx wn 43 [(0, .ref (cx.2.2.1 + 33)), (1, .ref (cx.2.2.1 + r1)), (3, .int a1), (4, .int a2), (5, .int a3), (6, .int a4)] [] m (F_X7_drawNumbers_43 k_14 r1 f a1 a2 a3 a4 m) := by
  intro f
  induction f with
  | zero => exact fun _ _ _ _ _ => T_none
  | succ f ih =>
    intro a1 a2 a3 a4 m
    unfold F_X7_drawNumbers_43
    refine T_iload C.1 dX7_drawNumbers_43 5 rfl ?_
    refine T_iconst C.1 dX7_drawNumbers_45 ?_
    refine T_icmp_lt (tgt := 110) C.1 dX7_drawNumbers_46 (by decide) ?_ ?_
    · refine T_aload_n C.1 dX7_drawNumbers_110 0 rfl ?_
      refine T_aload_n C.1 dX7_drawNumbers_111 0 rfl ?_
      refine T_getR (x := 48) C.1 fd_X7_29 (fun _ _ _ _ => rfl) sh33 (Nat.le_trans le33 hn) (fun _ h => h) rfl (by decide) dX7_drawNumbers_112 ?_
      refine T_callVR (rm := rm_X7_eveningBy) [.ref (cx.2.2.1 + 48)] [] C.1 dX7_drawNumbers_115 mw_X7_eveningBy wm_3_54 wm_2_207 wm_2_208 ⟨Nat.le_of_ble_eq_true rfl, Nat.le_of_ble_eq_true rfl⟩ ⟨rfl, rfl⟩ ⟨Nat.zero_le _, Nat.zero_le _⟩ rfl rfl (Nat.le_of_ble_eq_true rfl) sh33 (Nat.le_trans le33 hn) ⟨rfl, rfl⟩ (c_X7_eveningBy hn ll cx 48 m) (fun q1 m2 => ?_)
      refine T_gdS (fun hq1 => ?_)
      refine T_astore (lv' := [(6, .ref (cx.2.2.1 + q1)), (0, .ref (cx.2.2.1 + 33)), (1, .ref (cx.2.2.1 + r1)), (3, .int a1), (4, .int a2), (5, .int a3)]) C.1 dX7_drawNumbers_118 (by decide) rfl ?_
      refine T_iconst C.1 dX7_drawNumbers_120 ?_
      refine T_istore (lv' := [(7, .int (iI 0)), (6, .ref (cx.2.2.1 + q1)), (0, .ref (cx.2.2.1 + 33)), (1, .ref (cx.2.2.1 + r1)), (3, .int a1), (4, .int a2), (5, .int a3)]) C.1 dX7_drawNumbers_121 (by decide) rfl ?_
      exact T_sub [2, 3, 4, 5, 6, 1, 0] rfl (t_X7_drawNumbers_123 hn C hr1 (hk_14) FU a1 a2 a3 q1 (iI 0) m2)
    · refine T_iload C.1 dX7_drawNumbers_49 3 rfl ?_
      refine T_ldc C.1 dX7_drawNumbers_51 wc_X7_157 ?_
      refine T_imul C.1 dX7_drawNumbers_53 ?_
      refine T_sipush C.1 dX7_drawNumbers_54 rfl ?_
      refine T_iadd C.1 dX7_drawNumbers_57 ?_
      refine T_istoreN C.1 (fun v3 => [(4, .int v3), (0, .ref (cx.2.2.1 + 33)), (1, .ref (cx.2.2.1 + r1)), (3, .int a1), (5, .int a3), (6, .int a4)]) dX7_drawNumbers_58 (by decide) (fun _ => rfl) (fun v3 => ?_)
      refine T_iload C.1 dX7_drawNumbers_60 0 rfl ?_
      refine T_bipush C.1 dX7_drawNumbers_62 rfl ?_
      refine T_iushr C.1 dX7_drawNumbers_64 ?_
      refine T_iload C.1 dX7_drawNumbers_65 5 rfl ?_
      refine T_iconst C.1 dX7_drawNumbers_67 ?_
      refine T_iadd C.1 dX7_drawNumbers_68 ?_
      refine T_irem C.1 dX7_drawNumbers_69 (fun v4 => ?_)
      refine T_istore (lv' := [(7, .int v4), (4, .int v3), (0, .ref (cx.2.2.1 + 33)), (1, .ref (cx.2.2.1 + r1)), (3, .int a1), (5, .int a3), (6, .int a4)]) C.1 dX7_drawNumbers_70 (by decide) rfl ?_
      refine T_aload_n C.1 dX7_drawNumbers_72 2 rfl ?_
      refine T_getR (x := 48) C.1 fd_X7_29 (fun _ _ _ _ => rfl) sh33 (Nat.le_trans le33 hn) (fun _ h => h) rfl (by decide) dX7_drawNumbers_73 ?_
      refine T_iload C.1 dX7_drawNumbers_76 6 rfl ?_
      refine T_iald C.1 dX7_drawNumbers_78 sh48 (Nat.le_trans le48 hn) (fun j5 => ?_)
      refine T_istoreN C.1 (fun v6 => [(8, .int v6), (7, .int v4), (4, .int v3), (0, .ref (cx.2.2.1 + 33)), (1, .ref (cx.2.2.1 + r1)), (3, .int a1), (5, .int a3), (6, .int a4)]) dX7_drawNumbers_79 (by decide) (fun _ => rfl) (fun v6 => ?_)
      refine T_aload_n C.1 dX7_drawNumbers_81 3 rfl ?_
      refine T_getR (x := 48) C.1 fd_X7_29 (fun _ _ _ _ => rfl) sh33 (Nat.le_trans le33 hn) (fun _ h => h) rfl (by decide) dX7_drawNumbers_82 ?_
      refine T_iload C.1 dX7_drawNumbers_85 7 rfl ?_
      refine T_aload_n C.1 dX7_drawNumbers_87 3 rfl ?_
      refine T_getR (x := 48) C.1 fd_X7_29 (fun _ _ _ _ => rfl) sh33 (Nat.le_trans le33 hn) (fun _ h => h) rfl (by decide) dX7_drawNumbers_88 ?_
      refine T_iload C.1 dX7_drawNumbers_91 1 rfl ?_
      refine T_iald C.1 dX7_drawNumbers_93 sh48 (Nat.le_trans le48 hn) (fun j7 => ?_)
      refine T_iast C.1 LyI_Lay sh48 (Nat.le_trans le48 hn) dX7_drawNumbers_94 (fun m8 => ?_)
      refine T_aload_n C.1 dX7_drawNumbers_95 3 rfl ?_
      refine T_getR (x := 48) C.1 fd_X7_29 (fun _ _ _ _ => rfl) sh33 (Nat.le_trans le33 hn) (fun _ h => h) rfl (by decide) dX7_drawNumbers_96 ?_
      refine T_iload C.1 dX7_drawNumbers_99 1 rfl ?_
      refine T_iload C.1 dX7_drawNumbers_101 0 rfl ?_
      refine T_iast C.1 LyI_Lay sh48 (Nat.le_trans le48 hn) dX7_drawNumbers_103 (fun m9 => ?_)
      refine T_iincN C.1 (fun v10 => [(6, .int v10), (8, .int v6), (7, .int v4), (4, .int v3), (0, .ref (cx.2.2.1 + 33)), (1, .ref (cx.2.2.1 + r1)), (3, .int a1), (5, .int a3)]) dX7_drawNumbers_104 7 rfl (by decide) (fun _ => rfl) (fun v10 => ?_)
      refine T_goto (tgt := 43) C.1 dX7_drawNumbers_107 (by decide) ?_
      exact T_sub [4, 5, 6, 3, 7, 0] rfl (ih a1 v3 a3 v10 m9)
def F_X7_drawNumbers_14 (r1 : Nat) : Nat → Int32 → Int32 → Int32 → Mm → Option (Unit × Mm)
  | 0, _, _, _, _ => none
  | f + 1, a1, a2, a3, m =>
    (if a1 ≤ a3 then
      some ((), m)
    else
      cpI 7 7 m r1 (iI 0) 48 (iI 0) (iI 7) fun m1 =>
      nm ((gI m1 2 0) - (iI 1)) fun v2 =>
      F_X7_drawNumbers_43 (F_X7_drawNumbers_14 r1 f) r1 FU a1 a2 a3 v2 m1)
set_option maxRecDepth 100000 in
set_option maxHeartbeats 4000000 in
theorem t_X7_drawNumbers_14 {wn : Nat} (hn : NN ≤ wn) {pp : Program} {ll : Launch} {ee : Env} {ss : State} {mm : MethodId} {aa : Array Value} {bb : List Frame} {me : Method} {co : Code} {cx : CX}    {r1 : Nat} (C : CM pp ss mm aa me co cX7_drawNumbers 9 RX7 cx (none)) (hr1 : shp r1 = (1, 7))   : ∀ (f : Nat) (a1 : Int32) (a2 : Int32) (a3 : Int32) (m : Mm), TV pp ll ee rm_X7_drawNumbers ss mm aa bb me co 9 cx wn 14 [(0, .ref (cx.2.2.1 + 33)), (1, .ref (cx.2.2.1 + r1)), (3, .int a1), (4, .int a2), (5, .int a3)] [] m (F_X7_drawNumbers_14 r1 f a1 a2 a3 m) := by
  intro f
  induction f with
  | zero => exact fun _ _ _ _ => T_none
  | succ f ih =>
    intro a1 a2 a3 m
    unfold F_X7_drawNumbers_14
    refine T_iload C.1 dX7_drawNumbers_14 4 rfl ?_
    refine T_iload_n C.1 dX7_drawNumbers_16 2 rfl ?_
    refine T_icmp_ge (tgt := 183) C.1 dX7_drawNumbers_17 (by decide) ?_ ?_
    · exact T_vret C.1 C.2.1 C.2.2 dX7_drawNumbers_183
    · refine T_aload_n C.1 dX7_drawNumbers_20 1 rfl ?_
      refine T_iconst C.1 dX7_drawNumbers_21 ?_
      refine T_aload_n C.1 dX7_drawNumbers_22 0 rfl ?_
      refine T_getR (x := 48) C.1 fd_X7_29 (fun _ _ _ _ => rfl) sh33 (Nat.le_trans le33 hn) (fun _ h => h) rfl (by decide) dX7_drawNumbers_23 ?_
      refine T_iconst C.1 dX7_drawNumbers_26 ?_
      refine T_bipush C.1 dX7_drawNumbers_27 rfl ?_
      refine T_cpI C.1 (fun _ _ _ h => h) dX7_drawNumbers_29 wm_3_2 wx_ac_1 wx_ac_2 wx_sys hr1 (Nat.le_trans (shp_le hr1 (by decide)) hn) sh48 (Nat.le_trans le48 hn) (Nat.le_of_ble_eq_true rfl) (Nat.le_of_ble_eq_true rfl) (fun m1 => ?_)
      refine T_aload_n C.1 dX7_drawNumbers_32 0 rfl ?_
      refine T_getR (x := 2) C.1 fd_X7_43 (fun _ _ _ _ => rfl) sh33 (Nat.le_trans le33 hn) (fun _ h => h) rfl (by decide) dX7_drawNumbers_33 ?_
      refine T_getI C.1 fd_X7_52 (fun _ _ _ _ => rfl) sh2 (Nat.le_trans le2 hn) dX7_drawNumbers_36 ?_
      refine T_iconst C.1 dX7_drawNumbers_39 ?_
      refine T_isub C.1 dX7_drawNumbers_40 ?_
      refine T_istoreN C.1 (fun v2 => [(6, .int v2), (0, .ref (cx.2.2.1 + 33)), (1, .ref (cx.2.2.1 + r1)), (3, .int a1), (4, .int a2), (5, .int a3)]) dX7_drawNumbers_41 (by decide) (fun _ => rfl) (fun v2 => ?_)
      exact T_sub [1, 2, 3, 4, 5, 0] rfl (t_X7_drawNumbers_43 hn C hr1 (ih) FU a1 a2 a3 v2 m1)
def F_X7_drawNumbers  (r1 : Nat) (x2 : Int32) (x3 : Int32) (m : Mm) : Option (Unit × Mm) :=
  (if shp r1 = (1, 7) then
    bnd (F_J7_fill_53178 49 (iI 0) m) fun _ m2 =>
    F_X7_drawNumbers_14 r1 FU x3 x2 (iI 0) m2
  else none)
set_option maxRecDepth 100000 in
set_option maxHeartbeats 4000000 in
theorem c_X7_drawNumbers {wn : Nat} (hn : NN ≤ wn) (ll : Launch) (cx : CX) (r1 : Nat) (x2 : Int32) (x3 : Int32) (m : Mm) : MT ll yX7_drawNumbers cX7_drawNumbers 9 (none) rm_X7_drawNumbers cx wn wn Lay cvV 0 0 [.ref (cx.2.2.1 + 33), .ref (cx.2.2.1 + r1), .int x2, .int x3] m (F_X7_drawNumbers r1 x2 x3 m) := by
  refine MT_of (by decide) (Nat.le_of_ble_eq_true rfl) ?_
  intro pp ee ss mm aa bb me co hK hr hk hn0
  have C : CM pp ss mm aa me co cX7_drawNumbers 9 RX7 cx (none) := ⟨hK, hr, hk⟩
  show TV pp ll ee rm_X7_drawNumbers ss mm aa bb me co 9 cx wn 0 [(0, .ref (cx.2.2.1 + 33)), (1, .ref (cx.2.2.1 + r1)), (2, .int x2), (3, .int x3)] [] m (F_X7_drawNumbers r1 x2 x3 m)
  unfold F_X7_drawNumbers
  refine T_if (fun hr1 => ?_) (fun _ => T_none)
  refine T_aload_n C.1 dX7_drawNumbers_0 0 rfl ?_
  refine T_getR (x := 49) C.1 fd_X7_32 (fun _ _ _ _ => rfl) sh33 (Nat.le_trans le33 hn) (fun _ h => h) rfl (by decide) dX7_drawNumbers_1 ?_
  refine T_iconst C.1 dX7_drawNumbers_4 ?_
  refine T_callSV (rm := rm_J7_fill_53178) [.ref (cx.2.2.1 + 49), .int (iI 0)] [] C.1 dX7_drawNumbers_5 mw_J7_fill_53178 wm_3_79 wm_1_56 ⟨Nat.le_of_ble_eq_true rfl, Nat.le_of_ble_eq_true rfl⟩ ⟨rfl, rfl⟩ ⟨Nat.zero_le _, Nat.zero_le _⟩ rfl rfl (Nat.le_of_ble_eq_true rfl) (c_J7_fill_53178 hn ll cx 49 (iI 0) m) (fun u1 m2 => ?_)
  refine T_iload_n C.1 dX7_drawNumbers_8 2 rfl ?_
  refine T_istore (lv' := [(4, .int x2), (0, .ref (cx.2.2.1 + 33)), (1, .ref (cx.2.2.1 + r1)), (2, .int x2), (3, .int x3)]) C.1 dX7_drawNumbers_9 (by decide) rfl ?_
  refine T_iconst C.1 dX7_drawNumbers_11 ?_
  refine T_istore (lv' := [(5, .int (iI 0)), (4, .int x2), (0, .ref (cx.2.2.1 + 33)), (1, .ref (cx.2.2.1 + r1)), (2, .int x2), (3, .int x3)]) C.1 dX7_drawNumbers_12 (by decide) rfl ?_
  exact T_sub [2, 3, 5, 1, 0] rfl (t_X7_drawNumbers_14 hn C hr1 FU x3 x2 (iI 0) m2)
