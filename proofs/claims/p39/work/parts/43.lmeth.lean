/-! THE LAW'S OWN METHODS: printed by wip/p39/gen/gen4.py -/
def rm_L_cell : Room := { frames := 1, cells := 0, slots := 0, locals := 40 }
def F_L_cell (SC : SCT) (x2 : Int32) (m : Mm) : Option (Int32 × Mm) :=
  (if (Int32.ofNat SC.1) ≤ x2 then
    some ((x2 * (iI 8693)), m)
  else
    rd SC.1 x2 fun j1 =>
    some (((SC.2 j1) &&& (iI (16777215))), m))
set_option maxRecDepth 100000 in
set_option maxHeartbeats 4000000 in
theorem c_L_cell {wn : Nat} (hn : NN ≤ wn) (ll : Launch) (cx : CX) (x2 : Int32) (m : Mm) : MT ll yL_cell cL_cell 2 ((some .int)) rm_L_cell cx wn wn Lay cvI 0 0 [.ref cx.2.2.2.2.1, .int x2] m (F_L_cell cx.2.2.2.2.2 x2 m) := by
  refine MT_of (by decide) (Nat.le_of_ble_eq_true rfl) ?_
  intro pp ee ss mm aa bb me co hK hr hk hn0
  have C : CM pp ss mm aa me co cL_cell 2 RL cx ((some .int)) := ⟨hK, hr, hk⟩
  show TGI pp ll ee rm_L_cell ss mm aa bb me co 2 cx wn 0 0 wn 0 0 0 [(0, .ref cx.2.2.2.2.1), (1, .int x2)] [] m (F_L_cell cx.2.2.2.2.2 x2 m)
  unfold F_L_cell
  refine T_iload_n C.1 dL_cell_0 1 rfl ?_
  refine T_aload_n C.1 dL_cell_1 0 rfl ?_
  refine T_slenX C.1 dL_cell_2 ?_
  refine T_icmp_ge (tgt := 15) C.1 dL_cell_3 (by decide) ?_ ?_
  · refine T_iload_n C.1 dL_cell_15 1 rfl ?_
    refine T_sipush C.1 dL_cell_16 rfl ?_
    refine T_imul C.1 dL_cell_19 ?_
    exact T_iret C.1 C.2.1 C.2.2 dL_cell_20
  · refine T_aload_n C.1 dL_cell_6 0 rfl ?_
    refine T_iload_n C.1 dL_cell_7 1 rfl ?_
    refine T_sldX C.1 dL_cell_8 (fun j1 => ?_)
    refine T_ldc C.1 dL_cell_9 wc_L_16 ?_
    refine T_iand C.1 dL_cell_11 ?_
    refine T_goto (tgt := 20) C.1 dL_cell_12 (by decide) ?_
    exact T_iret C.1 C.2.1 C.2.2 dL_cell_20
def rm_L_people : Room := { frames := 2, cells := 0, slots := 0, locals := 61 }
def F_L_people (SC : SCT)  (m : Mm) : Option (Int32 × Mm) :=
  bnd (F_L_cell SC (iI 0) m) fun v1 m2 =>
  rmI v1 (iI 6) fun v3 =>
  some (((iI 1) + v3), m2)
set_option maxRecDepth 100000 in
set_option maxHeartbeats 4000000 in
theorem c_L_people {wn : Nat} (hn : NN ≤ wn) (ll : Launch) (cx : CX)  (m : Mm) : MT ll yL_people cL_people 1 ((some .int)) rm_L_people cx wn wn Lay cvI 0 0 [.ref cx.2.2.2.2.1] m (F_L_people cx.2.2.2.2.2 m) := by
  refine MT_of (by decide) (Nat.le_of_ble_eq_true rfl) ?_
  intro pp ee ss mm aa bb me co hK hr hk hn0
  have C : CM pp ss mm aa me co cL_people 1 RL cx ((some .int)) := ⟨hK, hr, hk⟩
  show TGI pp ll ee rm_L_people ss mm aa bb me co 1 cx wn 0 0 wn 0 0 0 [(0, .ref cx.2.2.2.2.1)] [] m (F_L_people cx.2.2.2.2.2 m)
  unfold F_L_people
  refine T_iconst C.1 dL_people_0 ?_
  refine T_aload_n C.1 dL_people_1 0 rfl ?_
  refine T_iconst C.1 dL_people_2 ?_
  refine T_callSI (rm := rm_L_cell) [.ref cx.2.2.2.2.1, .int (iI 0)] [.int (iI 1)] C.1 dL_people_3 mw_L_cell wm_3_164 wm_3_165 ⟨Nat.le_of_ble_eq_true rfl, Nat.le_of_ble_eq_true rfl⟩ ⟨rfl, rfl⟩ ⟨by decide, by decide⟩ rfl rfl (Nat.le_of_ble_eq_true rfl) (c_L_cell hn ll cx (iI 0) m) (fun v1 m2 => ?_)
  refine T_bipush C.1 dL_people_6 rfl ?_
  refine T_irem C.1 dL_people_8 (fun v3 => ?_)
  refine T_iadd C.1 dL_people_9 ?_
  exact T_iret C.1 C.2.1 C.2.2 dL_people_10
def rm_L_way : Room := { frames := 2, cells := 0, slots := 0, locals := 61 }
def F_L_way (SC : SCT) (x2 : Int32) (m : Mm) : Option (Int32 × Mm) :=
  bnd (F_L_cell SC (iI 0) m) fun v1 m2 =>
  rmI ((v1 >>> (((iI 3) + ((iI 2) * x2)) &&& 31)) &&& (iI 3)) (iI 3) fun v3 =>
  some (v3, m2)
set_option maxRecDepth 100000 in
set_option maxHeartbeats 4000000 in
theorem c_L_way {wn : Nat} (hn : NN ≤ wn) (ll : Launch) (cx : CX) (x2 : Int32) (m : Mm) : MT ll yL_way cL_way 2 ((some .int)) rm_L_way cx wn wn Lay cvI 0 0 [.ref cx.2.2.2.2.1, .int x2] m (F_L_way cx.2.2.2.2.2 x2 m) := by
  refine MT_of (by decide) (Nat.le_of_ble_eq_true rfl) ?_
  intro pp ee ss mm aa bb me co hK hr hk hn0
  have C : CM pp ss mm aa me co cL_way 2 RL cx ((some .int)) := ⟨hK, hr, hk⟩
  show TGI pp ll ee rm_L_way ss mm aa bb me co 2 cx wn 0 0 wn 0 0 0 [(0, .ref cx.2.2.2.2.1), (1, .int x2)] [] m (F_L_way cx.2.2.2.2.2 x2 m)
  unfold F_L_way
  refine T_aload_n C.1 dL_way_0 0 rfl ?_
  refine T_iconst C.1 dL_way_1 ?_
  refine T_callSI (rm := rm_L_cell) [.ref cx.2.2.2.2.1, .int (iI 0)] [] C.1 dL_way_2 mw_L_cell wm_3_164 wm_3_165 ⟨Nat.le_of_ble_eq_true rfl, Nat.le_of_ble_eq_true rfl⟩ ⟨rfl, rfl⟩ ⟨by decide, by decide⟩ rfl rfl (Nat.le_of_ble_eq_true rfl) (c_L_cell hn ll cx (iI 0) m) (fun v1 m2 => ?_)
  refine T_iconst C.1 dL_way_5 ?_
  refine T_iconst C.1 dL_way_6 ?_
  refine T_iload_n C.1 dL_way_7 1 rfl ?_
  refine T_imul C.1 dL_way_8 ?_
  refine T_iadd C.1 dL_way_9 ?_
  refine T_ishr C.1 dL_way_10 ?_
  refine T_iconst C.1 dL_way_11 ?_
  refine T_iand C.1 dL_way_12 ?_
  refine T_iconst C.1 dL_way_13 ?_
  refine T_irem C.1 dL_way_14 (fun v3 => ?_)
  exact T_iret C.1 C.2.1 C.2.2 dL_way_15
def rm_L_most : Room := { frames := 2, cells := 0, slots := 0, locals := 61 }
def F_L_most (SC : SCT)  (m : Mm) : Option (Int32 × Mm) :=
  bnd (F_L_cell SC (iI 0) m) fun v1 m2 =>
  rmI (v1 >>> ((iI 15) &&& 31)) (iI 3) fun v3 =>
  some (((iI 1) + v3), m2)
set_option maxRecDepth 100000 in
set_option maxHeartbeats 4000000 in
theorem c_L_most {wn : Nat} (hn : NN ≤ wn) (ll : Launch) (cx : CX)  (m : Mm) : MT ll yL_most cL_most 1 ((some .int)) rm_L_most cx wn wn Lay cvI 0 0 [.ref cx.2.2.2.2.1] m (F_L_most cx.2.2.2.2.2 m) := by
  refine MT_of (by decide) (Nat.le_of_ble_eq_true rfl) ?_
  intro pp ee ss mm aa bb me co hK hr hk hn0
  have C : CM pp ss mm aa me co cL_most 1 RL cx ((some .int)) := ⟨hK, hr, hk⟩
  show TGI pp ll ee rm_L_most ss mm aa bb me co 1 cx wn 0 0 wn 0 0 0 [(0, .ref cx.2.2.2.2.1)] [] m (F_L_most cx.2.2.2.2.2 m)
  unfold F_L_most
  refine T_iconst C.1 dL_most_0 ?_
  refine T_aload_n C.1 dL_most_1 0 rfl ?_
  refine T_iconst C.1 dL_most_2 ?_
  refine T_callSI (rm := rm_L_cell) [.ref cx.2.2.2.2.1, .int (iI 0)] [.int (iI 1)] C.1 dL_most_3 mw_L_cell wm_3_164 wm_3_165 ⟨Nat.le_of_ble_eq_true rfl, Nat.le_of_ble_eq_true rfl⟩ ⟨rfl, rfl⟩ ⟨by decide, by decide⟩ rfl rfl (Nat.le_of_ble_eq_true rfl) (c_L_cell hn ll cx (iI 0) m) (fun v1 m2 => ?_)
  refine T_bipush C.1 dL_most_6 rfl ?_
  refine T_ishr C.1 dL_most_8 ?_
  refine T_iconst C.1 dL_most_9 ?_
  refine T_irem C.1 dL_most_10 (fun v3 => ?_)
  refine T_iadd C.1 dL_most_11 ?_
  exact T_iret C.1 C.2.1 C.2.2 dL_most_12
def rm_L_again : Room := { frames := 2, cells := 0, slots := 0, locals := 61 }
def F_L_again (SC : SCT)  (m : Mm) : Option (Int32 × Mm) :=
  bnd (F_L_cell SC (iI 0) m) fun v1 m2 =>
  some (((v1 >>> ((iI 17) &&& 31)) &&& (iI 1)), m2)
set_option maxRecDepth 100000 in
set_option maxHeartbeats 4000000 in
theorem c_L_again {wn : Nat} (hn : NN ≤ wn) (ll : Launch) (cx : CX)  (m : Mm) : MT ll yL_again cL_again 1 ((some .int)) rm_L_again cx wn wn Lay cvI 0 0 [.ref cx.2.2.2.2.1] m (F_L_again cx.2.2.2.2.2 m) := by
  refine MT_of (by decide) (Nat.le_of_ble_eq_true rfl) ?_
  intro pp ee ss mm aa bb me co hK hr hk hn0
  have C : CM pp ss mm aa me co cL_again 1 RL cx ((some .int)) := ⟨hK, hr, hk⟩
  show TGI pp ll ee rm_L_again ss mm aa bb me co 1 cx wn 0 0 wn 0 0 0 [(0, .ref cx.2.2.2.2.1)] [] m (F_L_again cx.2.2.2.2.2 m)
  unfold F_L_again
  refine T_aload_n C.1 dL_again_0 0 rfl ?_
  refine T_iconst C.1 dL_again_1 ?_
  refine T_callSI (rm := rm_L_cell) [.ref cx.2.2.2.2.1, .int (iI 0)] [] C.1 dL_again_2 mw_L_cell wm_3_164 wm_3_165 ⟨Nat.le_of_ble_eq_true rfl, Nat.le_of_ble_eq_true rfl⟩ ⟨rfl, rfl⟩ ⟨by decide, by decide⟩ rfl rfl (Nat.le_of_ble_eq_true rfl) (c_L_cell hn ll cx (iI 0) m) (fun v1 m2 => ?_)
  refine T_bipush C.1 dL_again_5 rfl ?_
  refine T_ishr C.1 dL_again_7 ?_
  refine T_iconst C.1 dL_again_8 ?_
  refine T_iand C.1 dL_again_9 ?_
  exact T_iret C.1 C.2.1 C.2.2 dL_again_10
def rm_L_worth : Room := { frames := 2, cells := 0, slots := 0, locals := 61 }
def F_L_worth (SC : SCT) (x2 : Int32) (x3 : Int32) (m : Mm) : Option (Int32 × Mm) :=
  bnd (F_L_cell SC ((iI 1) + x2) m) fun v1 m2 =>
  bnd (F_L_cell SC (iI 0) m2) fun v3 m4 =>
  (if ((v3 >>> ((iI 18) &&& 31)) &&& (iI 1)) = iI 0 then
    rmI (v1 >>> (((iI 3) * x3) &&& 31)) (iI 100) fun v6 =>
    some (v6, m4)
  else
    rmI (v1 >>> (((iI 3) * x3) &&& 31)) (iI 5) fun v5 =>
    some (v5, m4))
set_option maxRecDepth 100000 in
set_option maxHeartbeats 4000000 in
theorem c_L_worth {wn : Nat} (hn : NN ≤ wn) (ll : Launch) (cx : CX) (x2 : Int32) (x3 : Int32) (m : Mm) : MT ll yL_worth cL_worth 3 ((some .int)) rm_L_worth cx wn wn Lay cvI 0 0 [.ref cx.2.2.2.2.1, .int x2, .int x3] m (F_L_worth cx.2.2.2.2.2 x2 x3 m) := by
  refine MT_of (by decide) (Nat.le_of_ble_eq_true rfl) ?_
  intro pp ee ss mm aa bb me co hK hr hk hn0
  have C : CM pp ss mm aa me co cL_worth 3 RL cx ((some .int)) := ⟨hK, hr, hk⟩
  show TGI pp ll ee rm_L_worth ss mm aa bb me co 3 cx wn 0 0 wn 0 0 0 [(0, .ref cx.2.2.2.2.1), (1, .int x2), (2, .int x3)] [] m (F_L_worth cx.2.2.2.2.2 x2 x3 m)
  unfold F_L_worth
  refine T_aload_n C.1 dL_worth_0 0 rfl ?_
  refine T_iconst C.1 dL_worth_1 ?_
  refine T_iload_n C.1 dL_worth_2 1 rfl ?_
  refine T_iadd C.1 dL_worth_3 ?_
  refine T_callSI (rm := rm_L_cell) [.ref cx.2.2.2.2.1, .int ((iI 1) + x2)] [] C.1 dL_worth_4 mw_L_cell wm_3_164 wm_3_165 ⟨Nat.le_of_ble_eq_true rfl, Nat.le_of_ble_eq_true rfl⟩ ⟨rfl, rfl⟩ ⟨by decide, by decide⟩ rfl rfl (Nat.le_of_ble_eq_true rfl) (c_L_cell hn ll cx ((iI 1) + x2) m) (fun v1 m2 => ?_)
  refine T_iconst C.1 dL_worth_7 ?_
  refine T_iload_n C.1 dL_worth_8 2 rfl ?_
  refine T_imul C.1 dL_worth_9 ?_
  refine T_ishr C.1 dL_worth_10 ?_
  refine T_aload_n C.1 dL_worth_11 0 rfl ?_
  refine T_iconst C.1 dL_worth_12 ?_
  refine T_callSI (rm := rm_L_cell) [.ref cx.2.2.2.2.1, .int (iI 0)] [.int (v1 >>> (((iI 3) * x3) &&& 31))] C.1 dL_worth_13 mw_L_cell wm_3_164 wm_3_165 ⟨Nat.le_of_ble_eq_true rfl, Nat.le_of_ble_eq_true rfl⟩ ⟨rfl, rfl⟩ ⟨by decide, by decide⟩ rfl rfl (Nat.le_of_ble_eq_true rfl) (c_L_cell hn ll cx (iI 0) m2) (fun v3 m4 => ?_)
  refine T_bipush C.1 dL_worth_16 rfl ?_
  refine T_ishr C.1 dL_worth_18 ?_
  refine T_iconst C.1 dL_worth_19 ?_
  refine T_iand C.1 dL_worth_20 ?_
  refine T_if_ne (tgt := 29) C.1 dL_worth_21 (by decide) ?_ ?_
  · refine T_iconst C.1 dL_worth_29 ?_
    refine T_irem C.1 dL_worth_30 (fun v5 => ?_)
    exact T_iret C.1 C.2.1 C.2.2 dL_worth_31
  · refine T_bipush C.1 dL_worth_24 rfl ?_
    refine T_goto (tgt := 30) C.1 dL_worth_26 (by decide) ?_
    refine T_irem C.1 dL_worth_30 (fun v6 => ?_)
    exact T_iret C.1 C.2.1 C.2.2 dL_worth_31
def rm_L_like : Room := { frames := 2, cells := 0, slots := 0, locals := 61 }
def F_L_like (SC : SCT) (x2 : Int32) (x3 : Int32) (m : Mm) : Option (Int32 × Mm) :=
  bnd (F_L_cell SC ((iI 7) + x2) m) fun v1 m2 =>
  rmI (v1 >>> (((iI 3) * x3) &&& 31)) (iI 10) fun v3 =>
  some (v3, m2)
set_option maxRecDepth 100000 in
set_option maxHeartbeats 4000000 in
theorem c_L_like {wn : Nat} (hn : NN ≤ wn) (ll : Launch) (cx : CX) (x2 : Int32) (x3 : Int32) (m : Mm) : MT ll yL_like cL_like 3 ((some .int)) rm_L_like cx wn wn Lay cvI 0 0 [.ref cx.2.2.2.2.1, .int x2, .int x3] m (F_L_like cx.2.2.2.2.2 x2 x3 m) := by
  refine MT_of (by decide) (Nat.le_of_ble_eq_true rfl) ?_
  intro pp ee ss mm aa bb me co hK hr hk hn0
  have C : CM pp ss mm aa me co cL_like 3 RL cx ((some .int)) := ⟨hK, hr, hk⟩
  show TGI pp ll ee rm_L_like ss mm aa bb me co 3 cx wn 0 0 wn 0 0 0 [(0, .ref cx.2.2.2.2.1), (1, .int x2), (2, .int x3)] [] m (F_L_like cx.2.2.2.2.2 x2 x3 m)
  unfold F_L_like
  refine T_aload_n C.1 dL_like_0 0 rfl ?_
  refine T_bipush C.1 dL_like_1 rfl ?_
  refine T_iload_n C.1 dL_like_3 1 rfl ?_
  refine T_iadd C.1 dL_like_4 ?_
  refine T_callSI (rm := rm_L_cell) [.ref cx.2.2.2.2.1, .int ((iI 7) + x2)] [] C.1 dL_like_5 mw_L_cell wm_3_164 wm_3_165 ⟨Nat.le_of_ble_eq_true rfl, Nat.le_of_ble_eq_true rfl⟩ ⟨rfl, rfl⟩ ⟨by decide, by decide⟩ rfl rfl (Nat.le_of_ble_eq_true rfl) (c_L_cell hn ll cx ((iI 7) + x2) m) (fun v1 m2 => ?_)
  refine T_iconst C.1 dL_like_8 ?_
  refine T_iload_n C.1 dL_like_9 2 rfl ?_
  refine T_imul C.1 dL_like_10 ?_
  refine T_ishr C.1 dL_like_11 ?_
  refine T_bipush C.1 dL_like_12 rfl ?_
  refine T_irem C.1 dL_like_14 (fun v3 => ?_)
  exact T_iret C.1 C.2.1 C.2.2 dL_like_15
def rm_L_hasLaw : Room := { frames := 2, cells := 0, slots := 0, locals := 61 }
def F_L_hasLaw (SC : SCT)  (m : Mm) : Option (Int32 × Mm) :=
  bnd (F_L_cell SC (iI 0) m) fun v1 m2 =>
  (if ((v1 >>> ((iI 19) &&& 31)) &&& (iI 1)) = (iI 1) then
    rz (iI 1) m2
  else
    rz (iI 0) m2)
set_option maxRecDepth 100000 in
set_option maxHeartbeats 4000000 in
theorem c_L_hasLaw {wn : Nat} (hn : NN ≤ wn) (ll : Launch) (cx : CX)  (m : Mm) : MT ll yL_hasLaw cL_hasLaw 1 ((some .boolean)) rm_L_hasLaw cx wn wn Lay cvI 0 0 [.ref cx.2.2.2.2.1] m (F_L_hasLaw cx.2.2.2.2.2 m) := by
  refine MT_of (by decide) (Nat.le_of_ble_eq_true rfl) ?_
  intro pp ee ss mm aa bb me co hK hr hk hn0
  have C : CM pp ss mm aa me co cL_hasLaw 1 RL cx ((some .boolean)) := ⟨hK, hr, hk⟩
  show TGI pp ll ee rm_L_hasLaw ss mm aa bb me co 1 cx wn 0 0 wn 0 0 0 [(0, .ref cx.2.2.2.2.1)] [] m (F_L_hasLaw cx.2.2.2.2.2 m)
  unfold F_L_hasLaw
  refine T_aload_n C.1 dL_hasLaw_0 0 rfl ?_
  refine T_iconst C.1 dL_hasLaw_1 ?_
  refine T_callSI (rm := rm_L_cell) [.ref cx.2.2.2.2.1, .int (iI 0)] [] C.1 dL_hasLaw_2 mw_L_cell wm_3_164 wm_3_165 ⟨Nat.le_of_ble_eq_true rfl, Nat.le_of_ble_eq_true rfl⟩ ⟨rfl, rfl⟩ ⟨by decide, by decide⟩ rfl rfl (Nat.le_of_ble_eq_true rfl) (c_L_cell hn ll cx (iI 0) m) (fun v1 m2 => ?_)
  refine T_bipush C.1 dL_hasLaw_5 rfl ?_
  refine T_ishr C.1 dL_hasLaw_7 ?_
  refine T_iconst C.1 dL_hasLaw_8 ?_
  refine T_iand C.1 dL_hasLaw_9 ?_
  refine T_iconst C.1 dL_hasLaw_10 ?_
  refine T_icmp_ne (tgt := 18) C.1 dL_hasLaw_11 (by decide) ?_ ?_
  · refine T_iconst C.1 dL_hasLaw_18 ?_
    exact T_zret C.1 C.2.1 C.2.2 dL_hasLaw_19
  · refine T_iconst C.1 dL_hasLaw_14 ?_
    refine T_goto (tgt := 19) C.1 dL_hasLaw_15 (by decide) ?_
    exact T_zret C.1 C.2.1 C.2.2 dL_hasLaw_19
def rm_L_tell : Room := { frames := 4, cells := 0, slots := 0, locals := 106 }
def F_L_tell_2  : Nat → Int32 → Int32 → Mm → Option (Int32 × Mm)
  | 0, _, _, _ => none
  | f + 1, a1, a2, m =>
    (if a1 ≤ a2 then
      bnd (F_X8_count (iI 3) m) fun v1 m2 =>
      (if v1 = a1 then
        rz (iI 1) m2
      else
        rz (iI 0) m2)
    else
      rd (gR m 114 0) a2 fun j3 =>
      bnd (F_X8_feed (gI m 114 j3) m) fun v4 m5 =>
      (if v4 = (a2 + (iI 1)) then
        nm (a2 + (iI 1)) fun v6 =>
        F_L_tell_2  f a1 v6 m5
      else
        rz (iI 0) m5))
set_option maxRecDepth 100000 in
set_option maxHeartbeats 4000000 in
theorem t_L_tell_2 {pp : Program} {ll : Launch} {ee : Env} {ss : State} {mm : MethodId} {aa : Array Value} {bb : List Frame} {me : Method} {co : Code} {cx : CX}  (C : CM pp ss mm aa me co cL_tell 4 RL cx ((some .boolean)))  : ∀ (f : Nat) (a1 : Int32) (a2 : Int32) (m : Mm), TGI pp ll ee rm_L_tell ss mm aa bb me co 4 cx 114 0 0 114 0 0 2 [(0, .ref (cx.2.2.1 + 1)), (1, .ref (cx.2.2.1 + 114)), (2, .int a1), (3, .int a2)] [] m (F_L_tell_2 f a1 a2 m) := by
  intro f
  induction f with
  | zero => exact fun _ _ _ => T_none
  | succ f ih =>
    intro a1 a2 m
    unfold F_L_tell_2
    refine T_iload_n C.1 dL_tell_2 3 rfl ?_
    refine T_iload_n C.1 dL_tell_3 2 rfl ?_
    refine T_icmp_ge (tgt := 28) C.1 dL_tell_4 (by decide) ?_ ?_
    · refine T_aload_n C.1 dL_tell_28 0 rfl ?_
      refine T_iconst C.1 dL_tell_29 ?_
      refine T_callVI (rm := rm_X8_count) [.int (iI 3)] [] C.1 dL_tell_30 mw_X8_count wm_3_153 wm_3_154 wm_3_155 ⟨Nat.le_of_ble_eq_true rfl, Nat.le_of_ble_eq_true rfl⟩ ⟨rfl, rfl⟩ ⟨by decide, by decide⟩ rfl rfl (Nat.le_of_ble_eq_true rfl) sh1 (by decide) ⟨rfl, rfl⟩ (c_X8_count (by decide) ll cx (iI 3) m) (fun v1 m2 => ?_)
      refine T_iload_n C.1 dL_tell_33 2 rfl ?_
      refine T_icmp_ne (tgt := 41) C.1 dL_tell_34 (by decide) ?_ ?_
      · refine T_iconst C.1 dL_tell_41 ?_
        exact T_zret C.1 C.2.1 C.2.2 dL_tell_42
      · refine T_iconst C.1 dL_tell_37 ?_
        refine T_goto (tgt := 42) C.1 dL_tell_38 (by decide) ?_
        exact T_zret C.1 C.2.1 C.2.2 dL_tell_42
    · refine T_aload_n C.1 dL_tell_7 0 rfl ?_
      refine T_aload_n C.1 dL_tell_8 1 rfl ?_
      refine T_iload_n C.1 dL_tell_9 3 rfl ?_
      refine T_vald C.1 dL_tell_10 sh114 (by decide) (fun j3 => ?_)
      refine T_callVI (rm := rm_X8_feed) [.int (gI m 114 j3)] [] C.1 dL_tell_11 mw_X8_feed wm_3_233 wm_3_234 wm_3_235 ⟨Nat.le_of_ble_eq_true rfl, Nat.le_of_ble_eq_true rfl⟩ ⟨rfl, rfl⟩ ⟨by decide, by decide⟩ rfl rfl (Nat.le_of_ble_eq_true rfl) sh1 (by decide) ⟨rfl, rfl⟩ (c_X8_feed (by decide) ll cx (gI m 114 j3) m) (fun v4 m5 => ?_)
      refine T_iload_n C.1 dL_tell_14 3 rfl ?_
      refine T_iconst C.1 dL_tell_15 ?_
      refine T_iadd C.1 dL_tell_16 ?_
      refine T_icmp_eq (tgt := 22) C.1 dL_tell_17 (by decide) ?_ ?_
      · refine T_iincN C.1 (fun v6 => [(3, .int v6), (0, .ref (cx.2.2.1 + 1)), (1, .ref (cx.2.2.1 + 114)), (2, .int a1)]) dL_tell_22 3 rfl (by decide) (fun _ => rfl) (fun v6 => ?_)
        refine T_goto (tgt := 2) C.1 dL_tell_25 (by decide) ?_
        exact T_sub [1, 2, 3, 0] rfl (ih a1 v6 m5)
      · refine T_iconst C.1 dL_tell_20 ?_
        exact T_zret C.1 C.2.1 C.2.2 dL_tell_21
def F_L_tell (x3 : Int32) (m : Mm) : Option (Int32 × Mm) :=
  F_L_tell_2 FU x3 (iI 0) m
set_option maxRecDepth 100000 in
set_option maxHeartbeats 4000000 in
theorem c_L_tell (ll : Launch) (cx : CX) (x3 : Int32) (m : Mm) : MT ll yL_tell cL_tell 4 ((some .boolean)) rm_L_tell cx 114 114 Lay cvI 0 0 [.ref (cx.2.2.1 + 1), .ref (cx.2.2.1 + 114), .int x3] m (F_L_tell x3 m) := by
  refine MT_of (by decide) (Nat.le_of_ble_eq_true rfl) ?_
  intro pp ee ss mm aa bb me co hK hr hk hn0
  have C : CM pp ss mm aa me co cL_tell 4 RL cx ((some .boolean)) := ⟨hK, hr, hk⟩
  show TGI pp ll ee rm_L_tell ss mm aa bb me co 4 cx 114 0 0 114 0 0 0 [(0, .ref (cx.2.2.1 + 1)), (1, .ref (cx.2.2.1 + 114)), (2, .int x3)] [] m (F_L_tell x3 m)
  unfold F_L_tell
  refine T_iconst C.1 dL_tell_0 ?_
  refine T_istore_n (lv' := [(3, .int (iI 0)), (0, .ref (cx.2.2.1 + 1)), (1, .ref (cx.2.2.1 + 114)), (2, .int x3)]) C.1 dL_tell_1 (by decide) rfl ?_
  exact T_sub [1, 2, 3, 0] rfl (t_L_tell_2 C FU x3 (iI 0) m)
def rm_L_lot : Room := { frames := 3, cells := 1, slots := 6, locals := 81 }
def F_L_lot_30 (SC : SCT)  : Nat → Int32 → Mm → Option (Nat × Mm)
  | 0, _, _ => none
  | f + 1, a1, m =>
    (if a1 ≤ iI 0 then
      some (113, m)
    else
      bnd (F_L_cell SC (iI 13) m) fun v1 m2 =>
      rmI (v1 >>> (((iI 3) * a1) &&& 31)) (a1 + (iI 1)) fun v3 =>
      rd (gR m2 113 0) a1 fun j4 =>
      nm (gI m2 113 j4) fun v5 =>
      rd (gR m2 113 0) v3 fun j6 =>
      wrI (gR m2 113 0) m2 113 a1 (gI m2 113 j6) fun m7 =>
      wrI (gR m7 113 0) m7 113 v3 v5 fun m8 =>
      nm (a1 + (iI (-1))) fun v9 =>
      F_L_lot_30 SC f v9 m8)
set_option maxRecDepth 100000 in
set_option maxHeartbeats 4000000 in
theorem t_L_lot_30 {pp : Program} {ll : Launch} {ee : Env} {ss : State} {mm : MethodId} {aa : Array Value} {bb : List Frame} {me : Method} {co : Code} {cx : CX}  (C : CM pp ss mm aa me co cL_lot 6 RL cx ((some (.array .int))))  : ∀ (f : Nat) (a1 : Int32) (m : Mm), TGR pp ll ee rm_L_lot ss mm aa bb me co 6 cx 113 1 6 113 1 6 30 [(0, .ref cx.2.2.2.2.1), (2, .ref (cx.2.2.1 + 113)), (3, .int a1)] [] m (F_L_lot_30 cx.2.2.2.2.2 f a1 m) := by
  intro f
  induction f with
  | zero => exact fun _ _ => T_none
  | succ f ih =>
    intro a1 m
    unfold F_L_lot_30
    refine T_iload_n C.1 dL_lot_30 2 rfl ?_
    refine T_if_le (tgt := 74) C.1 dL_lot_31 (by decide) ?_ ?_
    · refine T_aload_n C.1 dL_lot_74 1 rfl ?_
      exact T_aret C.1 C.2.1 (Or.inr ⟨_, rfl⟩) C.2.2 dL_lot_75
    · refine T_aload_n C.1 dL_lot_34 0 rfl ?_
      refine T_bipush C.1 dL_lot_35 rfl ?_
      refine T_callSI (rm := rm_L_cell) [.ref cx.2.2.2.2.1, .int (iI 13)] [] C.1 dL_lot_37 mw_L_cell wm_3_164 wm_3_165 ⟨Nat.le_of_ble_eq_true rfl, Nat.le_of_ble_eq_true rfl⟩ ⟨rfl, rfl⟩ ⟨by decide, by decide⟩ rfl rfl (Nat.le_of_ble_eq_true rfl) (c_L_cell (by decide) ll cx (iI 13) m) (fun v1 m2 => ?_)
      refine T_iconst C.1 dL_lot_40 ?_
      refine T_iload_n C.1 dL_lot_41 2 rfl ?_
      refine T_imul C.1 dL_lot_42 ?_
      refine T_ishr C.1 dL_lot_43 ?_
      refine T_iload_n C.1 dL_lot_44 2 rfl ?_
      refine T_iconst C.1 dL_lot_45 ?_
      refine T_iadd C.1 dL_lot_46 ?_
      refine T_irem C.1 dL_lot_47 (fun v3 => ?_)
      refine T_istore (lv' := [(4, .int v3), (0, .ref cx.2.2.2.2.1), (2, .ref (cx.2.2.1 + 113)), (3, .int a1)]) C.1 dL_lot_48 (by decide) rfl ?_
      refine T_aload_n C.1 dL_lot_50 2 rfl ?_
      refine T_iload_n C.1 dL_lot_51 3 rfl ?_
      refine T_vald C.1 dL_lot_52 sh113 (by decide) (fun j4 => ?_)
      refine T_istoreN C.1 (fun v5 => [(5, .int v5), (4, .int v3), (0, .ref cx.2.2.2.2.1), (2, .ref (cx.2.2.1 + 113)), (3, .int a1)]) dL_lot_53 (by decide) (fun _ => rfl) (fun v5 => ?_)
      refine T_aload_n C.1 dL_lot_55 3 rfl ?_
      refine T_iload_n C.1 dL_lot_56 4 rfl ?_
      refine T_aload_n C.1 dL_lot_57 3 rfl ?_
      refine T_iload C.1 dL_lot_58 1 rfl ?_
      refine T_vald C.1 dL_lot_60 sh113 (by decide) (fun j6 => ?_)
      refine T_vast C.1 LyI_Lay sh113 (by decide) dL_lot_61 (fun m7 => ?_)
      refine T_aload_n C.1 dL_lot_62 3 rfl ?_
      refine T_iload C.1 dL_lot_63 1 rfl ?_
      refine T_iload C.1 dL_lot_65 0 rfl ?_
      refine T_vast C.1 LyI_Lay sh113 (by decide) dL_lot_67 (fun m8 => ?_)
      refine T_iincN C.1 (fun v9 => [(3, .int v9), (5, .int v5), (4, .int v3), (0, .ref cx.2.2.2.2.1), (2, .ref (cx.2.2.1 + 113))]) dL_lot_68 4 rfl (by decide) (fun _ => rfl) (fun v9 => ?_)
      refine T_goto (tgt := 30) C.1 dL_lot_71 (by decide) ?_
      exact T_sub [3, 4, 0] rfl (ih v9 m8)
def F_L_lot_11 (SC : SCT)  : Nat → Int32 → Int32 → Mm → Option (Nat × Mm)
  | 0, _, _, _ => none
  | f + 1, a1, a2, m =>
    (if a1 ≤ a2 then
      nm (a1 - (iI 1)) fun v1 =>
      F_L_lot_30 SC FU v1 m
    else
      wrI (gR m 113 0) m 113 a2 a2 fun m2 =>
      nm (a2 + (iI 1)) fun v3 =>
      F_L_lot_11 SC f a1 v3 m2)
set_option maxRecDepth 100000 in
set_option maxHeartbeats 4000000 in
theorem t_L_lot_11 {pp : Program} {ll : Launch} {ee : Env} {ss : State} {mm : MethodId} {aa : Array Value} {bb : List Frame} {me : Method} {co : Code} {cx : CX}  (C : CM pp ss mm aa me co cL_lot 6 RL cx ((some (.array .int))))  : ∀ (f : Nat) (a1 : Int32) (a2 : Int32) (m : Mm), TGR pp ll ee rm_L_lot ss mm aa bb me co 6 cx 113 1 6 113 1 6 11 [(0, .ref cx.2.2.2.2.1), (1, .int a1), (2, .ref (cx.2.2.1 + 113)), (3, .int a2)] [] m (F_L_lot_11 cx.2.2.2.2.2 f a1 a2 m) := by
  intro f
  induction f with
  | zero => exact fun _ _ _ => T_none
  | succ f ih =>
    intro a1 a2 m
    unfold F_L_lot_11
    refine T_iload_n C.1 dL_lot_11 3 rfl ?_
    refine T_iload_n C.1 dL_lot_12 1 rfl ?_
    refine T_icmp_ge (tgt := 26) C.1 dL_lot_13 (by decide) ?_ ?_
    · refine T_iload_n C.1 dL_lot_26 1 rfl ?_
      refine T_iconst C.1 dL_lot_27 ?_
      refine T_isub C.1 dL_lot_28 ?_
      refine T_istore_nN C.1 (fun v1 => [(3, .int v1), (0, .ref cx.2.2.2.2.1), (1, .int a1), (2, .ref (cx.2.2.1 + 113))]) dL_lot_29 (by decide) (fun _ => rfl) (fun v1 => ?_)
      exact T_sub [1, 3, 0] rfl (t_L_lot_30 C FU v1 m)
    · refine T_aload_n C.1 dL_lot_16 2 rfl ?_
      refine T_iload_n C.1 dL_lot_17 3 rfl ?_
      refine T_iload_n C.1 dL_lot_18 3 rfl ?_
      refine T_vast C.1 LyI_Lay sh113 (by decide) dL_lot_19 (fun m2 => ?_)
      refine T_iincN C.1 (fun v3 => [(3, .int v3), (0, .ref cx.2.2.2.2.1), (1, .int a1), (2, .ref (cx.2.2.1 + 113))]) dL_lot_20 3 rfl (by decide) (fun _ => rfl) (fun v3 => ?_)
      refine T_goto (tgt := 11) C.1 dL_lot_23 (by decide) ?_
      exact T_sub [1, 2, 3, 0] rfl (ih a1 v3 m2)
def F_L_lot (SC : SCT)  (m : Mm) : Option (Nat × Mm) :=
  bnd (F_L_people SC m) fun v1 m2 =>
  nwA 6 m2 113 v1 fun m3 =>
  F_L_lot_11 SC FU v1 (iI 0) m3
set_option maxRecDepth 100000 in
set_option maxHeartbeats 4000000 in
theorem c_L_lot (ll : Launch) (cx : CX)  (m : Mm) : MT ll yL_lot cL_lot 6 ((some (.array .int))) rm_L_lot cx 112 113 Lay (cvR cx.2.2.1) 1 6 [.ref cx.2.2.2.2.1] m (F_L_lot cx.2.2.2.2.2 m) := by
  refine MT_of (by decide) (Nat.le_of_ble_eq_true rfl) ?_
  intro pp ee ss mm aa bb me co hK hr hk hn0
  have C : CM pp ss mm aa me co cL_lot 6 RL cx ((some (.array .int))) := ⟨hK, hr, hk⟩
  show TGR pp ll ee rm_L_lot ss mm aa bb me co 6 cx 112 0 0 113 1 6 0 [(0, .ref cx.2.2.2.2.1)] [] m (F_L_lot cx.2.2.2.2.2 m)
  unfold F_L_lot
  refine T_aload_n C.1 dL_lot_0 0 rfl ?_
  refine T_callSI (rm := rm_L_people) [.ref cx.2.2.2.2.1] [] C.1 dL_lot_1 mw_L_people wm_3_161 wm_3_162 ⟨Nat.le_of_ble_eq_true rfl, Nat.le_of_ble_eq_true rfl⟩ ⟨rfl, rfl⟩ ⟨by decide, by decide⟩ rfl rfl (Nat.le_of_ble_eq_true rfl) (c_L_people (by decide) ll cx m) (fun v1 m2 => ?_)
  refine T_istore_n (lv' := [(1, .int v1), (0, .ref cx.2.2.2.2.1)]) C.1 dL_lot_4 (by decide) rfl ?_
  refine T_iload_n C.1 dL_lot_5 0 rfl ?_
  refine T_newaV (a := 113) (mx := 6) C.1 dL_lot_6 rfl wm_1_53 sh113 (by decide) (by decide) (by decide) (Lay_nw sh113 (fun _ => rfl)) (fun m3 => ?_)
  refine T_astore_n (lv' := [(2, .ref (cx.2.2.1 + 113)), (1, .int v1), (0, .ref cx.2.2.2.2.1)]) C.1 dL_lot_8 (by decide) rfl ?_
  refine T_iconst C.1 dL_lot_9 ?_
  refine T_istore_n (lv' := [(3, .int (iI 0)), (2, .ref (cx.2.2.1 + 113)), (1, .int v1), (0, .ref cx.2.2.2.2.1)]) C.1 dL_lot_10 (by decide) rfl ?_
  exact T_sub [3, 2, 1, 0] rfl (t_L_lot_11 C FU v1 (iI 0) m3)
def rm_L_built : Room := { frames := 907, cells := 2, slots := 21, locals := 20868 }
def F_L_built_210 (SC : SCT) (n2 : Nat) (k_151 : Int32 → Int32 → Mm → Option (Int32 × Mm)) (a1 : Int32) (a2 : Int32) (m : Mm) : Option (Int32 × Mm) :=
  nm (a2 + (iI 1)) fun v1 =>
  k_151 a1 v1 m
set_option maxRecDepth 100000 in
set_option maxHeartbeats 4000000 in
theorem t_L_built_210 {pp : Program} {ll : Launch} {ee : Env} {ss : State} {mm : MethodId} {aa : Array Value} {bb : List Frame} {me : Method} {co : Code} {cx : CX} {n2 : Nat} {k_151 : Int32 → Int32 → Mm → Option (Int32 × Mm)} (C : CM pp ss mm aa me co cL_built 6 RL cx ((some .boolean))) (hk_151 : ∀ (a1 : Int32) (a2 : Int32) (m : Mm), TGI pp ll ee rm_L_built ss mm aa bb me co 6 cx 113 1 6 n2 2 21 151 [(0, .ref (cx.2.2.1 + 1)), (1, .ref cx.2.2.2.2.1), (2, .int a1), (3, .ref (cx.2.2.1 + 113)), (4, .int a2)] [] m (k_151 a1 a2 m)) (a1 : Int32) (a2 : Int32) (m : Mm) : TGI pp ll ee rm_L_built ss mm aa bb me co 6 cx 113 1 6 n2 2 21 210 [(0, .ref (cx.2.2.1 + 1)), (1, .ref cx.2.2.2.2.1), (2, .int a1), (3, .ref (cx.2.2.1 + 113)), (4, .int a2)] [] m (F_L_built_210 cx.2.2.2.2.2 n2 k_151 a1 a2 m) := by
  unfold F_L_built_210
  refine T_iincN C.1 (fun v1 => [(4, .int v1), (0, .ref (cx.2.2.1 + 1)), (1, .ref cx.2.2.2.2.1), (2, .int a1), (3, .ref (cx.2.2.1 + 113))]) dL_built_210 4 rfl (by decide) (fun _ => rfl) (fun v1 => ?_)
  refine T_goto (tgt := 151) C.1 dL_built_213 (by decide) ?_
  exact T_sub [1, 2, 3, 4, 0] rfl (hk_151 a1 v1 m)
def F_L_built_161 (SC : SCT) (n2 : Nat) (k_151 : Int32 → Int32 → Mm → Option (Int32 × Mm)) : Nat → Int32 → Int32 → Int32 → Mm → Option (Int32 × Mm)
  | 0, _, _, _, _ => none
  | f + 1, a1, a2, a3, m =>
    bnd (F_X8_of a3 (iI 10) m) fun v1 m2 =>
    rd (gR m2 113 0) a2 fun j3 =>
    (if v1 = (gI m2 113 j3) then
      (if a3 = a2 then
        F_L_built_210 SC n2 (k_151) a1 a2 m2
      else
        bnd (F_X8_swap (((iI 10) * a2) + a3) m2) fun v4 m5 =>
        rd (gR m5 113 0) a2 fun j6 =>
        (if v4 = (gI m5 113 j6) then
          F_L_built_210 SC n2 (k_151) a1 a2 m5
        else
          none))
    else
      nm (a3 + (iI 1)) fun v7 =>
      F_L_built_161 SC n2 k_151 f a1 a2 v7 m2)
set_option maxRecDepth 100000 in
set_option maxHeartbeats 4000000 in
theorem t_L_built_161 {pp : Program} {ll : Launch} {ee : Env} {ss : State} {mm : MethodId} {aa : Array Value} {bb : List Frame} {me : Method} {co : Code} {cx : CX} {n2 : Nat} {k_151 : Int32 → Int32 → Mm → Option (Int32 × Mm)} (C : CM pp ss mm aa me co cL_built 6 RL cx ((some .boolean))) (hk_151 : ∀ (a1 : Int32) (a2 : Int32) (m : Mm), TGI pp ll ee rm_L_built ss mm aa bb me co 6 cx 113 1 6 n2 2 21 151 [(0, .ref (cx.2.2.1 + 1)), (1, .ref cx.2.2.2.2.1), (2, .int a1), (3, .ref (cx.2.2.1 + 113)), (4, .int a2)] [] m (k_151 a1 a2 m)) : ∀ (f : Nat) (a1 : Int32) (a2 : Int32) (a3 : Int32) (m : Mm), TGI pp ll ee rm_L_built ss mm aa bb me co 6 cx 113 1 6 n2 2 21 161 [(0, .ref (cx.2.2.1 + 1)), (1, .ref cx.2.2.2.2.1), (2, .int a1), (3, .ref (cx.2.2.1 + 113)), (4, .int a2), (5, .int a3)] [] m (F_L_built_161 cx.2.2.2.2.2 n2 k_151 f a1 a2 a3 m) := by
  intro f
  induction f with
  | zero => exact fun _ _ _ _ => T_none
  | succ f ih =>
    intro a1 a2 a3 m
    unfold F_L_built_161
    refine T_aload_n C.1 dL_built_161 0 rfl ?_
    refine T_iload C.1 dL_built_162 5 rfl ?_
    refine T_bipush C.1 dL_built_164 rfl ?_
    refine T_callVI (rm := rm_X8_of) [.int a3, .int (iI 10)] [] C.1 dL_built_166 mw_X8_of wm_2_72 wm_2_73 wm_2_74 ⟨Nat.le_of_ble_eq_true rfl, Nat.le_of_ble_eq_true rfl⟩ ⟨rfl, rfl⟩ ⟨by decide, by decide⟩ rfl rfl (Nat.le_of_ble_eq_true rfl) sh1 (by decide) ⟨rfl, rfl⟩ (c_X8_of (by decide) ll cx a3 (iI 10) m) (fun v1 m2 => ?_)
    refine T_aload_n C.1 dL_built_169 3 rfl ?_
    refine T_iload C.1 dL_built_170 4 rfl ?_
    refine T_vald C.1 dL_built_172 sh113 (by decide) (fun j3 => ?_)
    refine T_icmp_eq (tgt := 182) C.1 dL_built_173 (by decide) ?_ ?_
    · refine T_iload C.1 dL_built_182 5 rfl ?_
      refine T_iload C.1 dL_built_184 4 rfl ?_
      refine T_icmp_eq (tgt := 210) C.1 dL_built_186 (by decide) ?_ ?_
      · exact T_sub [0, 1, 2, 3, 4] rfl (t_L_built_210 C (hk_151) a1 a2 m2)
      · refine T_aload_n C.1 dL_built_189 0 rfl ?_
        refine T_bipush C.1 dL_built_190 rfl ?_
        refine T_iload C.1 dL_built_192 4 rfl ?_
        refine T_imul C.1 dL_built_194 ?_
        refine T_iload C.1 dL_built_195 5 rfl ?_
        refine T_iadd C.1 dL_built_197 ?_
        refine T_callVI (rm := rm_X8_swap) [.int (((iI 10) * a2) + a3)] [] C.1 dL_built_198 mw_X8_swap wm_3_218 wm_3_219 wm_3_220 ⟨Nat.le_of_ble_eq_true rfl, Nat.le_of_ble_eq_true rfl⟩ ⟨rfl, rfl⟩ ⟨by decide, by decide⟩ rfl rfl (Nat.le_of_ble_eq_true rfl) sh1 (by decide) ⟨rfl, rfl⟩ (c_X8_swap (by decide) ll cx (((iI 10) * a2) + a3) m2) (fun v4 m5 => ?_)
        refine T_aload_n C.1 dL_built_201 3 rfl ?_
        refine T_iload C.1 dL_built_202 4 rfl ?_
        refine T_vald C.1 dL_built_204 sh113 (by decide) (fun j6 => ?_)
        refine T_icmp_eq (tgt := 210) C.1 dL_built_205 (by decide) ?_ ?_
        · exact T_sub [0, 1, 2, 3, 4] rfl (t_L_built_210 C (hk_151) a1 a2 m5)
        · refine T_iconst C.1 dL_built_208 ?_
          exact T_none
    · refine T_iincN C.1 (fun v7 => [(5, .int v7), (0, .ref (cx.2.2.1 + 1)), (1, .ref cx.2.2.2.2.1), (2, .int a1), (3, .ref (cx.2.2.1 + 113)), (4, .int a2)]) dL_built_176 5 rfl (by decide) (fun _ => rfl) (fun v7 => ?_)
      refine T_goto (tgt := 161) C.1 dL_built_179 (by decide) ?_
      exact T_sub [1, 2, 3, 4, 5, 0] rfl (ih a1 a2 v7 m2)
def F_L_built_151 (SC : SCT) (n2 : Nat)  : Nat → Int32 → Int32 → Mm → Option (Int32 × Mm)
  | 0, _, _, _ => none
  | f + 1, a1, a2, m =>
    (if a1 ≤ a2 then
      bnd (F_L_hasLaw SC m) fun v1 m2 =>
      (if v1 = iI 0 then
        gdN 113 n2 (rz (iI 1) m2)
      else
        nwA 15 m2 114 (iI 15) fun m3 =>
        wrI (gR m3 114 0) m3 114 (iI 0) (iI 119) fun m4 =>
        wrI (gR m4 114 0) m4 114 (iI 1) (iI 42) fun m5 =>
        wrI (gR m5 114 0) m5 114 (iI 2) (iI 50) fun m6 =>
        wrI (gR m6 114 0) m6 114 (iI 3) (iI 45) fun m7 =>
        wrI (gR m7 114 0) m7 114 (iI 4) (iI 120) fun m8 =>
        wrI (gR m8 114 0) m8 114 (iI 5) (iI 45) fun m9 =>
        wrI (gR m9 114 0) m9 114 (iI 6) (iI 116) fun m10 =>
        wrI (gR m10 114 0) m10 114 (iI 7) (iI 42) fun m11 =>
        wrI (gR m11 114 0) m11 114 (iI 8) (iI 51) fun m12 =>
        wrI (gR m12 114 0) m12 114 (iI 9) (iI 45) fun m13 =>
        wrI (gR m13 114 0) m13 114 (iI 10) (iI 108) fun m14 =>
        wrI (gR m14 114 0) m14 114 (iI 11) (iI 43) fun m15 =>
        wrI (gR m15 114 0) m15 114 (iI 12) (iI 111) fun m16 =>
        wrI (gR m16 114 0) m16 114 (iI 13) (iI 42) fun m17 =>
        wrI (gR m17 114 0) m17 114 (iI 14) (iI 114) fun m18 =>
        bnd (F_L_tell (Int32.ofNat (gR m18 114 0)) m18) fun v19 m20 =>
        (if v19 = iI 0 then
          none
        else
          bnd (F_X8_law m20) fun v21 m22 =>
          (if v21 = (iI 1) then
            gdN 114 n2 (rz (iI 1) m22)
          else
            none)))
    else
      F_L_built_161 SC n2 (F_L_built_151 SC n2 f) FU a1 a2 a2 m)
set_option maxRecDepth 100000 in
set_option maxHeartbeats 4000000 in
theorem t_L_built_151 {pp : Program} {ll : Launch} {ee : Env} {ss : State} {mm : MethodId} {aa : Array Value} {bb : List Frame} {me : Method} {co : Code} {cx : CX} {n2 : Nat}  (C : CM pp ss mm aa me co cL_built 6 RL cx ((some .boolean)))  : ∀ (f : Nat) (a1 : Int32) (a2 : Int32) (m : Mm), TGI pp ll ee rm_L_built ss mm aa bb me co 6 cx 113 1 6 n2 2 21 151 [(0, .ref (cx.2.2.1 + 1)), (1, .ref cx.2.2.2.2.1), (2, .int a1), (3, .ref (cx.2.2.1 + 113)), (4, .int a2)] [] m (F_L_built_151 cx.2.2.2.2.2 n2 f a1 a2 m) := by
  intro f
  induction f with
  | zero => exact fun _ _ _ => T_none
  | succ f ih =>
    intro a1 a2 m
    unfold F_L_built_151
    refine T_iload C.1 dL_built_151 4 rfl ?_
    refine T_iload_n C.1 dL_built_153 2 rfl ?_
    refine T_icmp_ge (tgt := 216) C.1 dL_built_154 (by decide) ?_ ?_
    · refine T_aload_n C.1 dL_built_216 1 rfl ?_
      refine T_callSI (rm := rm_L_hasLaw) [.ref cx.2.2.2.2.1] [] C.1 dL_built_217 mw_L_hasLaw wm_3_227 wm_3_228 ⟨Nat.le_of_ble_eq_true rfl, Nat.le_of_ble_eq_true rfl⟩ ⟨rfl, rfl⟩ ⟨by decide, by decide⟩ rfl rfl (Nat.le_of_ble_eq_true rfl) (c_L_hasLaw (by decide) ll cx m) (fun v1 m2 => ?_)
      refine T_if_ne (tgt := 225) C.1 dL_built_220 (by decide) ?_ ?_
      · refine T_bipush C.1 dL_built_225 rfl ?_
        refine T_newaV (a := 114) (mx := 15) C.1 dL_built_227 rfl wm_1_53 sh114 (by decide) (by decide) (by decide) (Lay_nw sh114 (fun _ => rfl)) (fun m3 => ?_)
        refine T_dup C.1 dL_built_229 rfl ?_
        refine T_iconst C.1 dL_built_230 ?_
        refine T_bipush C.1 dL_built_231 rfl ?_
        refine T_vast C.1 LyI_Lay sh114 (by decide) dL_built_233 (fun m4 => ?_)
        refine T_dup C.1 dL_built_234 rfl ?_
        refine T_iconst C.1 dL_built_235 ?_
        refine T_bipush C.1 dL_built_236 rfl ?_
        refine T_vast C.1 LyI_Lay sh114 (by decide) dL_built_238 (fun m5 => ?_)
        refine T_dup C.1 dL_built_239 rfl ?_
        refine T_iconst C.1 dL_built_240 ?_
        refine T_bipush C.1 dL_built_241 rfl ?_
        refine T_vast C.1 LyI_Lay sh114 (by decide) dL_built_243 (fun m6 => ?_)
        refine T_dup C.1 dL_built_244 rfl ?_
        refine T_iconst C.1 dL_built_245 ?_
        refine T_bipush C.1 dL_built_246 rfl ?_
        refine T_vast C.1 LyI_Lay sh114 (by decide) dL_built_248 (fun m7 => ?_)
        refine T_dup C.1 dL_built_249 rfl ?_
        refine T_iconst C.1 dL_built_250 ?_
        refine T_bipush C.1 dL_built_251 rfl ?_
        refine T_vast C.1 LyI_Lay sh114 (by decide) dL_built_253 (fun m8 => ?_)
        refine T_dup C.1 dL_built_254 rfl ?_
        refine T_iconst C.1 dL_built_255 ?_
        refine T_bipush C.1 dL_built_256 rfl ?_
        refine T_vast C.1 LyI_Lay sh114 (by decide) dL_built_258 (fun m9 => ?_)
        refine T_dup C.1 dL_built_259 rfl ?_
        refine T_bipush C.1 dL_built_260 rfl ?_
        refine T_bipush C.1 dL_built_262 rfl ?_
        refine T_vast C.1 LyI_Lay sh114 (by decide) dL_built_264 (fun m10 => ?_)
        refine T_dup C.1 dL_built_265 rfl ?_
        refine T_bipush C.1 dL_built_266 rfl ?_
        refine T_bipush C.1 dL_built_268 rfl ?_
        refine T_vast C.1 LyI_Lay sh114 (by decide) dL_built_270 (fun m11 => ?_)
        refine T_dup C.1 dL_built_271 rfl ?_
        refine T_bipush C.1 dL_built_272 rfl ?_
        refine T_bipush C.1 dL_built_274 rfl ?_
        refine T_vast C.1 LyI_Lay sh114 (by decide) dL_built_276 (fun m12 => ?_)
        refine T_dup C.1 dL_built_277 rfl ?_
        refine T_bipush C.1 dL_built_278 rfl ?_
        refine T_bipush C.1 dL_built_280 rfl ?_
        refine T_vast C.1 LyI_Lay sh114 (by decide) dL_built_282 (fun m13 => ?_)
        refine T_dup C.1 dL_built_283 rfl ?_
        refine T_bipush C.1 dL_built_284 rfl ?_
        refine T_bipush C.1 dL_built_286 rfl ?_
        refine T_vast C.1 LyI_Lay sh114 (by decide) dL_built_288 (fun m14 => ?_)
        refine T_dup C.1 dL_built_289 rfl ?_
        refine T_bipush C.1 dL_built_290 rfl ?_
        refine T_bipush C.1 dL_built_292 rfl ?_
        refine T_vast C.1 LyI_Lay sh114 (by decide) dL_built_294 (fun m15 => ?_)
        refine T_dup C.1 dL_built_295 rfl ?_
        refine T_bipush C.1 dL_built_296 rfl ?_
        refine T_bipush C.1 dL_built_298 rfl ?_
        refine T_vast C.1 LyI_Lay sh114 (by decide) dL_built_300 (fun m16 => ?_)
        refine T_dup C.1 dL_built_301 rfl ?_
        refine T_bipush C.1 dL_built_302 rfl ?_
        refine T_bipush C.1 dL_built_304 rfl ?_
        refine T_vast C.1 LyI_Lay sh114 (by decide) dL_built_306 (fun m17 => ?_)
        refine T_dup C.1 dL_built_307 rfl ?_
        refine T_bipush C.1 dL_built_308 rfl ?_
        refine T_bipush C.1 dL_built_310 rfl ?_
        refine T_vast C.1 LyI_Lay sh114 (by decide) dL_built_312 (fun m18 => ?_)
        refine T_astore (lv' := [(4, .ref (cx.2.2.1 + 114)), (0, .ref (cx.2.2.1 + 1)), (1, .ref cx.2.2.2.2.1), (2, .int a1), (3, .ref (cx.2.2.1 + 113))]) C.1 dL_built_313 (by decide) rfl ?_
        refine T_aload_n C.1 dL_built_315 1 rfl ?_
        refine T_aload C.1 dL_built_316 0 rfl ?_
        refine T_aload C.1 dL_built_318 0 rfl ?_
        refine T_alenV C.1 dL_built_320 sh114 (by decide) ?_
        refine T_callSI (rm := rm_L_tell) [.ref (cx.2.2.1 + 1), .ref (cx.2.2.1 + 114), .int (Int32.ofNat (gR m18 114 0))] [] C.1 dL_built_321 mw_L_tell wm_3_230 wm_3_231 ⟨Nat.le_of_ble_eq_true rfl, Nat.le_of_ble_eq_true rfl⟩ ⟨rfl, rfl⟩ ⟨by decide, by decide⟩ rfl rfl (Nat.le_of_ble_eq_true rfl) (c_L_tell ll cx (Int32.ofNat (gR m18 114 0)) m18) (fun v19 m20 => ?_)
        refine T_if_eq (tgt := 339) C.1 dL_built_324 (by decide) ?_ ?_
        · refine T_iconst C.1 dL_built_339 ?_
          exact T_none
        · refine T_aload_n C.1 dL_built_327 1 rfl ?_
          refine T_callVI (rm := rm_X8_law) [] [] C.1 dL_built_328 mw_X8_law wm_4_1 wm_4_2 wm_4_3 ⟨Nat.le_of_ble_eq_true rfl, Nat.le_of_ble_eq_true rfl⟩ ⟨rfl, rfl⟩ ⟨by decide, by decide⟩ rfl rfl (Nat.le_of_ble_eq_true rfl) sh1 (by decide) ⟨rfl, rfl⟩ (c_X8_law (by decide) ll cx m20) (fun v21 m22 => ?_)
          refine T_iconst C.1 dL_built_331 ?_
          refine T_icmp_ne (tgt := 339) C.1 dL_built_332 (by decide) ?_ ?_
          · refine T_iconst C.1 dL_built_339 ?_
            exact T_none
          · refine T_iconst C.1 dL_built_335 ?_
            refine T_goto (tgt := 340) C.1 dL_built_336 (by decide) ?_
            exact T_bret C.1 C.2.1 C.2.2 (by decide) dL_built_340
      · refine T_iconst C.1 dL_built_223 ?_
        exact T_bret C.1 C.2.1 C.2.2 (by decide) dL_built_224
    · refine T_iload C.1 dL_built_157 4 rfl ?_
      refine T_istore (lv' := [(5, .int a2), (0, .ref (cx.2.2.1 + 1)), (1, .ref cx.2.2.2.2.1), (2, .int a1), (3, .ref (cx.2.2.1 + 113)), (4, .int a2)]) C.1 dL_built_159 (by decide) rfl ?_
      exact T_sub [1, 2, 3, 4, 5, 0] rfl (t_L_built_161 C (ih) FU a1 a2 a2 m)
def F_L_built_102 (SC : SCT) (n2 : Nat) (k_35 : Int32 → Int32 → Mm → Option (Int32 × Mm)) (k_43 : Int32 → Int32 → Int32 → Mm → Option (Int32 × Mm)) (a1 : Int32) (a2 : Int32) (a3 : Int32) (m : Mm) : Option (Int32 × Mm) :=
  nm (a3 + (iI 1)) fun v1 =>
  k_43 a1 a2 v1 m
set_option maxRecDepth 100000 in
set_option maxHeartbeats 4000000 in
theorem t_L_built_102 {pp : Program} {ll : Launch} {ee : Env} {ss : State} {mm : MethodId} {aa : Array Value} {bb : List Frame} {me : Method} {co : Code} {cx : CX} {n2 : Nat} {k_35 : Int32 → Int32 → Mm → Option (Int32 × Mm)} {k_43 : Int32 → Int32 → Int32 → Mm → Option (Int32 × Mm)} (C : CM pp ss mm aa me co cL_built 6 RL cx ((some .boolean))) (hk_35 : ∀ (a1 : Int32) (a2 : Int32) (m : Mm), TGI pp ll ee rm_L_built ss mm aa bb me co 6 cx 112 0 0 n2 2 21 35 [(0, .ref (cx.2.2.1 + 1)), (1, .ref cx.2.2.2.2.1), (2, .int a1), (3, .int a2)] [] m (k_35 a1 a2 m)) (hk_43 : ∀ (a1 : Int32) (a2 : Int32) (a3 : Int32) (m : Mm), TGI pp ll ee rm_L_built ss mm aa bb me co 6 cx 112 0 0 n2 2 21 43 [(0, .ref (cx.2.2.1 + 1)), (1, .ref cx.2.2.2.2.1), (2, .int a1), (3, .int a2), (4, .int a3)] [] m (k_43 a1 a2 a3 m)) (a1 : Int32) (a2 : Int32) (a3 : Int32) (m : Mm) : TGI pp ll ee rm_L_built ss mm aa bb me co 6 cx 112 0 0 n2 2 21 102 [(0, .ref (cx.2.2.1 + 1)), (1, .ref cx.2.2.2.2.1), (2, .int a1), (3, .int a2), (4, .int a3)] [] m (F_L_built_102 cx.2.2.2.2.2 n2 k_35 k_43 a1 a2 a3 m) := by
  unfold F_L_built_102
  refine T_iincN C.1 (fun v1 => [(4, .int v1), (0, .ref (cx.2.2.1 + 1)), (1, .ref cx.2.2.2.2.1), (2, .int a1), (3, .int a2)]) dL_built_102 4 rfl (by decide) (fun _ => rfl) (fun v1 => ?_)
  refine T_goto (tgt := 43) C.1 dL_built_105 (by decide) ?_
  exact T_sub [1, 2, 3, 4, 0] rfl (hk_43 a1 a2 v1 m)
def F_L_built_43 (SC : SCT) (n2 : Nat) (k_35 : Int32 → Int32 → Mm → Option (Int32 × Mm)) : Nat → Int32 → Int32 → Int32 → Mm → Option (Int32 × Mm)
  | 0, _, _, _, _ => none
  | f + 1, a1, a2, a3, m =>
    (if a1 ≤ a3 then
      nm (a2 + (iI 1)) fun v1 =>
      k_35 a1 v1 m
    else
      bnd (F_L_worth SC a2 a3 m) fun v2 m3 =>
      bnd (F_X8_mend (((iI 10) * a2) + a3) (iI 0) v2 m3) fun v4 m5 =>
      (if v4 = iI 0 then
        (if a2 = a3 then
          F_L_built_102 SC n2 (k_35) (F_L_built_43 SC n2 k_35 f) a1 a2 a3 m5
        else
          bnd (F_L_like SC a2 a3 m5) fun v6 m7 =>
          bnd (F_X8_mend (((iI 10) * a2) + a3) (iI 1) v6 m7) fun v8 m9 =>
          (if v8 = (iI 5) then
            F_L_built_102 SC n2 (k_35) (F_L_built_43 SC n2 k_35 f) a1 a2 a3 m9
          else
            none))
      else
        none))
set_option maxRecDepth 100000 in
set_option maxHeartbeats 4000000 in
theorem t_L_built_43 {pp : Program} {ll : Launch} {ee : Env} {ss : State} {mm : MethodId} {aa : Array Value} {bb : List Frame} {me : Method} {co : Code} {cx : CX} {n2 : Nat} {k_35 : Int32 → Int32 → Mm → Option (Int32 × Mm)} (C : CM pp ss mm aa me co cL_built 6 RL cx ((some .boolean))) (hk_35 : ∀ (a1 : Int32) (a2 : Int32) (m : Mm), TGI pp ll ee rm_L_built ss mm aa bb me co 6 cx 112 0 0 n2 2 21 35 [(0, .ref (cx.2.2.1 + 1)), (1, .ref cx.2.2.2.2.1), (2, .int a1), (3, .int a2)] [] m (k_35 a1 a2 m)) : ∀ (f : Nat) (a1 : Int32) (a2 : Int32) (a3 : Int32) (m : Mm), TGI pp ll ee rm_L_built ss mm aa bb me co 6 cx 112 0 0 n2 2 21 43 [(0, .ref (cx.2.2.1 + 1)), (1, .ref cx.2.2.2.2.1), (2, .int a1), (3, .int a2), (4, .int a3)] [] m (F_L_built_43 cx.2.2.2.2.2 n2 k_35 f a1 a2 a3 m) := by
  intro f
  induction f with
  | zero => exact fun _ _ _ _ => T_none
  | succ f ih =>
    intro a1 a2 a3 m
    unfold F_L_built_43
    refine T_iload C.1 dL_built_43 4 rfl ?_
    refine T_iload_n C.1 dL_built_45 2 rfl ?_
    refine T_icmp_ge (tgt := 108) C.1 dL_built_46 (by decide) ?_ ?_
    · refine T_iincN C.1 (fun v1 => [(3, .int v1), (0, .ref (cx.2.2.1 + 1)), (1, .ref cx.2.2.2.2.1), (2, .int a1), (4, .int a3)]) dL_built_108 3 rfl (by decide) (fun _ => rfl) (fun v1 => ?_)
      refine T_goto (tgt := 35) C.1 dL_built_111 (by decide) ?_
      exact T_sub [1, 2, 3, 0] rfl (hk_35 a1 v1 m)
    · refine T_aload_n C.1 dL_built_49 0 rfl ?_
      refine T_bipush C.1 dL_built_50 rfl ?_
      refine T_iload_n C.1 dL_built_52 3 rfl ?_
      refine T_imul C.1 dL_built_53 ?_
      refine T_iload C.1 dL_built_54 4 rfl ?_
      refine T_iadd C.1 dL_built_56 ?_
      refine T_iconst C.1 dL_built_57 ?_
      refine T_aload_n C.1 dL_built_58 1 rfl ?_
      refine T_iload_n C.1 dL_built_59 3 rfl ?_
      refine T_iload C.1 dL_built_60 4 rfl ?_
      refine T_callSI (rm := rm_L_worth) [.ref cx.2.2.2.2.1, .int a2, .int a3] [.int (iI 0), .int (((iI 10) * a2) + a3), .ref (cx.2.2.1 + 1)] C.1 dL_built_62 mw_L_worth wm_3_189 wm_3_190 ⟨Nat.le_of_ble_eq_true rfl, Nat.le_of_ble_eq_true rfl⟩ ⟨rfl, rfl⟩ ⟨by decide, by decide⟩ rfl rfl (Nat.le_of_ble_eq_true rfl) (c_L_worth (by decide) ll cx a2 a3 m) (fun v2 m3 => ?_)
      refine T_callVI (rm := rm_X8_mend) [.int (((iI 10) * a2) + a3), .int (iI 0), .int v2] [] C.1 dL_built_65 mw_X8_mend wm_3_192 wm_3_193 wm_3_194 ⟨Nat.le_of_ble_eq_true rfl, Nat.le_of_ble_eq_true rfl⟩ ⟨rfl, rfl⟩ ⟨by decide, by decide⟩ rfl rfl (Nat.le_of_ble_eq_true rfl) sh1 (by decide) ⟨rfl, rfl⟩ (c_X8_mend (by decide) ll cx (((iI 10) * a2) + a3) (iI 0) v2 m3) (fun v4 m5 => ?_)
      refine T_if_ne (tgt := 100) C.1 dL_built_68 (by decide) ?_ ?_
      · refine T_iconst C.1 dL_built_100 ?_
        exact T_none
      · refine T_iload_n C.1 dL_built_71 3 rfl ?_
        refine T_iload C.1 dL_built_72 4 rfl ?_
        refine T_icmp_eq (tgt := 102) C.1 dL_built_74 (by decide) ?_ ?_
        · exact T_sub [0, 1, 2, 3, 4] rfl (t_L_built_102 C (hk_35) (ih) a1 a2 a3 m5)
        · refine T_aload_n C.1 dL_built_77 0 rfl ?_
          refine T_bipush C.1 dL_built_78 rfl ?_
          refine T_iload_n C.1 dL_built_80 3 rfl ?_
          refine T_imul C.1 dL_built_81 ?_
          refine T_iload C.1 dL_built_82 4 rfl ?_
          refine T_iadd C.1 dL_built_84 ?_
          refine T_iconst C.1 dL_built_85 ?_
          refine T_aload_n C.1 dL_built_86 1 rfl ?_
          refine T_iload_n C.1 dL_built_87 3 rfl ?_
          refine T_iload C.1 dL_built_88 4 rfl ?_
          refine T_callSI (rm := rm_L_like) [.ref cx.2.2.2.2.1, .int a2, .int a3] [.int (iI 1), .int (((iI 10) * a2) + a3), .ref (cx.2.2.1 + 1)] C.1 dL_built_90 mw_L_like wm_3_212 wm_3_213 ⟨Nat.le_of_ble_eq_true rfl, Nat.le_of_ble_eq_true rfl⟩ ⟨rfl, rfl⟩ ⟨by decide, by decide⟩ rfl rfl (Nat.le_of_ble_eq_true rfl) (c_L_like (by decide) ll cx a2 a3 m5) (fun v6 m7 => ?_)
          refine T_callVI (rm := rm_X8_mend) [.int (((iI 10) * a2) + a3), .int (iI 1), .int v6] [] C.1 dL_built_93 mw_X8_mend wm_3_192 wm_3_193 wm_3_194 ⟨Nat.le_of_ble_eq_true rfl, Nat.le_of_ble_eq_true rfl⟩ ⟨rfl, rfl⟩ ⟨by decide, by decide⟩ rfl rfl (Nat.le_of_ble_eq_true rfl) sh1 (by decide) ⟨rfl, rfl⟩ (c_X8_mend (by decide) ll cx (((iI 10) * a2) + a3) (iI 1) v6 m7) (fun v8 m9 => ?_)
          refine T_iconst C.1 dL_built_96 ?_
          refine T_icmp_eq (tgt := 102) C.1 dL_built_97 (by decide) ?_ ?_
          · exact T_sub [0, 1, 2, 3, 4] rfl (t_L_built_102 C (hk_35) (ih) a1 a2 a3 m9)
          · refine T_iconst C.1 dL_built_100 ?_
            exact T_none
def F_L_built_35 (SC : SCT) (n2 : Nat)  : Nat → Int32 → Int32 → Mm → Option (Int32 × Mm)
  | 0, _, _, _ => none
  | f + 1, a1, a2, m =>
    (if a1 ≤ a2 then
      bnd (F_L_most SC m) fun v1 m2 =>
      bnd (F_X8_mend (iI 0) (iI 3) v1 m2) fun v3 m4 =>
      (if v3 = (iI 3) then
        bnd (F_L_again SC m4) fun v5 m6 =>
        bnd (F_X8_mend (iI 0) (iI 4) v5 m6) fun v7 m8 =>
        (if v7 = iI 0 then
          bnd (F_L_lot SC m8) fun q9 m10 =>
          gdN 113 q9 <|
          F_L_built_151 SC n2 FU a1 (iI 0) m10
        else
          none)
      else
        none)
    else
      F_L_built_43 SC n2 (F_L_built_35 SC n2 f) FU a1 a2 (iI 0) m)
set_option maxRecDepth 100000 in
set_option maxHeartbeats 4000000 in
theorem t_L_built_35 {pp : Program} {ll : Launch} {ee : Env} {ss : State} {mm : MethodId} {aa : Array Value} {bb : List Frame} {me : Method} {co : Code} {cx : CX} {n2 : Nat}  (C : CM pp ss mm aa me co cL_built 6 RL cx ((some .boolean)))  : ∀ (f : Nat) (a1 : Int32) (a2 : Int32) (m : Mm), TGI pp ll ee rm_L_built ss mm aa bb me co 6 cx 112 0 0 n2 2 21 35 [(0, .ref (cx.2.2.1 + 1)), (1, .ref cx.2.2.2.2.1), (2, .int a1), (3, .int a2)] [] m (F_L_built_35 cx.2.2.2.2.2 n2 f a1 a2 m) := by
  intro f
  induction f with
  | zero => exact fun _ _ _ => T_none
  | succ f ih =>
    intro a1 a2 m
    unfold F_L_built_35
    refine T_iload_n C.1 dL_built_35 3 rfl ?_
    refine T_iload_n C.1 dL_built_36 2 rfl ?_
    refine T_icmp_ge (tgt := 114) C.1 dL_built_37 (by decide) ?_ ?_
    · refine T_aload_n C.1 dL_built_114 0 rfl ?_
      refine T_iconst C.1 dL_built_115 ?_
      refine T_iconst C.1 dL_built_116 ?_
      refine T_aload_n C.1 dL_built_117 1 rfl ?_
      refine T_callSI (rm := rm_L_most) [.ref cx.2.2.2.2.1] [.int (iI 3), .int (iI 0), .ref (cx.2.2.1 + 1)] C.1 dL_built_118 mw_L_most wm_3_168 wm_3_169 ⟨Nat.le_of_ble_eq_true rfl, Nat.le_of_ble_eq_true rfl⟩ ⟨rfl, rfl⟩ ⟨by decide, by decide⟩ rfl rfl (Nat.le_of_ble_eq_true rfl) (c_L_most (by decide) ll cx m) (fun v1 m2 => ?_)
      refine T_callVI (rm := rm_X8_mend) [.int (iI 0), .int (iI 3), .int v1] [] C.1 dL_built_121 mw_X8_mend wm_3_192 wm_3_193 wm_3_194 ⟨Nat.le_of_ble_eq_true rfl, Nat.le_of_ble_eq_true rfl⟩ ⟨rfl, rfl⟩ ⟨by decide, by decide⟩ rfl rfl (Nat.le_of_ble_eq_true rfl) sh1 (by decide) ⟨rfl, rfl⟩ (c_X8_mend (by decide) ll cx (iI 0) (iI 3) v1 m2) (fun v3 m4 => ?_)
      refine T_iconst C.1 dL_built_124 ?_
      refine T_icmp_ne (tgt := 141) C.1 dL_built_125 (by decide) ?_ ?_
      · refine T_iconst C.1 dL_built_141 ?_
        exact T_none
      · refine T_aload_n C.1 dL_built_128 0 rfl ?_
        refine T_iconst C.1 dL_built_129 ?_
        refine T_iconst C.1 dL_built_130 ?_
        refine T_aload_n C.1 dL_built_131 1 rfl ?_
        refine T_callSI (rm := rm_L_again) [.ref cx.2.2.2.2.1] [.int (iI 4), .int (iI 0), .ref (cx.2.2.1 + 1)] C.1 dL_built_132 mw_L_again wm_3_171 wm_3_172 ⟨Nat.le_of_ble_eq_true rfl, Nat.le_of_ble_eq_true rfl⟩ ⟨rfl, rfl⟩ ⟨by decide, by decide⟩ rfl rfl (Nat.le_of_ble_eq_true rfl) (c_L_again (by decide) ll cx m4) (fun v5 m6 => ?_)
        refine T_callVI (rm := rm_X8_mend) [.int (iI 0), .int (iI 4), .int v5] [] C.1 dL_built_135 mw_X8_mend wm_3_192 wm_3_193 wm_3_194 ⟨Nat.le_of_ble_eq_true rfl, Nat.le_of_ble_eq_true rfl⟩ ⟨rfl, rfl⟩ ⟨by decide, by decide⟩ rfl rfl (Nat.le_of_ble_eq_true rfl) sh1 (by decide) ⟨rfl, rfl⟩ (c_X8_mend (by decide) ll cx (iI 0) (iI 4) v5 m6) (fun v7 m8 => ?_)
        refine T_if_eq (tgt := 143) C.1 dL_built_138 (by decide) ?_ ?_
        · refine T_aload_n C.1 dL_built_143 1 rfl ?_
          refine T_callSA (rm := rm_L_lot) (n2 := 113) (mc := 1) (ms := 6) [.ref cx.2.2.2.2.1] [] C.1 dL_built_144 mw_L_lot wm_3_215 wm_3_216 ⟨⟨Nat.le_of_ble_eq_true rfl, Nat.le_of_ble_eq_true rfl⟩, rfl, rfl, by decide, by decide, by decide⟩ rfl rfl (Nat.le_of_ble_eq_true rfl) (c_L_lot ll cx m8) (fun q9 m10 => ?_)
          refine T_gdN (fun hq => ?_)
          subst hq
          refine T_astore_n (lv' := [(3, .ref (cx.2.2.1 + 113)), (0, .ref (cx.2.2.1 + 1)), (1, .ref cx.2.2.2.2.1), (2, .int a1)]) C.1 dL_built_147 (by decide) rfl ?_
          refine T_iconst C.1 dL_built_148 ?_
          refine T_istore (lv' := [(4, .int (iI 0)), (3, .ref (cx.2.2.1 + 113)), (0, .ref (cx.2.2.1 + 1)), (1, .ref cx.2.2.2.2.1), (2, .int a1)]) C.1 dL_built_149 (by decide) rfl ?_
          exact T_sub [2, 3, 4, 1, 0] rfl (t_L_built_151 C FU a1 (iI 0) m10)
        · refine T_iconst C.1 dL_built_141 ?_
          exact T_none
    · refine T_iconst C.1 dL_built_40 ?_
      refine T_istore (lv' := [(4, .int (iI 0)), (0, .ref (cx.2.2.1 + 1)), (1, .ref cx.2.2.2.2.1), (2, .int a1), (3, .int a2)]) C.1 dL_built_41 (by decide) rfl ?_
      exact T_sub [1, 2, 3, 4, 0] rfl (t_L_built_43 C (ih) FU a1 a2 (iI 0) m)
def F_L_built_7 (SC : SCT) (n2 : Nat)  : Nat → Int32 → Int32 → Mm → Option (Int32 × Mm)
  | 0, _, _, _ => none
  | f + 1, a1, a2, m =>
    (if a1 ≤ a2 then
      F_L_built_35 SC n2 FU a1 (iI 0) m
    else
      bnd (F_L_way SC a2 m) fun v1 m2 =>
      bnd (F_X8_person v1 m2) fun v3 m4 =>
      (if v3 = a2 then
        nm (a2 + (iI 1)) fun v5 =>
        F_L_built_7 SC n2 f a1 v5 m4
      else
        none))
set_option maxRecDepth 100000 in
set_option maxHeartbeats 4000000 in
theorem t_L_built_7 {pp : Program} {ll : Launch} {ee : Env} {ss : State} {mm : MethodId} {aa : Array Value} {bb : List Frame} {me : Method} {co : Code} {cx : CX} {n2 : Nat}  (C : CM pp ss mm aa me co cL_built 6 RL cx ((some .boolean)))  : ∀ (f : Nat) (a1 : Int32) (a2 : Int32) (m : Mm), TGI pp ll ee rm_L_built ss mm aa bb me co 6 cx 112 0 0 n2 2 21 7 [(0, .ref (cx.2.2.1 + 1)), (1, .ref cx.2.2.2.2.1), (2, .int a1), (3, .int a2)] [] m (F_L_built_7 cx.2.2.2.2.2 n2 f a1 a2 m) := by
  intro f
  induction f with
  | zero => exact fun _ _ _ => T_none
  | succ f ih =>
    intro a1 a2 m
    unfold F_L_built_7
    refine T_iload_n C.1 dL_built_7 3 rfl ?_
    refine T_iload_n C.1 dL_built_8 2 rfl ?_
    refine T_icmp_ge (tgt := 33) C.1 dL_built_9 (by decide) ?_ ?_
    · refine T_iconst C.1 dL_built_33 ?_
      refine T_istore_n (lv' := [(3, .int (iI 0)), (0, .ref (cx.2.2.1 + 1)), (1, .ref cx.2.2.2.2.1), (2, .int a1)]) C.1 dL_built_34 (by decide) rfl ?_
      exact T_sub [1, 2, 3, 0] rfl (t_L_built_35 C FU a1 (iI 0) m)
    · refine T_aload_n C.1 dL_built_12 0 rfl ?_
      refine T_aload_n C.1 dL_built_13 1 rfl ?_
      refine T_iload_n C.1 dL_built_14 3 rfl ?_
      refine T_callSI (rm := rm_L_way) [.ref cx.2.2.2.2.1, .int a2] [.ref (cx.2.2.1 + 1)] C.1 dL_built_15 mw_L_way wm_3_177 wm_3_178 ⟨Nat.le_of_ble_eq_true rfl, Nat.le_of_ble_eq_true rfl⟩ ⟨rfl, rfl⟩ ⟨by decide, by decide⟩ rfl rfl (Nat.le_of_ble_eq_true rfl) (c_L_way (by decide) ll cx a2 m) (fun v1 m2 => ?_)
      refine T_callVI (rm := rm_X8_person) [.int v1] [] C.1 dL_built_18 mw_X8_person wm_3_180 wm_3_181 wm_3_182 ⟨Nat.le_of_ble_eq_true rfl, Nat.le_of_ble_eq_true rfl⟩ ⟨rfl, rfl⟩ ⟨by decide, by decide⟩ rfl rfl (Nat.le_of_ble_eq_true rfl) sh1 (by decide) ⟨rfl, rfl⟩ (c_X8_person (by decide) ll cx v1 m2) (fun v3 m4 => ?_)
      refine T_iload_n C.1 dL_built_21 3 rfl ?_
      refine T_icmp_eq (tgt := 27) C.1 dL_built_22 (by decide) ?_ ?_
      · refine T_iincN C.1 (fun v5 => [(3, .int v5), (0, .ref (cx.2.2.1 + 1)), (1, .ref cx.2.2.2.2.1), (2, .int a1)]) dL_built_27 3 rfl (by decide) (fun _ => rfl) (fun v5 => ?_)
        refine T_goto (tgt := 7) C.1 dL_built_30 (by decide) ?_
        exact T_sub [1, 2, 3, 0] rfl (ih a1 v5 m4)
      · refine T_iconst C.1 dL_built_25 ?_
        exact T_none
def F_L_built (SC : SCT) (n2 : Nat)  (m : Mm) : Option (Int32 × Mm) :=
  bnd (F_L_people SC m) fun v1 m2 =>
  F_L_built_7 SC n2 FU v1 (iI 0) m2
set_option maxRecDepth 100000 in
set_option maxHeartbeats 4000000 in
theorem c_L_built (ll : Launch) (cx : CX) (n2 : Nat)  (m : Mm) : MT ll yL_built cL_built 6 ((some .boolean)) rm_L_built cx 112 n2 Lay cvI 2 21 [.ref (cx.2.2.1 + 1), .ref cx.2.2.2.2.1] m (F_L_built cx.2.2.2.2.2 n2 m) := by
  refine MT_of (by decide) (Nat.le_of_ble_eq_true rfl) ?_
  intro pp ee ss mm aa bb me co hK hr hk hn0
  have C : CM pp ss mm aa me co cL_built 6 RL cx ((some .boolean)) := ⟨hK, hr, hk⟩
  show TGI pp ll ee rm_L_built ss mm aa bb me co 6 cx 112 0 0 n2 2 21 0 [(0, .ref (cx.2.2.1 + 1)), (1, .ref cx.2.2.2.2.1)] [] m (F_L_built cx.2.2.2.2.2 n2 m)
  unfold F_L_built
  refine T_aload_n C.1 dL_built_0 1 rfl ?_
  refine T_callSI (rm := rm_L_people) [.ref cx.2.2.2.2.1] [] C.1 dL_built_1 mw_L_people wm_3_161 wm_3_162 ⟨Nat.le_of_ble_eq_true rfl, Nat.le_of_ble_eq_true rfl⟩ ⟨rfl, rfl⟩ ⟨by decide, by decide⟩ rfl rfl (Nat.le_of_ble_eq_true rfl) (c_L_people (by decide) ll cx m) (fun v1 m2 => ?_)
  refine T_istore_n (lv' := [(2, .int v1), (0, .ref (cx.2.2.1 + 1)), (1, .ref cx.2.2.2.2.1)]) C.1 dL_built_4 (by decide) rfl ?_
  refine T_iconst C.1 dL_built_5 ?_
  refine T_istore_n (lv' := [(3, .int (iI 0)), (2, .int v1), (0, .ref (cx.2.2.1 + 1)), (1, .ref cx.2.2.2.2.1)]) C.1 dL_built_6 (by decide) rfl ?_
  exact T_sub [2, 3, 1, 0] rfl (t_L_built_7 C FU v1 (iI 0) m2)
