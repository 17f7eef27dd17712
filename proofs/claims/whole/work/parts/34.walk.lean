def rm_X9_changeAt : Room := { frames := 2, cells := 0, slots := 0, locals := 63 }
def F_X9_changeAt  (x1 : Int32) (x2 : Int32) (m : Mm) : Option (Unit × Mm) :=
  rd 7 (iI 0) fun j1 =>
  nm (gI m 117 j1) fun v2 =>
  bnd (F_X9_hasIn x1 v2 m) fun v3 m4 =>
  rd 14 (((iI 7) * x1) + x2) fun j5 =>
  wrI 14 m4 118 (((iI 7) * x1) + v3) (gI m4 118 j5) fun m6 =>
  wrI 14 m6 118 (((iI 7) * x1) + x2) v2 fun m7 =>
  rd 14 (((iI 7) * x1) + x2) fun j8 =>
  wrI 14 m7 119 (((iI 7) * x1) + x2) ((gI m7 119 j8) + (iI 1)) fun m9 =>
  rd 2 x1 fun j10 =>
  wrI 2 m9 124 x1 ((gI m9 124 j10) + (iI 1)) fun m11 =>
  some ((), m11)
set_option maxRecDepth 100000 in
set_option maxHeartbeats 4000000 in
theorem c_X9_changeAt (ll : Launch) (cx : CX) (x1 : Int32) (x2 : Int32) (m : Mm) : MT ll yX9_changeAt cX9_changeAt 5 (none) rm_X9_changeAt cx NN NN Lay cvV 0 0 [.ref (cx.2.2.1 + 113), .int x1, .int x2] m (F_X9_changeAt x1 x2 m) := by
  refine MT_of (by decide) (Nat.le_of_ble_eq_true rfl) ?_
  intro pp ee ss mm aa bb me co hK hr hk hn
  have C : CM pp ss mm aa me co cX9_changeAt 5 RX9 cx (none) := ⟨hK, hr, hk⟩
  show TV pp ll ee rm_X9_changeAt ss mm aa bb me co 5 cx 0 [(0, .ref (cx.2.2.1 + 113)), (1, .int x1), (2, .int x2)] [] m (F_X9_changeAt x1 x2 m)
  unfold F_X9_changeAt
  refine T_aload_n C.1 dX9_changeAt_0 0 rfl ?_
  refine T_getR (x := 117) C.1 fd_X9_23 (fun _ _ _ _ => rfl) sh113 le113 (fun _ h => h) rfl (by decide) dX9_changeAt_1 ?_
  refine T_iconst C.1 dX9_changeAt_4 ?_
  refine T_iald C.1 dX9_changeAt_5 sh117 le117 (fun j1 => ?_)
  refine T_istore_nN C.1 (fun v2 => [(3, .int v2), (0, .ref (cx.2.2.1 + 113)), (1, .int x1), (2, .int x2)]) dX9_changeAt_6 (by decide) (fun _ => rfl) (fun v2 => ?_)
  refine T_aload_n C.1 dX9_changeAt_7 1 rfl ?_
  refine T_iload_n C.1 dX9_changeAt_8 2 rfl ?_
  refine T_iload_n C.1 dX9_changeAt_9 0 rfl ?_
  refine T_callVI (rm := rm_X9_hasIn) [.int x1, .int v2] [] C.1 dX9_changeAt_10 mw_X9_hasIn wm_5_202 wm_5_204 wm_p_42 ⟨Nat.le_of_ble_eq_true rfl, Nat.le_of_ble_eq_true rfl⟩ ⟨rfl, rfl⟩ ⟨Nat.zero_le _, Nat.zero_le _⟩ rfl rfl (Nat.le_of_ble_eq_true rfl) sh113 le113 ⟨rfl, rfl⟩ (c_X9_hasIn ll cx x1 v2 m) (fun v3 m4 => ?_)
  refine T_istore (lv' := [(4, .int v3), (3, .int v2), (0, .ref (cx.2.2.1 + 113)), (1, .int x1), (2, .int x2)]) C.1 dX9_changeAt_13 (by decide) rfl ?_
  refine T_aload_n C.1 dX9_changeAt_15 2 rfl ?_
  refine T_getR (x := 118) C.1 fd_X9_26 (fun _ _ _ _ => rfl) sh113 le113 (fun _ h => h) rfl (by decide) dX9_changeAt_16 ?_
  refine T_bipush C.1 dX9_changeAt_19 rfl ?_
  refine T_iload_n C.1 dX9_changeAt_21 3 rfl ?_
  refine T_imul C.1 dX9_changeAt_22 ?_
  refine T_iload C.1 dX9_changeAt_23 0 rfl ?_
  refine T_iadd C.1 dX9_changeAt_25 ?_
  refine T_aload_n C.1 dX9_changeAt_26 2 rfl ?_
  refine T_getR (x := 118) C.1 fd_X9_26 (fun _ _ _ _ => rfl) sh113 le113 (fun _ h => h) rfl (by decide) dX9_changeAt_27 ?_
  refine T_bipush C.1 dX9_changeAt_30 rfl ?_
  refine T_iload_n C.1 dX9_changeAt_32 3 rfl ?_
  refine T_imul C.1 dX9_changeAt_33 ?_
  refine T_iload_n C.1 dX9_changeAt_34 4 rfl ?_
  refine T_iadd C.1 dX9_changeAt_35 ?_
  refine T_iald C.1 dX9_changeAt_36 sh118 le118 (fun j5 => ?_)
  refine T_iast C.1 LyI_Lay sh118 le118 dX9_changeAt_37 (fun m6 => ?_)
  refine T_aload_n C.1 dX9_changeAt_38 2 rfl ?_
  refine T_getR (x := 118) C.1 fd_X9_26 (fun _ _ _ _ => rfl) sh113 le113 (fun _ h => h) rfl (by decide) dX9_changeAt_39 ?_
  refine T_bipush C.1 dX9_changeAt_42 rfl ?_
  refine T_iload_n C.1 dX9_changeAt_44 3 rfl ?_
  refine T_imul C.1 dX9_changeAt_45 ?_
  refine T_iload_n C.1 dX9_changeAt_46 4 rfl ?_
  refine T_iadd C.1 dX9_changeAt_47 ?_
  refine T_iload_n C.1 dX9_changeAt_48 1 rfl ?_
  refine T_iast C.1 LyI_Lay sh118 le118 dX9_changeAt_49 (fun m7 => ?_)
  refine T_aload_n C.1 dX9_changeAt_50 2 rfl ?_
  refine T_getR (x := 119) C.1 fd_X9_29 (fun _ _ _ _ => rfl) sh113 le113 (fun _ h => h) rfl (by decide) dX9_changeAt_51 ?_
  refine T_bipush C.1 dX9_changeAt_54 rfl ?_
  refine T_iload_n C.1 dX9_changeAt_56 3 rfl ?_
  refine T_imul C.1 dX9_changeAt_57 ?_
  refine T_iload_n C.1 dX9_changeAt_58 4 rfl ?_
  refine T_iadd C.1 dX9_changeAt_59 ?_
  refine T_dup2 C.1 dX9_changeAt_60 rfl rfl ?_
  refine T_iald C.1 dX9_changeAt_61 sh119 le119 (fun j8 => ?_)
  refine T_iconst C.1 dX9_changeAt_62 ?_
  refine T_iadd C.1 dX9_changeAt_63 ?_
  refine T_iast C.1 LyI_Lay sh119 le119 dX9_changeAt_64 (fun m9 => ?_)
  refine T_aload_n C.1 dX9_changeAt_65 2 rfl ?_
  refine T_getR (x := 124) C.1 fd_X9_44 (fun _ _ _ _ => rfl) sh113 le113 (fun _ h => h) rfl (by decide) dX9_changeAt_66 ?_
  refine T_iload_n C.1 dX9_changeAt_69 3 rfl ?_
  refine T_dup2 C.1 dX9_changeAt_70 rfl rfl ?_
  refine T_iald C.1 dX9_changeAt_71 sh124 le124 (fun j10 => ?_)
  refine T_iconst C.1 dX9_changeAt_72 ?_
  refine T_iadd C.1 dX9_changeAt_73 ?_
  refine T_iast C.1 LyI_Lay sh124 le124 dX9_changeAt_74 (fun m11 => ?_)
  exact T_vret C.1 C.2.1 C.2.2 dX9_changeAt_75
def rm_X9_lead : Room := { frames := 1, cells := 0, slots := 0, locals := 40 }
def F_X9_lead  (x1 : Int32) (x2 : Int32) (m : Mm) : Option (Unit × Mm) :=
  nm (pI m 113 17 x1) fun m1 =>
  nm (pI m1 113 18 x2) fun m2 =>
  nm (pI m2 113 19 ((gI m2 113 19) + (iI 1))) fun m3 =>
  nm (pI m3 113 15 ((gI m3 113 15) + (iI 1))) fun m4 =>
  some ((), m4)
set_option maxRecDepth 100000 in
set_option maxHeartbeats 4000000 in
theorem c_X9_lead (ll : Launch) (cx : CX) (x1 : Int32) (x2 : Int32) (m : Mm) : MT ll yX9_lead cX9_lead 3 (none) rm_X9_lead cx NN NN Lay cvV 0 0 [.ref (cx.2.2.1 + 113), .int x1, .int x2] m (F_X9_lead x1 x2 m) := by
  refine MT_of (by decide) (Nat.le_of_ble_eq_true rfl) ?_
  intro pp ee ss mm aa bb me co hK hr hk hn
  have C : CM pp ss mm aa me co cX9_lead 3 RX9 cx (none) := ⟨hK, hr, hk⟩
  show TV pp ll ee rm_X9_lead ss mm aa bb me co 3 cx 0 [(0, .ref (cx.2.2.1 + 113)), (1, .int x1), (2, .int x2)] [] m (F_X9_lead x1 x2 m)
  unfold F_X9_lead
  refine T_aload_n C.1 dX9_lead_0 0 rfl ?_
  refine T_iload_n C.1 dX9_lead_1 1 rfl ?_
  refine T_putI C.1 LyI_Lay fd_X9_47 sh113 le113 dX9_lead_2 (fun m1 => ?_)
  refine T_aload_n C.1 dX9_lead_5 0 rfl ?_
  refine T_iload_n C.1 dX9_lead_6 2 rfl ?_
  refine T_putI C.1 LyI_Lay fd_X9_314 sh113 le113 dX9_lead_7 (fun m2 => ?_)
  refine T_aload_n C.1 dX9_lead_10 0 rfl ?_
  refine T_dup C.1 dX9_lead_11 rfl ?_
  refine T_getI C.1 fd_X9_317 (fun _ _ _ _ => rfl) sh113 le113 dX9_lead_12 ?_
  refine T_iconst C.1 dX9_lead_15 ?_
  refine T_iadd C.1 dX9_lead_16 ?_
  refine T_putI C.1 LyI_Lay fd_X9_317 sh113 le113 dX9_lead_17 (fun m3 => ?_)
  refine T_aload_n C.1 dX9_lead_20 0 rfl ?_
  refine T_dup C.1 dX9_lead_21 rfl ?_
  refine T_getI C.1 fd_X9_166 (fun _ _ _ _ => rfl) sh113 le113 dX9_lead_22 ?_
  refine T_iconst C.1 dX9_lead_25 ?_
  refine T_iadd C.1 dX9_lead_26 ?_
  refine T_putI C.1 LyI_Lay fd_X9_166 sh113 le113 dX9_lead_27 (fun m4 => ?_)
  exact T_vret C.1 C.2.1 C.2.2 dX9_lead_30
def rm_X9_turn : Room := { frames := 1, cells := 0, slots := 0, locals := 40 }
def F_X9_turn   (m : Mm) : Option (Int32 × Mm) :=
  rd 2 (iI 0) fun j1 =>
  (if iI 0 ≤ (gI m 121 j1) then
    rd 2 (iI 0) fun j2 =>
    some ((gI m 121 j2), m)
  else
    some ((iI (-2)), m))
set_option maxRecDepth 100000 in
set_option maxHeartbeats 4000000 in
theorem c_X9_turn (ll : Launch) (cx : CX)  (m : Mm) : MT ll yX9_turn cX9_turn 1 ((some .int)) rm_X9_turn cx NN NN Lay cvI 0 0 [.ref (cx.2.2.1 + 113)] m (F_X9_turn  m) := by
  refine MT_of (by decide) (Nat.le_of_ble_eq_true rfl) ?_
  intro pp ee ss mm aa bb me co hK hr hk hn
  have C : CM pp ss mm aa me co cX9_turn 1 RX9 cx ((some .int)) := ⟨hK, hr, hk⟩
  show TI pp ll ee rm_X9_turn ss mm aa bb me co 1 cx 0 [(0, .ref (cx.2.2.1 + 113))] [] m (F_X9_turn  m)
  unfold F_X9_turn
  refine T_aload_n C.1 dX9_turn_0 0 rfl ?_
  refine T_getR (x := 121) C.1 fd_X9_35 (fun _ _ _ _ => rfl) sh113 le113 (fun _ h => h) rfl (by decide) dX9_turn_1 ?_
  refine T_iconst C.1 dX9_turn_4 ?_
  refine T_iald C.1 dX9_turn_5 sh121 le121 (fun j1 => ?_)
  refine T_if_ge (tgt := 14) C.1 dX9_turn_6 (by decide) ?_ ?_
  · refine T_aload_n C.1 dX9_turn_14 0 rfl ?_
    refine T_getR (x := 121) C.1 fd_X9_35 (fun _ _ _ _ => rfl) sh113 le113 (fun _ h => h) rfl (by decide) dX9_turn_15 ?_
    refine T_iconst C.1 dX9_turn_18 ?_
    refine T_iald C.1 dX9_turn_19 sh121 le121 (fun j2 => ?_)
    exact T_iret C.1 C.2.1 C.2.2 dX9_turn_20
  · refine T_bipush C.1 dX9_turn_9 rfl ?_
    refine T_goto (tgt := 20) C.1 dX9_turn_11 (by decide) ?_
    exact T_iret C.1 C.2.1 C.2.2 dX9_turn_20
def rm_X9_open : Room := { frames := 4, cells := 0, slots := 0, locals := 105 }
def F_X9_open   (m : Mm) : Option (Int32 × Mm) :=
  rd 2 (iI 0) fun j1 =>
  nm (gI m 121 j1) fun v2 =>
  (if iI 0 ≤ v2 then
    bnd (F_X9_opensAt (iI 0) m) fun v3 m4 =>
    bnd (F_X9_lead v2 v3 m4) fun _ m6 =>
    some (v3, m6)
  else
    some ((iI (-5)), m))
set_option maxRecDepth 100000 in
set_option maxHeartbeats 4000000 in
theorem c_X9_open (ll : Launch) (cx : CX)  (m : Mm) : MT ll yX9_open cX9_open 3 ((some .int)) rm_X9_open cx NN NN Lay cvI 0 0 [.ref (cx.2.2.1 + 113)] m (F_X9_open  m) := by
  refine MT_of (by decide) (Nat.le_of_ble_eq_true rfl) ?_
  intro pp ee ss mm aa bb me co hK hr hk hn
  have C : CM pp ss mm aa me co cX9_open 3 RX9 cx ((some .int)) := ⟨hK, hr, hk⟩
  show TI pp ll ee rm_X9_open ss mm aa bb me co 3 cx 0 [(0, .ref (cx.2.2.1 + 113))] [] m (F_X9_open  m)
  unfold F_X9_open
  refine T_aload_n C.1 dX9_open_0 0 rfl ?_
  refine T_getR (x := 121) C.1 fd_X9_35 (fun _ _ _ _ => rfl) sh113 le113 (fun _ h => h) rfl (by decide) dX9_open_1 ?_
  refine T_iconst C.1 dX9_open_4 ?_
  refine T_iald C.1 dX9_open_5 sh121 le121 (fun j1 => ?_)
  refine T_istore_nN C.1 (fun v2 => [(1, .int v2), (0, .ref (cx.2.2.1 + 113))]) dX9_open_6 (by decide) (fun _ => rfl) (fun v2 => ?_)
  refine T_iload_n C.1 dX9_open_7 0 rfl ?_
  refine T_if_ge (tgt := 14) C.1 dX9_open_8 (by decide) ?_ ?_
  · refine T_aload_n C.1 dX9_open_14 1 rfl ?_
    refine T_iconst C.1 dX9_open_15 ?_
    refine T_callVI (rm := rm_X9_opensAt) [.int (iI 0)] [] C.1 dX9_open_16 mw_X9_opensAt wm_6_48 wm_6_50 wm_p_57 ⟨Nat.le_of_ble_eq_true rfl, Nat.le_of_ble_eq_true rfl⟩ ⟨rfl, rfl⟩ ⟨Nat.zero_le _, Nat.zero_le _⟩ rfl rfl (Nat.le_of_ble_eq_true rfl) sh113 le113 ⟨rfl, rfl⟩ (c_X9_opensAt ll cx (iI 0) m) (fun v3 m4 => ?_)
    refine T_istore_n (lv' := [(2, .int v3), (1, .int v2), (0, .ref (cx.2.2.1 + 113))]) C.1 dX9_open_19 (by decide) rfl ?_
    refine T_aload_n C.1 dX9_open_20 2 rfl ?_
    refine T_iload_n C.1 dX9_open_21 1 rfl ?_
    refine T_iload_n C.1 dX9_open_22 0 rfl ?_
    refine T_callVV (rm := rm_X9_lead) [.int v2, .int v3] [] C.1 dX9_open_23 mw_X9_lead wm_6_56 wm_6_58 wm_p_59 ⟨Nat.le_of_ble_eq_true rfl, Nat.le_of_ble_eq_true rfl⟩ ⟨rfl, rfl⟩ ⟨Nat.zero_le _, Nat.zero_le _⟩ rfl rfl (Nat.le_of_ble_eq_true rfl) sh113 le113 ⟨rfl, rfl⟩ (c_X9_lead ll cx v2 v3 m4) (fun u5 m6 => ?_)
    refine T_iload_n C.1 dX9_open_26 0 rfl ?_
    exact T_iret C.1 C.2.1 C.2.2 dX9_open_27
  · refine T_bipush C.1 dX9_open_11 rfl ?_
    exact T_iret C.1 C.2.1 C.2.2 dX9_open_13
def rm_X9_take : Room := { frames := 3, cells := 0, slots := 0, locals := 83 }
def F_X9_take  (x1 : Int32) (m : Mm) : Option (Int32 × Mm) :=
  bnd (F_X9_isPerson x1 m) fun v1 m2 =>
  (if v1 = iI 0 then
    some ((iI (-1)), m2)
  else
    rd 2 (iI 0) fun j3 =>
    nm (gI m2 121 j3) fun v4 =>
    (if iI 0 ≤ v4 then
      bnd (F_X9_mayTake (iI 0) x1 m2) fun v5 m6 =>
      (if v5 = iI 0 then
        some ((iI (-2)), m6)
      else
        bnd (F_X9_takesAt (iI 0) x1 m6) fun v7 m8 =>
        bnd (F_X9_lead v4 x1 m8) fun _ m10 =>
        some (v7, m10))
    else
      some ((iI (-5)), m2)))
set_option maxRecDepth 100000 in
set_option maxHeartbeats 4000000 in
theorem c_X9_take (ll : Launch) (cx : CX) (x1 : Int32) (m : Mm) : MT ll yX9_take cX9_take 4 ((some .int)) rm_X9_take cx NN NN Lay cvI 0 0 [.ref (cx.2.2.1 + 113), .int x1] m (F_X9_take x1 m) := by
  refine MT_of (by decide) (Nat.le_of_ble_eq_true rfl) ?_
  intro pp ee ss mm aa bb me co hK hr hk hn
  have C : CM pp ss mm aa me co cX9_take 4 RX9 cx ((some .int)) := ⟨hK, hr, hk⟩
  show TI pp ll ee rm_X9_take ss mm aa bb me co 4 cx 0 [(0, .ref (cx.2.2.1 + 113)), (1, .int x1)] [] m (F_X9_take x1 m)
  unfold F_X9_take
  refine T_aload_n C.1 dX9_take_0 0 rfl ?_
  refine T_iload_n C.1 dX9_take_1 1 rfl ?_
  refine T_callVI (rm := rm_X9_isPerson) [.int x1] [] C.1 dX9_take_2 mw_X9_isPerson wm_5_183 wm_5_185 wm_p_39 ⟨Nat.le_of_ble_eq_true rfl, Nat.le_of_ble_eq_true rfl⟩ ⟨rfl, rfl⟩ ⟨Nat.zero_le _, Nat.zero_le _⟩ rfl rfl (Nat.le_of_ble_eq_true rfl) sh113 le113 ⟨rfl, rfl⟩ (c_X9_isPerson ll cx x1 m) (fun v1 m2 => ?_)
  refine T_if_ne (tgt := 10) C.1 dX9_take_5 (by decide) ?_ ?_
  · refine T_aload_n C.1 dX9_take_10 0 rfl ?_
    refine T_getR (x := 121) C.1 fd_X9_35 (fun _ _ _ _ => rfl) sh113 le113 (fun _ h => h) rfl (by decide) dX9_take_11 ?_
    refine T_iconst C.1 dX9_take_14 ?_
    refine T_iald C.1 dX9_take_15 sh121 le121 (fun j3 => ?_)
    refine T_istore_nN C.1 (fun v4 => [(2, .int v4), (0, .ref (cx.2.2.1 + 113)), (1, .int x1)]) dX9_take_16 (by decide) (fun _ => rfl) (fun v4 => ?_)
    refine T_iload_n C.1 dX9_take_17 0 rfl ?_
    refine T_if_ge (tgt := 24) C.1 dX9_take_18 (by decide) ?_ ?_
    · refine T_aload_n C.1 dX9_take_24 1 rfl ?_
      refine T_iconst C.1 dX9_take_25 ?_
      refine T_iload_n C.1 dX9_take_26 2 rfl ?_
      refine T_callVI (rm := rm_X9_mayTake) [.int (iI 0), .int x1] [] C.1 dX9_take_27 mw_X9_mayTake wm_6_64 wm_6_66 wm_p_60 ⟨Nat.le_of_ble_eq_true rfl, Nat.le_of_ble_eq_true rfl⟩ ⟨rfl, rfl⟩ ⟨Nat.zero_le _, Nat.zero_le _⟩ rfl rfl (Nat.le_of_ble_eq_true rfl) sh113 le113 ⟨rfl, rfl⟩ (c_X9_mayTake ll cx (iI 0) x1 m2) (fun v5 m6 => ?_)
      refine T_if_ne (tgt := 36) C.1 dX9_take_30 (by decide) ?_ ?_
      · refine T_aload_n C.1 dX9_take_36 1 rfl ?_
        refine T_iconst C.1 dX9_take_37 ?_
        refine T_iload_n C.1 dX9_take_38 2 rfl ?_
        refine T_callVI (rm := rm_X9_takesAt) [.int (iI 0), .int x1] [] C.1 dX9_take_39 mw_X9_takesAt wm_6_68 wm_6_70 wm_p_61 ⟨Nat.le_of_ble_eq_true rfl, Nat.le_of_ble_eq_true rfl⟩ ⟨rfl, rfl⟩ ⟨Nat.zero_le _, Nat.zero_le _⟩ rfl rfl (Nat.le_of_ble_eq_true rfl) sh113 le113 ⟨rfl, rfl⟩ (c_X9_takesAt ll cx (iI 0) x1 m6) (fun v7 m8 => ?_)
        refine T_istore_n (lv' := [(3, .int v7), (2, .int v4), (0, .ref (cx.2.2.1 + 113)), (1, .int x1)]) C.1 dX9_take_42 (by decide) rfl ?_
        refine T_aload_n C.1 dX9_take_43 2 rfl ?_
        refine T_iload_n C.1 dX9_take_44 1 rfl ?_
        refine T_iload_n C.1 dX9_take_45 3 rfl ?_
        refine T_callVV (rm := rm_X9_lead) [.int v4, .int x1] [] C.1 dX9_take_46 mw_X9_lead wm_6_56 wm_6_58 wm_p_59 ⟨Nat.le_of_ble_eq_true rfl, Nat.le_of_ble_eq_true rfl⟩ ⟨rfl, rfl⟩ ⟨Nat.zero_le _, Nat.zero_le _⟩ rfl rfl (Nat.le_of_ble_eq_true rfl) sh113 le113 ⟨rfl, rfl⟩ (c_X9_lead ll cx v4 x1 m8) (fun u9 m10 => ?_)
        refine T_iload_n C.1 dX9_take_49 0 rfl ?_
        exact T_iret C.1 C.2.1 C.2.2 dX9_take_50
      · refine T_bipush C.1 dX9_take_33 rfl ?_
        exact T_iret C.1 C.2.1 C.2.2 dX9_take_35
    · refine T_bipush C.1 dX9_take_21 rfl ?_
      exact T_iret C.1 C.2.1 C.2.2 dX9_take_23
  · refine T_iconst C.1 dX9_take_8 ?_
    exact T_iret C.1 C.2.1 C.2.2 dX9_take_9
def rm_X9_goOn : Room := { frames := 7, cells := 0, slots := 0, locals := 184 }
def F_X9_goOn_2  : Nat → Int32 → Mm → Option (Int32 × Mm)
  | 0, _, _ => none
  | f + 1, a1, m =>
    rd 2 (iI 0) fun j1 =>
    (if (gI m 121 j1) < iI 0 then
      some (a1, m)
    else
      rd 2 (iI 0) fun j2 =>
      nm (gI m 121 j2) fun v3 =>
      bnd (F_X9_goTurn (iI 0) m) fun v4 m5 =>
      bnd (F_X9_lead v3 v4 m5) fun _ m7 =>
      nm (a1 + (iI 1)) fun v8 =>
      F_X9_goOn_2  f v8 m7)
set_option maxRecDepth 100000 in
set_option maxHeartbeats 4000000 in
theorem t_X9_goOn_2 {pp : Program} {ll : Launch} {ee : Env} {ss : State} {mm : MethodId} {aa : Array Value} {bb : List Frame} {me : Method} {co : Code} {cx : CX}     (C : CM pp ss mm aa me co cX9_goOn 3 RX9 cx ((some .int)))    : ∀ (f : Nat) (a1 : Int32) (m : Mm), TI pp ll ee rm_X9_goOn ss mm aa bb me co 3 cx 2 [(0, .ref (cx.2.2.1 + 113)), (1, .int a1)] [] m (F_X9_goOn_2  f a1 m) := by
  intro f
  induction f with
  | zero => exact fun _ _ => T_none
  | succ f ih =>
    intro a1 m
    unfold F_X9_goOn_2
    refine T_aload_n C.1 dX9_goOn_2 0 rfl ?_
    refine T_getR (x := 121) C.1 fd_X9_35 (fun _ _ _ _ => rfl) sh113 le113 (fun _ h => h) rfl (by decide) dX9_goOn_3 ?_
    refine T_iconst C.1 dX9_goOn_6 ?_
    refine T_iald C.1 dX9_goOn_7 sh121 le121 (fun j1 => ?_)
    refine T_if_lt (tgt := 34) C.1 dX9_goOn_8 (by decide) ?_ ?_
    · refine T_iload_n C.1 dX9_goOn_34 1 rfl ?_
      exact T_iret C.1 C.2.1 C.2.2 dX9_goOn_35
    · refine T_aload_n C.1 dX9_goOn_11 0 rfl ?_
      refine T_getR (x := 121) C.1 fd_X9_35 (fun _ _ _ _ => rfl) sh113 le113 (fun _ h => h) rfl (by decide) dX9_goOn_12 ?_
      refine T_iconst C.1 dX9_goOn_15 ?_
      refine T_iald C.1 dX9_goOn_16 sh121 le121 (fun j2 => ?_)
      refine T_istore_nN C.1 (fun v3 => [(2, .int v3), (0, .ref (cx.2.2.1 + 113)), (1, .int a1)]) dX9_goOn_17 (by decide) (fun _ => rfl) (fun v3 => ?_)
      refine T_aload_n C.1 dX9_goOn_18 1 rfl ?_
      refine T_iload_n C.1 dX9_goOn_19 0 rfl ?_
      refine T_aload_n C.1 dX9_goOn_20 1 rfl ?_
      refine T_iconst C.1 dX9_goOn_21 ?_
      refine T_callVI (rm := rm_X9_goTurn) [.int (iI 0)] [.int v3, .ref (cx.2.2.1 + 113)] C.1 dX9_goOn_22 mw_X9_goTurn wm_6_76 wm_6_78 wm_p_62 ⟨Nat.le_of_ble_eq_true rfl, Nat.le_of_ble_eq_true rfl⟩ ⟨rfl, rfl⟩ ⟨Nat.zero_le _, Nat.zero_le _⟩ rfl rfl (Nat.le_of_ble_eq_true rfl) sh113 le113 ⟨rfl, rfl⟩ (c_X9_goTurn ll cx (iI 0) m) (fun v4 m5 => ?_)
      refine T_callVV (rm := rm_X9_lead) [.int v3, .int v4] [] C.1 dX9_goOn_25 mw_X9_lead wm_6_56 wm_6_58 wm_p_59 ⟨Nat.le_of_ble_eq_true rfl, Nat.le_of_ble_eq_true rfl⟩ ⟨rfl, rfl⟩ ⟨Nat.zero_le _, Nat.zero_le _⟩ rfl rfl (Nat.le_of_ble_eq_true rfl) sh113 le113 ⟨rfl, rfl⟩ (c_X9_lead ll cx v3 v4 m5) (fun u6 m7 => ?_)
      refine T_iincN C.1 (fun v8 => [(1, .int v8), (2, .int v3), (0, .ref (cx.2.2.1 + 113))]) dX9_goOn_28 2 rfl (by decide) (fun _ => rfl) (fun v8 => ?_)
      refine T_goto (tgt := 2) C.1 dX9_goOn_31 (by decide) ?_
      exact T_sub [2, 0] rfl (ih v8 m7)
def F_X9_goOn   (m : Mm) : Option (Int32 × Mm) :=
  F_X9_goOn_2 FU (iI 0) m
set_option maxRecDepth 100000 in
set_option maxHeartbeats 4000000 in
theorem c_X9_goOn (ll : Launch) (cx : CX)  (m : Mm) : MT ll yX9_goOn cX9_goOn 3 ((some .int)) rm_X9_goOn cx NN NN Lay cvI 0 0 [.ref (cx.2.2.1 + 113)] m (F_X9_goOn  m) := by
  refine MT_of (by decide) (Nat.le_of_ble_eq_true rfl) ?_
  intro pp ee ss mm aa bb me co hK hr hk hn
  have C : CM pp ss mm aa me co cX9_goOn 3 RX9 cx ((some .int)) := ⟨hK, hr, hk⟩
  show TI pp ll ee rm_X9_goOn ss mm aa bb me co 3 cx 0 [(0, .ref (cx.2.2.1 + 113))] [] m (F_X9_goOn  m)
  unfold F_X9_goOn
  refine T_iconst C.1 dX9_goOn_0 ?_
  refine T_istore_n (lv' := [(1, .int (iI 0)), (0, .ref (cx.2.2.1 + 113))]) C.1 dX9_goOn_1 (by decide) rfl ?_
  exact T_sub [1, 0] rfl (t_X9_goOn_2 C FU (iI 0) m)
def rm_X9_again : Room := { frames := 3, cells := 0, slots := 0, locals := 88 }
def F_X9_again_66   (m : Mm) : Option (Int32 × Mm) :=
  rd 7 (iI 0) fun j1 =>
  bnd (F_X9_hasIn (iI 0) (gI m 117 j1) m) fun v2 m3 =>
  some (v2, m3)
set_option maxRecDepth 100000 in
set_option maxHeartbeats 4000000 in
theorem t_X9_again_66 {pp : Program} {ll : Launch} {ee : Env} {ss : State} {mm : MethodId} {aa : Array Value} {bb : List Frame} {me : Method} {co : Code} {cx : CX}     (C : CM pp ss mm aa me co cX9_again 2 RX9 cx ((some .int)))     (m : Mm) : TI pp ll ee rm_X9_again ss mm aa bb me co 2 cx 66 [(0, .ref (cx.2.2.1 + 113))] [] m (F_X9_again_66  m) := by
  unfold F_X9_again_66
  refine T_aload_n C.1 dX9_again_66 0 rfl ?_
  refine T_iconst C.1 dX9_again_67 ?_
  refine T_aload_n C.1 dX9_again_68 0 rfl ?_
  refine T_getR (x := 117) C.1 fd_X9_23 (fun _ _ _ _ => rfl) sh113 le113 (fun _ h => h) rfl (by decide) dX9_again_69 ?_
  refine T_iconst C.1 dX9_again_72 ?_
  refine T_iald C.1 dX9_again_73 sh117 le117 (fun j1 => ?_)
  refine T_callVI (rm := rm_X9_hasIn) [.int (iI 0), .int (gI m 117 j1)] [] C.1 dX9_again_74 mw_X9_hasIn wm_5_202 wm_5_204 wm_p_42 ⟨Nat.le_of_ble_eq_true rfl, Nat.le_of_ble_eq_true rfl⟩ ⟨rfl, rfl⟩ ⟨Nat.zero_le _, Nat.zero_le _⟩ rfl rfl (Nat.le_of_ble_eq_true rfl) sh113 le113 ⟨rfl, rfl⟩ (c_X9_hasIn ll cx (iI 0) (gI m 117 j1) m) (fun v2 m3 => ?_)
  exact T_iret C.1 C.2.1 C.2.2 dX9_again_77
def F_X9_again   (m : Mm) : Option (Int32 × Mm) :=
  (if (gI m 113 6) = iI 0 then
    some ((iI (-5)), m)
  else
    (if (gI m 113 16) = (iI 1) then
      some ((iI (-5)), m)
    else
      rd 2 (iI 0) fun j1 =>
      (if iI 0 ≤ (gI m 121 j1) then
        some ((iI (-5)), m)
      else
        (if (gI m 113 1) = iI 0 then
          some ((iI (-5)), m)
        else
          nm (pI m 113 16 (iI 1)) fun m2 =>
          bnd (F_X9_againChoice (iI 0) m2) fun v3 m4 =>
          (if v3 < iI 0 then
            F_X9_again_66 m4
          else
            bnd (F_X9_changeAt (iI 0) v3 m4) fun _ m6 =>
            rd 7 (iI 0) fun j7 =>
            bnd (F_X9_lead (gI m6 117 j7) v3 m6) fun _ m9 =>
            F_X9_again_66 m9)))))
set_option maxRecDepth 100000 in
set_option maxHeartbeats 4000000 in
theorem c_X9_again (ll : Launch) (cx : CX)  (m : Mm) : MT ll yX9_again cX9_again 2 ((some .int)) rm_X9_again cx NN NN Lay cvI 0 0 [.ref (cx.2.2.1 + 113)] m (F_X9_again  m) := by
  refine MT_of (by decide) (Nat.le_of_ble_eq_true rfl) ?_
  intro pp ee ss mm aa bb me co hK hr hk hn
  have C : CM pp ss mm aa me co cX9_again 2 RX9 cx ((some .int)) := ⟨hK, hr, hk⟩
  show TI pp ll ee rm_X9_again ss mm aa bb me co 2 cx 0 [(0, .ref (cx.2.2.1 + 113))] [] m (F_X9_again  m)
  unfold F_X9_again
  refine T_aload_n C.1 dX9_again_0 0 rfl ?_
  refine T_getI C.1 fd_X9_177 (fun _ _ _ _ => rfl) sh113 le113 dX9_again_1 ?_
  refine T_if_eq (tgt := 31) C.1 dX9_again_4 (by decide) ?_ ?_
  · refine T_bipush C.1 dX9_again_31 rfl ?_
    exact T_iret C.1 C.2.1 C.2.2 dX9_again_33
  · refine T_aload_n C.1 dX9_again_7 0 rfl ?_
    refine T_getI C.1 fd_X9_326 (fun _ _ _ _ => rfl) sh113 le113 dX9_again_8 ?_
    refine T_iconst C.1 dX9_again_11 ?_
    refine T_icmp_eq (tgt := 31) C.1 dX9_again_12 (by decide) ?_ ?_
    · refine T_bipush C.1 dX9_again_31 rfl ?_
      exact T_iret C.1 C.2.1 C.2.2 dX9_again_33
    · refine T_aload_n C.1 dX9_again_15 0 rfl ?_
      refine T_getR (x := 121) C.1 fd_X9_35 (fun _ _ _ _ => rfl) sh113 le113 (fun _ h => h) rfl (by decide) dX9_again_16 ?_
      refine T_iconst C.1 dX9_again_19 ?_
      refine T_iald C.1 dX9_again_20 sh121 le121 (fun j1 => ?_)
      refine T_if_ge (tgt := 31) C.1 dX9_again_21 (by decide) ?_ ?_
      · refine T_bipush C.1 dX9_again_31 rfl ?_
        exact T_iret C.1 C.2.1 C.2.2 dX9_again_33
      · refine T_aload_n C.1 dX9_again_24 0 rfl ?_
        refine T_getI C.1 fd_X9_155 (fun _ _ _ _ => rfl) sh113 le113 dX9_again_25 ?_
        refine T_if_ne (tgt := 34) C.1 dX9_again_28 (by decide) ?_ ?_
        · refine T_aload_n C.1 dX9_again_34 0 rfl ?_
          refine T_iconst C.1 dX9_again_35 ?_
          refine T_putI C.1 LyI_Lay fd_X9_326 sh113 le113 dX9_again_36 (fun m2 => ?_)
          refine T_aload_n C.1 dX9_again_39 0 rfl ?_
          refine T_iconst C.1 dX9_again_40 ?_
          refine T_callVI (rm := rm_X9_againChoice) [.int (iI 0)] [] C.1 dX9_again_41 mw_X9_againChoice wm_6_110 wm_6_112 wm_p_68 ⟨Nat.le_of_ble_eq_true rfl, Nat.le_of_ble_eq_true rfl⟩ ⟨rfl, rfl⟩ ⟨Nat.zero_le _, Nat.zero_le _⟩ rfl rfl (Nat.le_of_ble_eq_true rfl) sh113 le113 ⟨rfl, rfl⟩ (c_X9_againChoice ll cx (iI 0) m2) (fun v3 m4 => ?_)
          refine T_istore_n (lv' := [(1, .int v3), (0, .ref (cx.2.2.1 + 113))]) C.1 dX9_again_44 (by decide) rfl ?_
          refine T_iload_n C.1 dX9_again_45 0 rfl ?_
          refine T_if_lt (tgt := 66) C.1 dX9_again_46 (by decide) ?_ ?_
          · exact T_sub [1] rfl (t_X9_again_66 C m4)
          · refine T_aload_n C.1 dX9_again_49 1 rfl ?_
            refine T_iconst C.1 dX9_again_50 ?_
            refine T_iload_n C.1 dX9_again_51 0 rfl ?_
            refine T_callVV (rm := rm_X9_changeAt) [.int (iI 0), .int v3] [] C.1 dX9_again_52 mw_X9_changeAt wm_6_114 wm_6_116 wm_p_69 ⟨Nat.le_of_ble_eq_true rfl, Nat.le_of_ble_eq_true rfl⟩ ⟨rfl, rfl⟩ ⟨Nat.zero_le _, Nat.zero_le _⟩ rfl rfl (Nat.le_of_ble_eq_true rfl) sh113 le113 ⟨rfl, rfl⟩ (c_X9_changeAt ll cx (iI 0) v3 m4) (fun u5 m6 => ?_)
            refine T_aload_n C.1 dX9_again_55 1 rfl ?_
            refine T_aload_n C.1 dX9_again_56 1 rfl ?_
            refine T_getR (x := 117) C.1 fd_X9_23 (fun _ _ _ _ => rfl) sh113 le113 (fun _ h => h) rfl (by decide) dX9_again_57 ?_
            refine T_iconst C.1 dX9_again_60 ?_
            refine T_iald C.1 dX9_again_61 sh117 le117 (fun j7 => ?_)
            refine T_iload_n C.1 dX9_again_62 0 rfl ?_
            refine T_callVV (rm := rm_X9_lead) [.int (gI m6 117 j7), .int v3] [] C.1 dX9_again_63 mw_X9_lead wm_6_56 wm_6_58 wm_p_59 ⟨Nat.le_of_ble_eq_true rfl, Nat.le_of_ble_eq_true rfl⟩ ⟨rfl, rfl⟩ ⟨Nat.zero_le _, Nat.zero_le _⟩ rfl rfl (Nat.le_of_ble_eq_true rfl) sh113 le113 ⟨rfl, rfl⟩ (c_X9_lead ll cx (gI m6 117 j7) v3 m6) (fun u8 m9 => ?_)
            exact T_sub [1] rfl (t_X9_again_66 C m9)
        · refine T_bipush C.1 dX9_again_31 rfl ?_
          exact T_iret C.1 C.2.1 C.2.2 dX9_again_33
def rm_X9_anew : Room := { frames := 2, cells := 0, slots := 0, locals := 62 }
def F_X9_anew   (m : Mm) : Option (Int32 × Mm) :=
  bnd (F_X9_beginAt (iI 0) m) fun _ m2 =>
  nm (pI m2 113 15 (iI 0)) fun m3 =>
  nm (pI m3 113 16 (iI 0)) fun m4 =>
  some ((gI m4 113 1), m4)
set_option maxRecDepth 100000 in
set_option maxHeartbeats 4000000 in
theorem c_X9_anew (ll : Launch) (cx : CX)  (m : Mm) : MT ll yX9_anew cX9_anew 1 ((some .int)) rm_X9_anew cx NN NN Lay cvI 0 0 [.ref (cx.2.2.1 + 113)] m (F_X9_anew  m) := by
  refine MT_of (by decide) (Nat.le_of_ble_eq_true rfl) ?_
  intro pp ee ss mm aa bb me co hK hr hk hn
  have C : CM pp ss mm aa me co cX9_anew 1 RX9 cx ((some .int)) := ⟨hK, hr, hk⟩
  show TI pp ll ee rm_X9_anew ss mm aa bb me co 1 cx 0 [(0, .ref (cx.2.2.1 + 113))] [] m (F_X9_anew  m)
  unfold F_X9_anew
  refine T_aload_n C.1 dX9_anew_0 0 rfl ?_
  refine T_iconst C.1 dX9_anew_1 ?_
  refine T_callVV (rm := rm_X9_beginAt) [.int (iI 0)] [] C.1 dX9_anew_2 mw_X9_beginAt wm_5_152 wm_5_154 wm_p_36 ⟨Nat.le_of_ble_eq_true rfl, Nat.le_of_ble_eq_true rfl⟩ ⟨rfl, rfl⟩ ⟨Nat.zero_le _, Nat.zero_le _⟩ rfl rfl (Nat.le_of_ble_eq_true rfl) sh113 le113 ⟨rfl, rfl⟩ (c_X9_beginAt ll cx (iI 0) m) (fun u1 m2 => ?_)
  refine T_aload_n C.1 dX9_anew_5 0 rfl ?_
  refine T_iconst C.1 dX9_anew_6 ?_
  refine T_putI C.1 LyI_Lay fd_X9_166 sh113 le113 dX9_anew_7 (fun m3 => ?_)
  refine T_aload_n C.1 dX9_anew_10 0 rfl ?_
  refine T_iconst C.1 dX9_anew_11 ?_
  refine T_putI C.1 LyI_Lay fd_X9_326 sh113 le113 dX9_anew_12 (fun m4 => ?_)
  refine T_aload_n C.1 dX9_anew_15 0 rfl ?_
  refine T_getI C.1 fd_X9_155 (fun _ _ _ _ => rfl) sh113 le113 dX9_anew_16 ?_
  exact T_iret C.1 C.2.1 C.2.2 dX9_anew_19
def rm_X9_led : Room := { frames := 2, cells := 0, slots := 0, locals := 62 }
def F_X9_led  (x1 : Int32) (m : Mm) : Option (Int32 × Mm) :=
  bnd (F_X9_in x1 (iI 0) (iI 2) m) fun v1 m2 =>
  (if v1 = iI 0 then
    some ((iI (-1)), m2)
  else
    (if x1 = (iI 2) then
      some ((gI m2 113 19), m2)
    else
      (if (gI m2 113 19) = iI 0 then
        some ((iI (-5)), m2)
      else
        (if x1 = iI 0 then
          some ((gI m2 113 17), m2)
        else
          some ((gI m2 113 18), m2)))))
set_option maxRecDepth 100000 in
set_option maxHeartbeats 4000000 in
theorem c_X9_led (ll : Launch) (cx : CX) (x1 : Int32) (m : Mm) : MT ll yX9_led cX9_led 2 ((some .int)) rm_X9_led cx NN NN Lay cvI 0 0 [.ref (cx.2.2.1 + 113), .int x1] m (F_X9_led x1 m) := by
  refine MT_of (by decide) (Nat.le_of_ble_eq_true rfl) ?_
  intro pp ee ss mm aa bb me co hK hr hk hn
  have C : CM pp ss mm aa me co cX9_led 2 RX9 cx ((some .int)) := ⟨hK, hr, hk⟩
  show TI pp ll ee rm_X9_led ss mm aa bb me co 2 cx 0 [(0, .ref (cx.2.2.1 + 113)), (1, .int x1)] [] m (F_X9_led x1 m)
  unfold F_X9_led
  refine T_iload_n C.1 dX9_led_0 1 rfl ?_
  refine T_iconst C.1 dX9_led_1 ?_
  refine T_iconst C.1 dX9_led_2 ?_
  refine T_callSI (rm := rm_X9_in) [.int x1, .int (iI 0), .int (iI 2)] [] C.1 dX9_led_3 mw_X9_in wm_5_145 wm_5_146 ⟨Nat.le_of_ble_eq_true rfl, Nat.le_of_ble_eq_true rfl⟩ ⟨rfl, rfl⟩ ⟨Nat.zero_le _, Nat.zero_le _⟩ rfl rfl (Nat.le_of_ble_eq_true rfl) (c_X9_in ll cx x1 (iI 0) (iI 2) m) (fun v1 m2 => ?_)
  refine T_if_ne (tgt := 11) C.1 dX9_led_6 (by decide) ?_ ?_
  · refine T_iload_n C.1 dX9_led_11 1 rfl ?_
    refine T_iconst C.1 dX9_led_12 ?_
    refine T_icmp_ne (tgt := 21) C.1 dX9_led_13 (by decide) ?_ ?_
    · refine T_aload_n C.1 dX9_led_21 0 rfl ?_
      refine T_getI C.1 fd_X9_317 (fun _ _ _ _ => rfl) sh113 le113 dX9_led_22 ?_
      refine T_if_ne (tgt := 33) C.1 dX9_led_25 (by decide) ?_ ?_
      · refine T_iload_n C.1 dX9_led_33 1 rfl ?_
        refine T_if_ne (tgt := 44) C.1 dX9_led_34 (by decide) ?_ ?_
        · refine T_aload_n C.1 dX9_led_44 0 rfl ?_
          refine T_getI C.1 fd_X9_314 (fun _ _ _ _ => rfl) sh113 le113 dX9_led_45 ?_
          exact T_iret C.1 C.2.1 C.2.2 dX9_led_48
        · refine T_aload_n C.1 dX9_led_37 0 rfl ?_
          refine T_getI C.1 fd_X9_47 (fun _ _ _ _ => rfl) sh113 le113 dX9_led_38 ?_
          refine T_goto (tgt := 48) C.1 dX9_led_41 (by decide) ?_
          exact T_iret C.1 C.2.1 C.2.2 dX9_led_48
      · refine T_bipush C.1 dX9_led_28 rfl ?_
        refine T_goto (tgt := 48) C.1 dX9_led_30 (by decide) ?_
        exact T_iret C.1 C.2.1 C.2.2 dX9_led_48
    · refine T_aload_n C.1 dX9_led_16 0 rfl ?_
      refine T_getI C.1 fd_X9_317 (fun _ _ _ _ => rfl) sh113 le113 dX9_led_17 ?_
      exact T_iret C.1 C.2.1 C.2.2 dX9_led_20
  · refine T_iconst C.1 dX9_led_9 ?_
    exact T_iret C.1 C.2.1 C.2.2 dX9_led_10
def rm_X9_goEvening : Room := { frames := 7, cells := 0, slots := 0, locals := 184 }
def F_X9_goEvening_5  : Nat → Mm → Option (Unit × Mm)
  | 0, _ => none
  | f + 1, m =>
    rd 2 (iI 1) fun j1 =>
    (if (gI m 121 j1) < iI 0 then
      (if (gI m 113 6) = iI 0 then
        some ((), m)
      else
        (if (gI m 113 1) = iI 0 then
          some ((), m)
        else
          bnd (F_X9_againChoice (iI 1) m) fun v2 m3 =>
          (if v2 < iI 0 then
            some ((), m3)
          else
            bnd (F_X9_changeAt (iI 1) v2 m3) fun _ m5 =>
            some ((), m5))))
    else
      bnd (F_X9_goTurn (iI 1) m) fun v6 m7 =>
      F_X9_goEvening_5  f m7)
set_option maxRecDepth 100000 in
set_option maxHeartbeats 4000000 in
theorem t_X9_goEvening_5 {pp : Program} {ll : Launch} {ee : Env} {ss : State} {mm : MethodId} {aa : Array Value} {bb : List Frame} {me : Method} {co : Code} {cx : CX}     (C : CM pp ss mm aa me co cX9_goEvening 2 RX9 cx (none))    : ∀ (f : Nat)  (m : Mm), TV pp ll ee rm_X9_goEvening ss mm aa bb me co 2 cx 5 [(0, .ref (cx.2.2.1 + 113))] [] m (F_X9_goEvening_5  f m) := by
  intro f
  induction f with
  | zero => exact fun _ => T_none
  | succ f ih =>
    intro  m
    unfold F_X9_goEvening_5
    refine T_aload_n C.1 dX9_goEvening_5 0 rfl ?_
    refine T_getR (x := 121) C.1 fd_X9_35 (fun _ _ _ _ => rfl) sh113 le113 (fun _ h => h) rfl (by decide) dX9_goEvening_6 ?_
    refine T_iconst C.1 dX9_goEvening_9 ?_
    refine T_iald C.1 dX9_goEvening_10 sh121 le121 (fun j1 => ?_)
    refine T_if_lt (tgt := 23) C.1 dX9_goEvening_11 (by decide) ?_ ?_
    · refine T_aload_n C.1 dX9_goEvening_23 0 rfl ?_
      refine T_getI C.1 fd_X9_177 (fun _ _ _ _ => rfl) sh113 le113 dX9_goEvening_24 ?_
      refine T_if_eq (tgt := 37) C.1 dX9_goEvening_27 (by decide) ?_ ?_
      · exact T_vret C.1 C.2.1 C.2.2 dX9_goEvening_37
      · refine T_aload_n C.1 dX9_goEvening_30 0 rfl ?_
        refine T_getI C.1 fd_X9_155 (fun _ _ _ _ => rfl) sh113 le113 dX9_goEvening_31 ?_
        refine T_if_ne (tgt := 38) C.1 dX9_goEvening_34 (by decide) ?_ ?_
        · refine T_aload_n C.1 dX9_goEvening_38 0 rfl ?_
          refine T_iconst C.1 dX9_goEvening_39 ?_
          refine T_callVI (rm := rm_X9_againChoice) [.int (iI 1)] [] C.1 dX9_goEvening_40 mw_X9_againChoice wm_6_110 wm_6_112 wm_p_68 ⟨Nat.le_of_ble_eq_true rfl, Nat.le_of_ble_eq_true rfl⟩ ⟨rfl, rfl⟩ ⟨Nat.zero_le _, Nat.zero_le _⟩ rfl rfl (Nat.le_of_ble_eq_true rfl) sh113 le113 ⟨rfl, rfl⟩ (c_X9_againChoice ll cx (iI 1) m) (fun v2 m3 => ?_)
          refine T_istore_n (lv' := [(1, .int v2), (0, .ref (cx.2.2.1 + 113))]) C.1 dX9_goEvening_43 (by decide) rfl ?_
          refine T_iload_n C.1 dX9_goEvening_44 0 rfl ?_
          refine T_if_lt (tgt := 54) C.1 dX9_goEvening_45 (by decide) ?_ ?_
          · exact T_vret C.1 C.2.1 C.2.2 dX9_goEvening_54
          · refine T_aload_n C.1 dX9_goEvening_48 1 rfl ?_
            refine T_iconst C.1 dX9_goEvening_49 ?_
            refine T_iload_n C.1 dX9_goEvening_50 0 rfl ?_
            refine T_callVV (rm := rm_X9_changeAt) [.int (iI 1), .int v2] [] C.1 dX9_goEvening_51 mw_X9_changeAt wm_6_114 wm_6_116 wm_p_69 ⟨Nat.le_of_ble_eq_true rfl, Nat.le_of_ble_eq_true rfl⟩ ⟨rfl, rfl⟩ ⟨Nat.zero_le _, Nat.zero_le _⟩ rfl rfl (Nat.le_of_ble_eq_true rfl) sh113 le113 ⟨rfl, rfl⟩ (c_X9_changeAt ll cx (iI 1) v2 m3) (fun u4 m5 => ?_)
            exact T_vret C.1 C.2.1 C.2.2 dX9_goEvening_54
        · exact T_vret C.1 C.2.1 C.2.2 dX9_goEvening_37
    · refine T_aload_n C.1 dX9_goEvening_14 0 rfl ?_
      refine T_iconst C.1 dX9_goEvening_15 ?_
      refine T_callVI (rm := rm_X9_goTurn) [.int (iI 1)] [] C.1 dX9_goEvening_16 mw_X9_goTurn wm_6_76 wm_6_78 wm_p_62 ⟨Nat.le_of_ble_eq_true rfl, Nat.le_of_ble_eq_true rfl⟩ ⟨rfl, rfl⟩ ⟨Nat.zero_le _, Nat.zero_le _⟩ rfl rfl (Nat.le_of_ble_eq_true rfl) sh113 le113 ⟨rfl, rfl⟩ (c_X9_goTurn ll cx (iI 1) m) (fun v6 m7 => ?_)
      refine T_pop C.1 dX9_goEvening_19 rfl ?_
      refine T_goto (tgt := 5) C.1 dX9_goEvening_20 (by decide) ?_
      exact T_sub [0] rfl (ih m7)
def F_X9_goEvening   (m : Mm) : Option (Unit × Mm) :=
  bnd (F_X9_beginAt (iI 1) m) fun _ m2 =>
  F_X9_goEvening_5 FU m2
set_option maxRecDepth 100000 in
set_option maxHeartbeats 4000000 in
theorem c_X9_goEvening (ll : Launch) (cx : CX)  (m : Mm) : MT ll yX9_goEvening cX9_goEvening 2 (none) rm_X9_goEvening cx NN NN Lay cvV 0 0 [.ref (cx.2.2.1 + 113)] m (F_X9_goEvening  m) := by
  refine MT_of (by decide) (Nat.le_of_ble_eq_true rfl) ?_
  intro pp ee ss mm aa bb me co hK hr hk hn
  have C : CM pp ss mm aa me co cX9_goEvening 2 RX9 cx (none) := ⟨hK, hr, hk⟩
  show TV pp ll ee rm_X9_goEvening ss mm aa bb me co 2 cx 0 [(0, .ref (cx.2.2.1 + 113))] [] m (F_X9_goEvening  m)
  unfold F_X9_goEvening
  refine T_aload_n C.1 dX9_goEvening_0 0 rfl ?_
  refine T_iconst C.1 dX9_goEvening_1 ?_
  refine T_callVV (rm := rm_X9_beginAt) [.int (iI 1)] [] C.1 dX9_goEvening_2 mw_X9_beginAt wm_5_152 wm_5_154 wm_p_36 ⟨Nat.le_of_ble_eq_true rfl, Nat.le_of_ble_eq_true rfl⟩ ⟨rfl, rfl⟩ ⟨Nat.zero_le _, Nat.zero_le _⟩ rfl rfl (Nat.le_of_ble_eq_true rfl) sh113 le113 ⟨rfl, rfl⟩ (c_X9_beginAt ll cx (iI 1) m) (fun u1 m2 => ?_)
  exact T_sub [0] rfl (t_X9_goEvening_5 C FU m2)
def rm_X9_evening : Room := { frames := 8, cells := 0, slots := 0, locals := 205 }
def F_X9_evening_83  : Nat → Int32 → Int32 → Mm → Option (Int32 × Mm)
  | 0, _, _, _ => none
  | f + 1, a1, a2, m =>
    (if (gI m 113 1) ≤ a2 then
      some (a1, m)
    else
      rd 14 ((iI 7) + a2) fun j1 =>
      rd 49 (((iI 7) * (gI m 118 j1)) + a2) fun j2 =>
      nm (a1 + (gI m 114 j2)) fun v3 =>
      nm (a2 + (iI 1)) fun v4 =>
      F_X9_evening_83  f v3 v4 m)
set_option maxRecDepth 100000 in
set_option maxHeartbeats 4000000 in
theorem t_X9_evening_83 {pp : Program} {ll : Launch} {ee : Env} {ss : State} {mm : MethodId} {aa : Array Value} {bb : List Frame} {me : Method} {co : Code} {cx : CX}     (C : CM pp ss mm aa me co cX9_evening 5 RX9 cx ((some .int)))    : ∀ (f : Nat) (a1 : Int32) (a2 : Int32) (m : Mm), TI pp ll ee rm_X9_evening ss mm aa bb me co 5 cx 83 [(0, .ref (cx.2.2.1 + 113)), (3, .int a1), (4, .int a2)] [] m (F_X9_evening_83  f a1 a2 m) := by
  intro f
  induction f with
  | zero => exact fun _ _ _ => T_none
  | succ f ih =>
    intro a1 a2 m
    unfold F_X9_evening_83
    refine T_iload C.1 dX9_evening_83 2 rfl ?_
    refine T_aload_n C.1 dX9_evening_85 0 rfl ?_
    refine T_getI C.1 fd_X9_155 (fun _ _ _ _ => rfl) sh113 le113 dX9_evening_86 ?_
    refine T_icmp_ge (tgt := 122) C.1 dX9_evening_89 (by decide) ?_ ?_
    · refine T_iload_n C.1 dX9_evening_122 1 rfl ?_
      exact T_iret C.1 C.2.1 C.2.2 dX9_evening_123
    · refine T_iload_n C.1 dX9_evening_92 1 rfl ?_
      refine T_aload_n C.1 dX9_evening_93 0 rfl ?_
      refine T_getR (x := 114) C.1 fd_X9_7 (fun _ _ _ _ => rfl) sh113 le113 (fun _ h => h) rfl (by decide) dX9_evening_94 ?_
      refine T_bipush C.1 dX9_evening_97 rfl ?_
      refine T_aload_n C.1 dX9_evening_99 0 rfl ?_
      refine T_getR (x := 118) C.1 fd_X9_26 (fun _ _ _ _ => rfl) sh113 le113 (fun _ h => h) rfl (by decide) dX9_evening_100 ?_
      refine T_bipush C.1 dX9_evening_103 rfl ?_
      refine T_iload C.1 dX9_evening_105 2 rfl ?_
      refine T_iadd C.1 dX9_evening_107 ?_
      refine T_iald C.1 dX9_evening_108 sh118 le118 (fun j1 => ?_)
      refine T_imul C.1 dX9_evening_109 ?_
      refine T_iload C.1 dX9_evening_110 2 rfl ?_
      refine T_iadd C.1 dX9_evening_112 ?_
      refine T_iald C.1 dX9_evening_113 sh114 le114 (fun j2 => ?_)
      refine T_iadd C.1 dX9_evening_114 ?_
      refine T_istore_nN C.1 (fun v3 => [(3, .int v3), (0, .ref (cx.2.2.1 + 113)), (4, .int a2)]) dX9_evening_115 (by decide) (fun _ => rfl) (fun v3 => ?_)
      refine T_iincN C.1 (fun v4 => [(4, .int v4), (3, .int v3), (0, .ref (cx.2.2.1 + 113))]) dX9_evening_116 2 rfl (by decide) (fun _ => rfl) (fun v4 => ?_)
      refine T_goto (tgt := 83) C.1 dX9_evening_119 (by decide) ?_
      exact T_sub [2, 1, 0] rfl (ih v3 v4 m)
def F_X9_evening_36  (a1 : Int32) (a2 : Int32) (m : Mm) : Option (Int32 × Mm) :=
  bnd (F_X9_goEvening m) fun _ m2 =>
  (if a2 = iI 0 then
    bnd (F_X9_hasIn (iI 1) a1 m2) fun v5 m6 =>
    some (v5, m6)
  else
    (if a2 = (iI 1) then
      rd 2 (iI 1) fun j4 =>
      some ((gI m2 124 j4), m2)
    else
      (if a2 = (iI 3) then
        rd 14 ((iI 7) + a1) fun j3 =>
        some ((gI m2 119 j3), m2)
      else
        F_X9_evening_83 FU (iI 0) (iI 0) m2)))
set_option maxRecDepth 100000 in
set_option maxHeartbeats 4000000 in
theorem t_X9_evening_36 {pp : Program} {ll : Launch} {ee : Env} {ss : State} {mm : MethodId} {aa : Array Value} {bb : List Frame} {me : Method} {co : Code} {cx : CX}     (C : CM pp ss mm aa me co cX9_evening 5 RX9 cx ((some .int)))    (a1 : Int32) (a2 : Int32) (m : Mm) : TI pp ll ee rm_X9_evening ss mm aa bb me co 5 cx 36 [(0, .ref (cx.2.2.1 + 113)), (1, .int a1), (2, .int a2)] [] m (F_X9_evening_36  a1 a2 m) := by
  unfold F_X9_evening_36
  refine T_aload_n C.1 dX9_evening_36 0 rfl ?_
  refine T_callVV (rm := rm_X9_goEvening) [] [] C.1 dX9_evening_37 mw_X9_goEvening wm_6_130 wm_6_132 wm_p_70 ⟨Nat.le_of_ble_eq_true rfl, Nat.le_of_ble_eq_true rfl⟩ ⟨rfl, rfl⟩ ⟨Nat.zero_le _, Nat.zero_le _⟩ rfl rfl (Nat.le_of_ble_eq_true rfl) sh113 le113 ⟨rfl, rfl⟩ (c_X9_goEvening ll cx m) (fun u1 m2 => ?_)
  refine T_iload_n C.1 dX9_evening_40 2 rfl ?_
  refine T_if_ne (tgt := 51) C.1 dX9_evening_41 (by decide) ?_ ?_
  · refine T_iload_n C.1 dX9_evening_51 2 rfl ?_
    refine T_iconst C.1 dX9_evening_52 ?_
    refine T_icmp_ne (tgt := 63) C.1 dX9_evening_53 (by decide) ?_ ?_
    · refine T_iload_n C.1 dX9_evening_63 2 rfl ?_
      refine T_iconst C.1 dX9_evening_64 ?_
      refine T_icmp_ne (tgt := 78) C.1 dX9_evening_65 (by decide) ?_ ?_
      · refine T_iconst C.1 dX9_evening_78 ?_
        refine T_istore_n (lv' := [(3, .int (iI 0)), (0, .ref (cx.2.2.1 + 113)), (1, .int a1), (2, .int a2)]) C.1 dX9_evening_79 (by decide) rfl ?_
        refine T_iconst C.1 dX9_evening_80 ?_
        refine T_istore (lv' := [(4, .int (iI 0)), (3, .int (iI 0)), (0, .ref (cx.2.2.1 + 113)), (1, .int a1), (2, .int a2)]) C.1 dX9_evening_81 (by decide) rfl ?_
        exact T_sub [2, 1, 0] rfl (t_X9_evening_83 C FU (iI 0) (iI 0) m2)
      · refine T_aload_n C.1 dX9_evening_68 0 rfl ?_
        refine T_getR (x := 119) C.1 fd_X9_29 (fun _ _ _ _ => rfl) sh113 le113 (fun _ h => h) rfl (by decide) dX9_evening_69 ?_
        refine T_bipush C.1 dX9_evening_72 rfl ?_
        refine T_iload_n C.1 dX9_evening_74 1 rfl ?_
        refine T_iadd C.1 dX9_evening_75 ?_
        refine T_iald C.1 dX9_evening_76 sh119 le119 (fun j3 => ?_)
        exact T_iret C.1 C.2.1 C.2.2 dX9_evening_77
    · refine T_aload_n C.1 dX9_evening_56 0 rfl ?_
      refine T_getR (x := 124) C.1 fd_X9_44 (fun _ _ _ _ => rfl) sh113 le113 (fun _ h => h) rfl (by decide) dX9_evening_57 ?_
      refine T_iconst C.1 dX9_evening_60 ?_
      refine T_iald C.1 dX9_evening_61 sh124 le124 (fun j4 => ?_)
      exact T_iret C.1 C.2.1 C.2.2 dX9_evening_62
  · refine T_aload_n C.1 dX9_evening_44 0 rfl ?_
    refine T_iconst C.1 dX9_evening_45 ?_
    refine T_iload_n C.1 dX9_evening_46 1 rfl ?_
    refine T_callVI (rm := rm_X9_hasIn) [.int (iI 1), .int a1] [] C.1 dX9_evening_47 mw_X9_hasIn wm_5_202 wm_5_204 wm_p_42 ⟨Nat.le_of_ble_eq_true rfl, Nat.le_of_ble_eq_true rfl⟩ ⟨rfl, rfl⟩ ⟨Nat.zero_le _, Nat.zero_le _⟩ rfl rfl (Nat.le_of_ble_eq_true rfl) sh113 le113 ⟨rfl, rfl⟩ (c_X9_hasIn ll cx (iI 1) a1 m2) (fun v5 m6 => ?_)
    exact T_iret C.1 C.2.1 C.2.2 dX9_evening_50
def F_X9_evening_19  (a1 : Int32) (a2 : Int32) (m : Mm) : Option (Int32 × Mm) :=
  (if a1 = iI 0 then
    F_X9_evening_36 a1 a2 m
  else
    some ((iI (-1)), m))
set_option maxRecDepth 100000 in
set_option maxHeartbeats 4000000 in
theorem t_X9_evening_19 {pp : Program} {ll : Launch} {ee : Env} {ss : State} {mm : MethodId} {aa : Array Value} {bb : List Frame} {me : Method} {co : Code} {cx : CX}     (C : CM pp ss mm aa me co cX9_evening 5 RX9 cx ((some .int)))    (a1 : Int32) (a2 : Int32) (m : Mm) : TI pp ll ee rm_X9_evening ss mm aa bb me co 5 cx 19 [(0, .ref (cx.2.2.1 + 113)), (1, .int a1), (2, .int a2)] [] m (F_X9_evening_19  a1 a2 m) := by
  unfold F_X9_evening_19
  refine T_iload_n C.1 dX9_evening_19 1 rfl ?_
  refine T_if_eq (tgt := 36) C.1 dX9_evening_20 (by decide) ?_ ?_
  · exact T_sub [0, 1, 2] rfl (t_X9_evening_36 C a1 a2 m)
  · refine T_goto (tgt := 34) C.1 dX9_evening_23 (by decide) ?_
    refine T_iconst C.1 dX9_evening_34 ?_
    exact T_iret C.1 C.2.1 C.2.2 dX9_evening_35
def F_X9_evening  (x1 : Int32) (x2 : Int32) (m : Mm) : Option (Int32 × Mm) :=
  bnd (F_X9_in x2 (iI 0) (iI 3) m) fun v1 m2 =>
  (if v1 = iI 0 then
    some ((iI (-1)), m2)
  else
    (if x2 = (iI 1) then
      F_X9_evening_19 x1 x2 m2
    else
      (if x2 = (iI 2) then
        F_X9_evening_19 x1 x2 m2
      else
        bnd (F_X9_isPerson x1 m2) fun v3 m4 =>
        (if v3 = iI 0 then
          some ((iI (-1)), m4)
        else
          F_X9_evening_36 x1 x2 m4))))
set_option maxRecDepth 100000 in
set_option maxHeartbeats 4000000 in
theorem c_X9_evening (ll : Launch) (cx : CX) (x1 : Int32) (x2 : Int32) (m : Mm) : MT ll yX9_evening cX9_evening 5 ((some .int)) rm_X9_evening cx NN NN Lay cvI 0 0 [.ref (cx.2.2.1 + 113), .int x1, .int x2] m (F_X9_evening x1 x2 m) := by
  refine MT_of (by decide) (Nat.le_of_ble_eq_true rfl) ?_
  intro pp ee ss mm aa bb me co hK hr hk hn
  have C : CM pp ss mm aa me co cX9_evening 5 RX9 cx ((some .int)) := ⟨hK, hr, hk⟩
  show TI pp ll ee rm_X9_evening ss mm aa bb me co 5 cx 0 [(0, .ref (cx.2.2.1 + 113)), (1, .int x1), (2, .int x2)] [] m (F_X9_evening x1 x2 m)
  unfold F_X9_evening
  refine T_iload_n C.1 dX9_evening_0 2 rfl ?_
  refine T_iconst C.1 dX9_evening_1 ?_
  refine T_iconst C.1 dX9_evening_2 ?_
  refine T_callSI (rm := rm_X9_in) [.int x2, .int (iI 0), .int (iI 3)] [] C.1 dX9_evening_3 mw_X9_in wm_5_145 wm_5_146 ⟨Nat.le_of_ble_eq_true rfl, Nat.le_of_ble_eq_true rfl⟩ ⟨rfl, rfl⟩ ⟨Nat.zero_le _, Nat.zero_le _⟩ rfl rfl (Nat.le_of_ble_eq_true rfl) (c_X9_in ll cx x2 (iI 0) (iI 3) m) (fun v1 m2 => ?_)
  refine T_if_eq (tgt := 34) C.1 dX9_evening_6 (by decide) ?_ ?_
  · refine T_iconst C.1 dX9_evening_34 ?_
    exact T_iret C.1 C.2.1 C.2.2 dX9_evening_35
  · refine T_iload_n C.1 dX9_evening_9 2 rfl ?_
    refine T_iconst C.1 dX9_evening_10 ?_
    refine T_icmp_eq (tgt := 19) C.1 dX9_evening_11 (by decide) ?_ ?_
    · exact T_sub [0, 1, 2] rfl (t_X9_evening_19 C x1 x2 m2)
    · refine T_iload_n C.1 dX9_evening_14 2 rfl ?_
      refine T_iconst C.1 dX9_evening_15 ?_
      refine T_icmp_ne (tgt := 26) C.1 dX9_evening_16 (by decide) ?_ ?_
      · refine T_aload_n C.1 dX9_evening_26 0 rfl ?_
        refine T_iload_n C.1 dX9_evening_27 1 rfl ?_
        refine T_callVI (rm := rm_X9_isPerson) [.int x1] [] C.1 dX9_evening_28 mw_X9_isPerson wm_5_183 wm_5_185 wm_p_39 ⟨Nat.le_of_ble_eq_true rfl, Nat.le_of_ble_eq_true rfl⟩ ⟨rfl, rfl⟩ ⟨Nat.zero_le _, Nat.zero_le _⟩ rfl rfl (Nat.le_of_ble_eq_true rfl) sh113 le113 ⟨rfl, rfl⟩ (c_X9_isPerson ll cx x1 m2) (fun v3 m4 => ?_)
        refine T_if_ne (tgt := 36) C.1 dX9_evening_31 (by decide) ?_ ?_
        · exact T_sub [0, 1, 2] rfl (t_X9_evening_36 C x1 x2 m4)
        · refine T_iconst C.1 dX9_evening_34 ?_
          exact T_iret C.1 C.2.1 C.2.2 dX9_evening_35
      · exact T_sub [0, 1, 2] rfl (t_X9_evening_19 C x1 x2 m2)
def rm_X9_keepAt : Room := { frames := 1, cells := 0, slots := 0, locals := 40 }
def F_X9_keepAt_2  : Nat → Int32 → Int32 → Mm → Option (Unit × Mm)
  | 0, _, _, _ => none
  | f + 1, a1, a2, m =>
    (if (gI m 113 1) ≤ a2 then
      rd 2 (iI 1) fun j1 =>
      wrI 60 m 139 ((iI 5) * a1) (gI m 120 j1) fun m2 =>
      rd 2 (iI 1) fun j3 =>
      wrI 60 m2 139 (((iI 5) * a1) + (iI 1)) (gI m2 121 j3) fun m4 =>
      rd 2 (iI 1) fun j5 =>
      wrI 60 m4 139 (((iI 5) * a1) + (iI 2)) (gI m4 122 j5) fun m6 =>
      rd 2 (iI 1) fun j7 =>
      wrI 60 m6 139 (((iI 5) * a1) + (iI 3)) (gI m6 123 j7) fun m8 =>
      rd 2 (iI 1) fun j9 =>
      wrI 60 m8 139 (((iI 5) * a1) + (iI 4)) (gI m8 124 j9) fun m10 =>
      some ((), m10)
    else
      rd 14 ((iI 7) + a2) fun j11 =>
      wrI 36 m 137 (((iI 3) * a1) + a2) (gI m 118 j11) fun m12 =>
      rd 14 ((iI 7) + a2) fun j13 =>
      wrI 36 m12 138 (((iI 3) * a1) + a2) (gI m12 119 j13) fun m14 =>
      nm (a2 + (iI 1)) fun v15 =>
      F_X9_keepAt_2  f a1 v15 m14)
set_option maxRecDepth 100000 in
set_option maxHeartbeats 4000000 in
theorem t_X9_keepAt_2 {pp : Program} {ll : Launch} {ee : Env} {ss : State} {mm : MethodId} {aa : Array Value} {bb : List Frame} {me : Method} {co : Code} {cx : CX}     (C : CM pp ss mm aa me co cX9_keepAt 3 RX9 cx (none))    : ∀ (f : Nat) (a1 : Int32) (a2 : Int32) (m : Mm), TV pp ll ee rm_X9_keepAt ss mm aa bb me co 3 cx 2 [(0, .ref (cx.2.2.1 + 113)), (1, .int a1), (2, .int a2)] [] m (F_X9_keepAt_2  f a1 a2 m) := by
  intro f
  induction f with
  | zero => exact fun _ _ _ => T_none
  | succ f ih =>
    intro a1 a2 m
    unfold F_X9_keepAt_2
    refine T_iload_n C.1 dX9_keepAt_2 2 rfl ?_
    refine T_aload_n C.1 dX9_keepAt_3 0 rfl ?_
    refine T_getI C.1 fd_X9_155 (fun _ _ _ _ => rfl) sh113 le113 dX9_keepAt_4 ?_
    refine T_icmp_ge (tgt := 54) C.1 dX9_keepAt_7 (by decide) ?_ ?_
    · refine T_aload_n C.1 dX9_keepAt_54 0 rfl ?_
      refine T_getR (x := 139) C.1 fd_X9_94 (fun _ _ _ _ => rfl) sh113 le113 (fun _ h => h) rfl (by decide) dX9_keepAt_55 ?_
      refine T_iconst C.1 dX9_keepAt_58 ?_
      refine T_iload_n C.1 dX9_keepAt_59 1 rfl ?_
      refine T_imul C.1 dX9_keepAt_60 ?_
      refine T_aload_n C.1 dX9_keepAt_61 0 rfl ?_
      refine T_getR (x := 120) C.1 fd_X9_32 (fun _ _ _ _ => rfl) sh113 le113 (fun _ h => h) rfl (by decide) dX9_keepAt_62 ?_
      refine T_iconst C.1 dX9_keepAt_65 ?_
      refine T_iald C.1 dX9_keepAt_66 sh120 le120 (fun j1 => ?_)
      refine T_iast C.1 LyI_Lay sh139 le139 dX9_keepAt_67 (fun m2 => ?_)
      refine T_aload_n C.1 dX9_keepAt_68 0 rfl ?_
      refine T_getR (x := 139) C.1 fd_X9_94 (fun _ _ _ _ => rfl) sh113 le113 (fun _ h => h) rfl (by decide) dX9_keepAt_69 ?_
      refine T_iconst C.1 dX9_keepAt_72 ?_
      refine T_iload_n C.1 dX9_keepAt_73 1 rfl ?_
      refine T_imul C.1 dX9_keepAt_74 ?_
      refine T_iconst C.1 dX9_keepAt_75 ?_
      refine T_iadd C.1 dX9_keepAt_76 ?_
      refine T_aload_n C.1 dX9_keepAt_77 0 rfl ?_
      refine T_getR (x := 121) C.1 fd_X9_35 (fun _ _ _ _ => rfl) sh113 le113 (fun _ h => h) rfl (by decide) dX9_keepAt_78 ?_
      refine T_iconst C.1 dX9_keepAt_81 ?_
      refine T_iald C.1 dX9_keepAt_82 sh121 le121 (fun j3 => ?_)
      refine T_iast C.1 LyI_Lay sh139 le139 dX9_keepAt_83 (fun m4 => ?_)
      refine T_aload_n C.1 dX9_keepAt_84 0 rfl ?_
      refine T_getR (x := 139) C.1 fd_X9_94 (fun _ _ _ _ => rfl) sh113 le113 (fun _ h => h) rfl (by decide) dX9_keepAt_85 ?_
      refine T_iconst C.1 dX9_keepAt_88 ?_
      refine T_iload_n C.1 dX9_keepAt_89 1 rfl ?_
      refine T_imul C.1 dX9_keepAt_90 ?_
      refine T_iconst C.1 dX9_keepAt_91 ?_
      refine T_iadd C.1 dX9_keepAt_92 ?_
      refine T_aload_n C.1 dX9_keepAt_93 0 rfl ?_
      refine T_getR (x := 122) C.1 fd_X9_38 (fun _ _ _ _ => rfl) sh113 le113 (fun _ h => h) rfl (by decide) dX9_keepAt_94 ?_
      refine T_iconst C.1 dX9_keepAt_97 ?_
      refine T_iald C.1 dX9_keepAt_98 sh122 le122 (fun j5 => ?_)
      refine T_iast C.1 LyI_Lay sh139 le139 dX9_keepAt_99 (fun m6 => ?_)
      refine T_aload_n C.1 dX9_keepAt_100 0 rfl ?_
      refine T_getR (x := 139) C.1 fd_X9_94 (fun _ _ _ _ => rfl) sh113 le113 (fun _ h => h) rfl (by decide) dX9_keepAt_101 ?_
      refine T_iconst C.1 dX9_keepAt_104 ?_
      refine T_iload_n C.1 dX9_keepAt_105 1 rfl ?_
      refine T_imul C.1 dX9_keepAt_106 ?_
      refine T_iconst C.1 dX9_keepAt_107 ?_
      refine T_iadd C.1 dX9_keepAt_108 ?_
      refine T_aload_n C.1 dX9_keepAt_109 0 rfl ?_
      refine T_getR (x := 123) C.1 fd_X9_41 (fun _ _ _ _ => rfl) sh113 le113 (fun _ h => h) rfl (by decide) dX9_keepAt_110 ?_
      refine T_iconst C.1 dX9_keepAt_113 ?_
      refine T_iald C.1 dX9_keepAt_114 sh123 le123 (fun j7 => ?_)
      refine T_iast C.1 LyI_Lay sh139 le139 dX9_keepAt_115 (fun m8 => ?_)
      refine T_aload_n C.1 dX9_keepAt_116 0 rfl ?_
      refine T_getR (x := 139) C.1 fd_X9_94 (fun _ _ _ _ => rfl) sh113 le113 (fun _ h => h) rfl (by decide) dX9_keepAt_117 ?_
      refine T_iconst C.1 dX9_keepAt_120 ?_
      refine T_iload_n C.1 dX9_keepAt_121 1 rfl ?_
      refine T_imul C.1 dX9_keepAt_122 ?_
      refine T_iconst C.1 dX9_keepAt_123 ?_
      refine T_iadd C.1 dX9_keepAt_124 ?_
      refine T_aload_n C.1 dX9_keepAt_125 0 rfl ?_
      refine T_getR (x := 124) C.1 fd_X9_44 (fun _ _ _ _ => rfl) sh113 le113 (fun _ h => h) rfl (by decide) dX9_keepAt_126 ?_
      refine T_iconst C.1 dX9_keepAt_129 ?_
      refine T_iald C.1 dX9_keepAt_130 sh124 le124 (fun j9 => ?_)
      refine T_iast C.1 LyI_Lay sh139 le139 dX9_keepAt_131 (fun m10 => ?_)
      exact T_vret C.1 C.2.1 C.2.2 dX9_keepAt_132
    · refine T_aload_n C.1 dX9_keepAt_10 0 rfl ?_
      refine T_getR (x := 137) C.1 fd_X9_88 (fun _ _ _ _ => rfl) sh113 le113 (fun _ h => h) rfl (by decide) dX9_keepAt_11 ?_
      refine T_iconst C.1 dX9_keepAt_14 ?_
      refine T_iload_n C.1 dX9_keepAt_15 1 rfl ?_
      refine T_imul C.1 dX9_keepAt_16 ?_
      refine T_iload_n C.1 dX9_keepAt_17 2 rfl ?_
      refine T_iadd C.1 dX9_keepAt_18 ?_
      refine T_aload_n C.1 dX9_keepAt_19 0 rfl ?_
      refine T_getR (x := 118) C.1 fd_X9_26 (fun _ _ _ _ => rfl) sh113 le113 (fun _ h => h) rfl (by decide) dX9_keepAt_20 ?_
      refine T_bipush C.1 dX9_keepAt_23 rfl ?_
      refine T_iload_n C.1 dX9_keepAt_25 2 rfl ?_
      refine T_iadd C.1 dX9_keepAt_26 ?_
      refine T_iald C.1 dX9_keepAt_27 sh118 le118 (fun j11 => ?_)
      refine T_iast C.1 LyI_Lay sh137 le137 dX9_keepAt_28 (fun m12 => ?_)
      refine T_aload_n C.1 dX9_keepAt_29 0 rfl ?_
      refine T_getR (x := 138) C.1 fd_X9_91 (fun _ _ _ _ => rfl) sh113 le113 (fun _ h => h) rfl (by decide) dX9_keepAt_30 ?_
      refine T_iconst C.1 dX9_keepAt_33 ?_
      refine T_iload_n C.1 dX9_keepAt_34 1 rfl ?_
      refine T_imul C.1 dX9_keepAt_35 ?_
      refine T_iload_n C.1 dX9_keepAt_36 2 rfl ?_
      refine T_iadd C.1 dX9_keepAt_37 ?_
      refine T_aload_n C.1 dX9_keepAt_38 0 rfl ?_
      refine T_getR (x := 119) C.1 fd_X9_29 (fun _ _ _ _ => rfl) sh113 le113 (fun _ h => h) rfl (by decide) dX9_keepAt_39 ?_
      refine T_bipush C.1 dX9_keepAt_42 rfl ?_
      refine T_iload_n C.1 dX9_keepAt_44 2 rfl ?_
      refine T_iadd C.1 dX9_keepAt_45 ?_
      refine T_iald C.1 dX9_keepAt_46 sh119 le119 (fun j13 => ?_)
      refine T_iast C.1 LyI_Lay sh138 le138 dX9_keepAt_47 (fun m14 => ?_)
      refine T_iincN C.1 (fun v15 => [(2, .int v15), (0, .ref (cx.2.2.1 + 113)), (1, .int a1)]) dX9_keepAt_48 2 rfl (by decide) (fun _ => rfl) (fun v15 => ?_)
      refine T_goto (tgt := 2) C.1 dX9_keepAt_51 (by decide) ?_
      exact T_sub [1, 2, 0] rfl (ih a1 v15 m14)
def F_X9_keepAt  (x1 : Int32) (m : Mm) : Option (Unit × Mm) :=
  F_X9_keepAt_2 FU x1 (iI 0) m
set_option maxRecDepth 100000 in
set_option maxHeartbeats 4000000 in
theorem c_X9_keepAt (ll : Launch) (cx : CX) (x1 : Int32) (m : Mm) : MT ll yX9_keepAt cX9_keepAt 3 (none) rm_X9_keepAt cx NN NN Lay cvV 0 0 [.ref (cx.2.2.1 + 113), .int x1] m (F_X9_keepAt x1 m) := by
  refine MT_of (by decide) (Nat.le_of_ble_eq_true rfl) ?_
  intro pp ee ss mm aa bb me co hK hr hk hn
  have C : CM pp ss mm aa me co cX9_keepAt 3 RX9 cx (none) := ⟨hK, hr, hk⟩
  show TV pp ll ee rm_X9_keepAt ss mm aa bb me co 3 cx 0 [(0, .ref (cx.2.2.1 + 113)), (1, .int x1)] [] m (F_X9_keepAt x1 m)
  unfold F_X9_keepAt
  refine T_iconst C.1 dX9_keepAt_0 ?_
  refine T_istore_n (lv' := [(2, .int (iI 0)), (0, .ref (cx.2.2.1 + 113)), (1, .int x1)]) C.1 dX9_keepAt_1 (by decide) rfl ?_
  exact T_sub [1, 2, 0] rfl (t_X9_keepAt_2 C FU x1 (iI 0) m)
def rm_X9_layAt : Room := { frames := 1, cells := 0, slots := 0, locals := 40 }
def F_X9_layAt_2  : Nat → Int32 → Int32 → Mm → Option (Unit × Mm)
  | 0, _, _, _ => none
  | f + 1, a1, a2, m =>
    (if (gI m 113 1) ≤ a2 then
      rd 60 ((iI 5) * a1) fun j1 =>
      wrI 2 m 120 (iI 1) (gI m 139 j1) fun m2 =>
      rd 60 (((iI 5) * a1) + (iI 1)) fun j3 =>
      wrI 2 m2 121 (iI 1) (gI m2 139 j3) fun m4 =>
      rd 60 (((iI 5) * a1) + (iI 2)) fun j5 =>
      wrI 2 m4 122 (iI 1) (gI m4 139 j5) fun m6 =>
      rd 60 (((iI 5) * a1) + (iI 3)) fun j7 =>
      wrI 2 m6 123 (iI 1) (gI m6 139 j7) fun m8 =>
      rd 60 (((iI 5) * a1) + (iI 4)) fun j9 =>
      wrI 2 m8 124 (iI 1) (gI m8 139 j9) fun m10 =>
      some ((), m10)
    else
      rd 36 (((iI 3) * a1) + a2) fun j11 =>
      wrI 14 m 118 ((iI 7) + a2) (gI m 137 j11) fun m12 =>
      rd 36 (((iI 3) * a1) + a2) fun j13 =>
      wrI 14 m12 119 ((iI 7) + a2) (gI m12 138 j13) fun m14 =>
      nm (a2 + (iI 1)) fun v15 =>
      F_X9_layAt_2  f a1 v15 m14)
set_option maxRecDepth 100000 in
set_option maxHeartbeats 4000000 in
theorem t_X9_layAt_2 {pp : Program} {ll : Launch} {ee : Env} {ss : State} {mm : MethodId} {aa : Array Value} {bb : List Frame} {me : Method} {co : Code} {cx : CX}     (C : CM pp ss mm aa me co cX9_layAt 3 RX9 cx (none))    : ∀ (f : Nat) (a1 : Int32) (a2 : Int32) (m : Mm), TV pp ll ee rm_X9_layAt ss mm aa bb me co 3 cx 2 [(0, .ref (cx.2.2.1 + 113)), (1, .int a1), (2, .int a2)] [] m (F_X9_layAt_2  f a1 a2 m) := by
  intro f
  induction f with
  | zero => exact fun _ _ _ => T_none
  | succ f ih =>
    intro a1 a2 m
    unfold F_X9_layAt_2
    refine T_iload_n C.1 dX9_layAt_2 2 rfl ?_
    refine T_aload_n C.1 dX9_layAt_3 0 rfl ?_
    refine T_getI C.1 fd_X9_155 (fun _ _ _ _ => rfl) sh113 le113 dX9_layAt_4 ?_
    refine T_icmp_ge (tgt := 54) C.1 dX9_layAt_7 (by decide) ?_ ?_
    · refine T_aload_n C.1 dX9_layAt_54 0 rfl ?_
      refine T_getR (x := 120) C.1 fd_X9_32 (fun _ _ _ _ => rfl) sh113 le113 (fun _ h => h) rfl (by decide) dX9_layAt_55 ?_
      refine T_iconst C.1 dX9_layAt_58 ?_
      refine T_aload_n C.1 dX9_layAt_59 0 rfl ?_
      refine T_getR (x := 139) C.1 fd_X9_94 (fun _ _ _ _ => rfl) sh113 le113 (fun _ h => h) rfl (by decide) dX9_layAt_60 ?_
      refine T_iconst C.1 dX9_layAt_63 ?_
      refine T_iload_n C.1 dX9_layAt_64 1 rfl ?_
      refine T_imul C.1 dX9_layAt_65 ?_
      refine T_iald C.1 dX9_layAt_66 sh139 le139 (fun j1 => ?_)
      refine T_iast C.1 LyI_Lay sh120 le120 dX9_layAt_67 (fun m2 => ?_)
      refine T_aload_n C.1 dX9_layAt_68 0 rfl ?_
      refine T_getR (x := 121) C.1 fd_X9_35 (fun _ _ _ _ => rfl) sh113 le113 (fun _ h => h) rfl (by decide) dX9_layAt_69 ?_
      refine T_iconst C.1 dX9_layAt_72 ?_
      refine T_aload_n C.1 dX9_layAt_73 0 rfl ?_
      refine T_getR (x := 139) C.1 fd_X9_94 (fun _ _ _ _ => rfl) sh113 le113 (fun _ h => h) rfl (by decide) dX9_layAt_74 ?_
      refine T_iconst C.1 dX9_layAt_77 ?_
      refine T_iload_n C.1 dX9_layAt_78 1 rfl ?_
      refine T_imul C.1 dX9_layAt_79 ?_
      refine T_iconst C.1 dX9_layAt_80 ?_
      refine T_iadd C.1 dX9_layAt_81 ?_
      refine T_iald C.1 dX9_layAt_82 sh139 le139 (fun j3 => ?_)
      refine T_iast C.1 LyI_Lay sh121 le121 dX9_layAt_83 (fun m4 => ?_)
      refine T_aload_n C.1 dX9_layAt_84 0 rfl ?_
      refine T_getR (x := 122) C.1 fd_X9_38 (fun _ _ _ _ => rfl) sh113 le113 (fun _ h => h) rfl (by decide) dX9_layAt_85 ?_
      refine T_iconst C.1 dX9_layAt_88 ?_
      refine T_aload_n C.1 dX9_layAt_89 0 rfl ?_
      refine T_getR (x := 139) C.1 fd_X9_94 (fun _ _ _ _ => rfl) sh113 le113 (fun _ h => h) rfl (by decide) dX9_layAt_90 ?_
      refine T_iconst C.1 dX9_layAt_93 ?_
      refine T_iload_n C.1 dX9_layAt_94 1 rfl ?_
      refine T_imul C.1 dX9_layAt_95 ?_
      refine T_iconst C.1 dX9_layAt_96 ?_
      refine T_iadd C.1 dX9_layAt_97 ?_
      refine T_iald C.1 dX9_layAt_98 sh139 le139 (fun j5 => ?_)
      refine T_iast C.1 LyI_Lay sh122 le122 dX9_layAt_99 (fun m6 => ?_)
      refine T_aload_n C.1 dX9_layAt_100 0 rfl ?_
      refine T_getR (x := 123) C.1 fd_X9_41 (fun _ _ _ _ => rfl) sh113 le113 (fun _ h => h) rfl (by decide) dX9_layAt_101 ?_
      refine T_iconst C.1 dX9_layAt_104 ?_
      refine T_aload_n C.1 dX9_layAt_105 0 rfl ?_
      refine T_getR (x := 139) C.1 fd_X9_94 (fun _ _ _ _ => rfl) sh113 le113 (fun _ h => h) rfl (by decide) dX9_layAt_106 ?_
      refine T_iconst C.1 dX9_layAt_109 ?_
      refine T_iload_n C.1 dX9_layAt_110 1 rfl ?_
      refine T_imul C.1 dX9_layAt_111 ?_
      refine T_iconst C.1 dX9_layAt_112 ?_
      refine T_iadd C.1 dX9_layAt_113 ?_
      refine T_iald C.1 dX9_layAt_114 sh139 le139 (fun j7 => ?_)
      refine T_iast C.1 LyI_Lay sh123 le123 dX9_layAt_115 (fun m8 => ?_)
      refine T_aload_n C.1 dX9_layAt_116 0 rfl ?_
      refine T_getR (x := 124) C.1 fd_X9_44 (fun _ _ _ _ => rfl) sh113 le113 (fun _ h => h) rfl (by decide) dX9_layAt_117 ?_
      refine T_iconst C.1 dX9_layAt_120 ?_
      refine T_aload_n C.1 dX9_layAt_121 0 rfl ?_
      refine T_getR (x := 139) C.1 fd_X9_94 (fun _ _ _ _ => rfl) sh113 le113 (fun _ h => h) rfl (by decide) dX9_layAt_122 ?_
      refine T_iconst C.1 dX9_layAt_125 ?_
      refine T_iload_n C.1 dX9_layAt_126 1 rfl ?_
      refine T_imul C.1 dX9_layAt_127 ?_
      refine T_iconst C.1 dX9_layAt_128 ?_
      refine T_iadd C.1 dX9_layAt_129 ?_
      refine T_iald C.1 dX9_layAt_130 sh139 le139 (fun j9 => ?_)
      refine T_iast C.1 LyI_Lay sh124 le124 dX9_layAt_131 (fun m10 => ?_)
      exact T_vret C.1 C.2.1 C.2.2 dX9_layAt_132
    · refine T_aload_n C.1 dX9_layAt_10 0 rfl ?_
      refine T_getR (x := 118) C.1 fd_X9_26 (fun _ _ _ _ => rfl) sh113 le113 (fun _ h => h) rfl (by decide) dX9_layAt_11 ?_
      refine T_bipush C.1 dX9_layAt_14 rfl ?_
      refine T_iload_n C.1 dX9_layAt_16 2 rfl ?_
      refine T_iadd C.1 dX9_layAt_17 ?_
      refine T_aload_n C.1 dX9_layAt_18 0 rfl ?_
      refine T_getR (x := 137) C.1 fd_X9_88 (fun _ _ _ _ => rfl) sh113 le113 (fun _ h => h) rfl (by decide) dX9_layAt_19 ?_
      refine T_iconst C.1 dX9_layAt_22 ?_
      refine T_iload_n C.1 dX9_layAt_23 1 rfl ?_
      refine T_imul C.1 dX9_layAt_24 ?_
      refine T_iload_n C.1 dX9_layAt_25 2 rfl ?_
      refine T_iadd C.1 dX9_layAt_26 ?_
      refine T_iald C.1 dX9_layAt_27 sh137 le137 (fun j11 => ?_)
      refine T_iast C.1 LyI_Lay sh118 le118 dX9_layAt_28 (fun m12 => ?_)
      refine T_aload_n C.1 dX9_layAt_29 0 rfl ?_
      refine T_getR (x := 119) C.1 fd_X9_29 (fun _ _ _ _ => rfl) sh113 le113 (fun _ h => h) rfl (by decide) dX9_layAt_30 ?_
      refine T_bipush C.1 dX9_layAt_33 rfl ?_
      refine T_iload_n C.1 dX9_layAt_35 2 rfl ?_
      refine T_iadd C.1 dX9_layAt_36 ?_
      refine T_aload_n C.1 dX9_layAt_37 0 rfl ?_
      refine T_getR (x := 138) C.1 fd_X9_91 (fun _ _ _ _ => rfl) sh113 le113 (fun _ h => h) rfl (by decide) dX9_layAt_38 ?_
      refine T_iconst C.1 dX9_layAt_41 ?_
      refine T_iload_n C.1 dX9_layAt_42 1 rfl ?_
      refine T_imul C.1 dX9_layAt_43 ?_
      refine T_iload_n C.1 dX9_layAt_44 2 rfl ?_
      refine T_iadd C.1 dX9_layAt_45 ?_
      refine T_iald C.1 dX9_layAt_46 sh138 le138 (fun j13 => ?_)
      refine T_iast C.1 LyI_Lay sh119 le119 dX9_layAt_47 (fun m14 => ?_)
      refine T_iincN C.1 (fun v15 => [(2, .int v15), (0, .ref (cx.2.2.1 + 113)), (1, .int a1)]) dX9_layAt_48 2 rfl (by decide) (fun _ => rfl) (fun v15 => ?_)
      refine T_goto (tgt := 2) C.1 dX9_layAt_51 (by decide) ?_
      exact T_sub [1, 2, 0] rfl (ih a1 v15 m14)
def F_X9_layAt  (x1 : Int32) (m : Mm) : Option (Unit × Mm) :=
  F_X9_layAt_2 FU x1 (iI 0) m
set_option maxRecDepth 100000 in
set_option maxHeartbeats 4000000 in
theorem c_X9_layAt (ll : Launch) (cx : CX) (x1 : Int32) (m : Mm) : MT ll yX9_layAt cX9_layAt 3 (none) rm_X9_layAt cx NN NN Lay cvV 0 0 [.ref (cx.2.2.1 + 113), .int x1] m (F_X9_layAt x1 m) := by
  refine MT_of (by decide) (Nat.le_of_ble_eq_true rfl) ?_
  intro pp ee ss mm aa bb me co hK hr hk hn
  have C : CM pp ss mm aa me co cX9_layAt 3 RX9 cx (none) := ⟨hK, hr, hk⟩
  show TV pp ll ee rm_X9_layAt ss mm aa bb me co 3 cx 0 [(0, .ref (cx.2.2.1 + 113)), (1, .int x1)] [] m (F_X9_layAt x1 m)
  unfold F_X9_layAt
  refine T_iconst C.1 dX9_layAt_0 ?_
  refine T_istore_n (lv' := [(2, .int (iI 0)), (0, .ref (cx.2.2.1 + 113)), (1, .int x1)]) C.1 dX9_layAt_1 (by decide) rfl ?_
  exact T_sub [1, 2, 0] rfl (t_X9_layAt_2 C FU x1 (iI 0) m)
