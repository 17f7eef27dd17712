def rm_X6_line : Room := { frames := 904, cells := 0, slots := 0, locals := 20806 }
def F_X6_line_26   (m : Mm) : Option (Unit × Mm) :=
  gdS (9, 3) (gR m 16 4) fun q1 =>
  bnd (F_X3_writeEndOfLine q1 m) fun _ m3 =>
  some ((), m3)
set_option maxRecDepth 100000 in
set_option maxHeartbeats 4000000 in
theorem t_X6_line_26 {wn : Nat} (hn : NN ≤ wn) {pp : Program} {ll : Launch} {ee : Env} {ss : State} {mm : MethodId} {aa : Array Value} {bb : List Frame} {me : Method} {co : Code} {cx : CX}     (C : CM pp ss mm aa me co cX6_line 1 RX6 cx (none))     (m : Mm) : TV pp ll ee rm_X6_line ss mm aa bb me co 1 cx wn 26 [(0, .ref (cx.2.2.1 + 16))] [] m (F_X6_line_26  m) := by
  unfold F_X6_line_26
  refine T_aload_n C.1 dX6_line_26 0 rfl ?_
  refine T_getS C.1 fd_X6_28 (fun _ _ _ _ => rfl) sh16 (Nat.le_trans le16 hn) (by decide) dX6_line_27 (fun q1 hq1 => ?_)
  refine T_callVV (rm := rm_X3_writeEndOfLine) [] [] C.1 dX6_line_30 mw_X3_writeEndOfLine wm_4_76 wm_4_77 wm_4_78 ⟨Nat.le_of_ble_eq_true rfl, Nat.le_of_ble_eq_true rfl⟩ ⟨rfl, rfl⟩ ⟨Nat.zero_le _, Nat.zero_le _⟩ rfl rfl (Nat.le_of_ble_eq_true rfl) hq1 (Nat.le_trans (shp_le hq1 (by decide)) hn) ⟨rfl, rfl⟩ (c_X3_writeEndOfLine hn ll cx q1 m) (fun u2 m3 => ?_)
  exact T_vret C.1 C.2.1 C.2.2 dX6_line_33
def F_X6_line   (m : Mm) : Option (Unit × Mm) :=
  bnd (F_X6_either (iI 0) m) fun _ m2 =>
  bnd (F_X6_comes (iI 63) m2) fun v3 m4 =>
  (if v3 = iI 0 then
    F_X6_line_26 m4
  else
    gdS (9, 3) (gR m4 16 4) fun q5 =>
    bnd (F_X3_writeIf q5 m4) fun _ m7 =>
    bnd (F_X6_either (iI 0) m7) fun _ m9 =>
    F_X6_line_26 m9)
set_option maxRecDepth 100000 in
set_option maxHeartbeats 4000000 in
theorem c_X6_line {wn : Nat} (hn : NN ≤ wn) (ll : Launch) (cx : CX)  (m : Mm) : MT ll yX6_line cX6_line 1 (none) rm_X6_line cx wn wn Lay cvV 0 0 [.ref (cx.2.2.1 + 16)] m (F_X6_line  m) := by
  refine MT_of (by decide) (Nat.le_of_ble_eq_true rfl) ?_
  intro pp ee ss mm aa bb me co hK hr hk hn0
  have C : CM pp ss mm aa me co cX6_line 1 RX6 cx (none) := ⟨hK, hr, hk⟩
  show TV pp ll ee rm_X6_line ss mm aa bb me co 1 cx wn 0 [(0, .ref (cx.2.2.1 + 16))] [] m (F_X6_line  m)
  unfold F_X6_line
  refine T_aload_n C.1 dX6_line_0 0 rfl ?_
  refine T_iconst C.1 dX6_line_1 ?_
  refine T_callVV (rm := (rmS_55 900)) [.int (iI 0)] [] C.1 dX6_line_2 mw_X6_either wm_4_17 wm_4_19 wm_p_18 ⟨Nat.le_of_ble_eq_true rfl, Nat.le_of_ble_eq_true rfl⟩ ⟨rfl, rfl⟩ ⟨Nat.zero_le _, Nat.zero_le _⟩ rfl rfl (Nat.le_of_ble_eq_true rfl) sh16 (Nat.le_trans le16 hn) ⟨rfl, rfl⟩ (c_X6_either hn ll cx (iI 0) m) (fun u1 m2 => ?_)
  refine T_aload_n C.1 dX6_line_5 0 rfl ?_
  refine T_bipush C.1 dX6_line_6 rfl ?_
  refine T_callVI (rm := rm_X6_comes) [.int (iI 63)] [] C.1 dX6_line_8 mw_X6_comes wm_4_67 wm_4_69 wm_p_28 ⟨Nat.le_of_ble_eq_true rfl, Nat.le_of_ble_eq_true rfl⟩ ⟨rfl, rfl⟩ ⟨Nat.zero_le _, Nat.zero_le _⟩ rfl rfl (Nat.le_of_ble_eq_true rfl) sh16 (Nat.le_trans le16 hn) ⟨rfl, rfl⟩ (c_X6_comes hn ll cx (iI 63) m2) (fun v3 m4 => ?_)
  refine T_if_eq (tgt := 26) C.1 dX6_line_11 (by decide) ?_ ?_
  · exact T_sub [0] rfl (t_X6_line_26 hn C m4)
  · refine T_aload_n C.1 dX6_line_14 0 rfl ?_
    refine T_getS C.1 fd_X6_28 (fun _ _ _ _ => rfl) sh16 (Nat.le_trans le16 hn) (by decide) dX6_line_15 (fun q5 hq5 => ?_)
    refine T_callVV (rm := rm_X3_writeIf) [] [] C.1 dX6_line_18 mw_X3_writeIf wm_4_71 wm_4_72 wm_4_73 ⟨Nat.le_of_ble_eq_true rfl, Nat.le_of_ble_eq_true rfl⟩ ⟨rfl, rfl⟩ ⟨Nat.zero_le _, Nat.zero_le _⟩ rfl rfl (Nat.le_of_ble_eq_true rfl) hq5 (Nat.le_trans (shp_le hq5 (by decide)) hn) ⟨rfl, rfl⟩ (c_X3_writeIf hn ll cx q5 m4) (fun u6 m7 => ?_)
    refine T_aload_n C.1 dX6_line_21 0 rfl ?_
    refine T_iconst C.1 dX6_line_22 ?_
    refine T_callVV (rm := (rmS_55 900)) [.int (iI 0)] [] C.1 dX6_line_23 mw_X6_either wm_4_17 wm_4_19 wm_p_18 ⟨Nat.le_of_ble_eq_true rfl, Nat.le_of_ble_eq_true rfl⟩ ⟨rfl, rfl⟩ ⟨Nat.zero_le _, Nat.zero_le _⟩ rfl rfl (Nat.le_of_ble_eq_true rfl) sh16 (Nat.le_trans le16 hn) ⟨rfl, rfl⟩ (c_X6_either hn ll cx (iI 0) m7) (fun u8 m9 => ?_)
    exact T_sub [0] rfl (t_X6_line_26 hn C m9)
def rm_X6_read : Room := { frames := 905, cells := 0, slots := 0, locals := 20826 }
def F_X6_read_63   (m : Mm) : Option (Int32 × Mm) :=
  nm (pI m 16 1 (iI 0)) fun m1 =>
  some ((gI m1 16 3), m1)
set_option maxRecDepth 100000 in
set_option maxHeartbeats 4000000 in
theorem t_X6_read_63 {wn : Nat} (hn : NN ≤ wn) {pp : Program} {ll : Launch} {ee : Env} {ss : State} {mm : MethodId} {aa : Array Value} {bb : List Frame} {me : Method} {co : Code} {cx : CX}     (C : CM pp ss mm aa me co cX6_read 2 RX6 cx ((some .int)))     (m : Mm) : TI pp ll ee rm_X6_read ss mm aa bb me co 2 cx wn 63 [(0, .ref (cx.2.2.1 + 16))] [] m (F_X6_read_63  m) := by
  unfold F_X6_read_63
  refine T_aload_n C.1 dX6_read_63 0 rfl ?_
  refine T_iconst C.1 dX6_read_64 ?_
  refine T_putI C.1 LyI_Lay fd_X6_15 sh16 (Nat.le_trans le16 hn) dX6_read_65 (fun m1 => ?_)
  refine T_aload_n C.1 dX6_read_68 0 rfl ?_
  refine T_getI C.1 fd_X6_22 (fun _ _ _ _ => rfl) sh16 (Nat.le_trans le16 hn) dX6_read_69 ?_
  exact T_iret C.1 C.2.1 C.2.2 dX6_read_72
def F_X6_read_48   (m : Mm) : Option (Int32 × Mm) :=
  (if (gI m 16 1) ≤ (gI m 16 2) then
    F_X6_read_63 m
  else
    bnd (F_X6_fail m) fun _ m2 =>
    F_X6_read_63 m2)
set_option maxRecDepth 100000 in
set_option maxHeartbeats 4000000 in
theorem t_X6_read_48 {wn : Nat} (hn : NN ≤ wn) {pp : Program} {ll : Launch} {ee : Env} {ss : State} {mm : MethodId} {aa : Array Value} {bb : List Frame} {me : Method} {co : Code} {cx : CX}     (C : CM pp ss mm aa me co cX6_read 2 RX6 cx ((some .int)))     (m : Mm) : TI pp ll ee rm_X6_read ss mm aa bb me co 2 cx wn 48 [(0, .ref (cx.2.2.1 + 16))] [] m (F_X6_read_48  m) := by
  unfold F_X6_read_48
  refine T_aload_n C.1 dX6_read_48 0 rfl ?_
  refine T_getI C.1 fd_X6_19 (fun _ _ _ _ => rfl) sh16 (Nat.le_trans le16 hn) dX6_read_49 ?_
  refine T_aload_n C.1 dX6_read_52 0 rfl ?_
  refine T_getI C.1 fd_X6_15 (fun _ _ _ _ => rfl) sh16 (Nat.le_trans le16 hn) dX6_read_53 ?_
  refine T_icmp_ge (tgt := 63) C.1 dX6_read_56 (by decide) ?_ ?_
  · exact T_sub [0] rfl (t_X6_read_63 hn C m)
  · refine T_aload_n C.1 dX6_read_59 0 rfl ?_
    refine T_callVV (rm := rm_X6_fail) [] [] C.1 dX6_read_60 mw_X6_fail wm_4_59 wm_4_61 wm_p_26 ⟨Nat.le_of_ble_eq_true rfl, Nat.le_of_ble_eq_true rfl⟩ ⟨rfl, rfl⟩ ⟨Nat.zero_le _, Nat.zero_le _⟩ rfl rfl (Nat.le_of_ble_eq_true rfl) sh16 (Nat.le_trans le16 hn) ⟨rfl, rfl⟩ (c_X6_fail hn ll cx m) (fun u1 m2 => ?_)
    exact T_sub [0] rfl (t_X6_read_63 hn C m2)
def F_X6_read_23  : Nat → Int32 → Mm → Option (Int32 × Mm)
  | 0, _, _ => none
  | f + 1, a1, m =>
    (if (iI 120) ≤ a1 then
      F_X6_read_48 m
    else
      bnd (F_X6_comes (iI 59) m) fun v1 m2 =>
      (if v1 = iI 0 then
        F_X6_read_48 m2
      else
        bnd (F_X6_line m2) fun _ m4 =>
        nm (a1 + (iI 1)) fun v5 =>
        F_X6_read_23  f v5 m4))
set_option maxRecDepth 100000 in
set_option maxHeartbeats 4000000 in
theorem t_X6_read_23 {wn : Nat} (hn : NN ≤ wn) {pp : Program} {ll : Launch} {ee : Env} {ss : State} {mm : MethodId} {aa : Array Value} {bb : List Frame} {me : Method} {co : Code} {cx : CX}     (C : CM pp ss mm aa me co cX6_read 2 RX6 cx ((some .int)))    : ∀ (f : Nat) (a1 : Int32) (m : Mm), TI pp ll ee rm_X6_read ss mm aa bb me co 2 cx wn 23 [(0, .ref (cx.2.2.1 + 16)), (1, .int a1)] [] m (F_X6_read_23  f a1 m) := by
  intro f
  induction f with
  | zero => exact fun _ _ => T_none
  | succ f ih =>
    intro a1 m
    unfold F_X6_read_23
    refine T_iload_n C.1 dX6_read_23 1 rfl ?_
    refine T_bipush C.1 dX6_read_24 rfl ?_
    refine T_icmp_ge (tgt := 48) C.1 dX6_read_26 (by decide) ?_ ?_
    · exact T_sub [0] rfl (t_X6_read_48 hn C m)
    · refine T_aload_n C.1 dX6_read_29 0 rfl ?_
      refine T_bipush C.1 dX6_read_30 rfl ?_
      refine T_callVI (rm := rm_X6_comes) [.int (iI 59)] [] C.1 dX6_read_32 mw_X6_comes wm_4_67 wm_4_69 wm_p_28 ⟨Nat.le_of_ble_eq_true rfl, Nat.le_of_ble_eq_true rfl⟩ ⟨rfl, rfl⟩ ⟨Nat.zero_le _, Nat.zero_le _⟩ rfl rfl (Nat.le_of_ble_eq_true rfl) sh16 (Nat.le_trans le16 hn) ⟨rfl, rfl⟩ (c_X6_comes hn ll cx (iI 59) m) (fun v1 m2 => ?_)
      refine T_if_eq (tgt := 48) C.1 dX6_read_35 (by decide) ?_ ?_
      · exact T_sub [0] rfl (t_X6_read_48 hn C m2)
      · refine T_aload_n C.1 dX6_read_38 0 rfl ?_
        refine T_callVV (rm := rm_X6_line) [] [] C.1 dX6_read_39 mw_X6_line wm_4_13 wm_4_15 wm_p_17 ⟨Nat.le_of_ble_eq_true rfl, Nat.le_of_ble_eq_true rfl⟩ ⟨rfl, rfl⟩ ⟨Nat.zero_le _, Nat.zero_le _⟩ rfl rfl (Nat.le_of_ble_eq_true rfl) sh16 (Nat.le_trans le16 hn) ⟨rfl, rfl⟩ (c_X6_line hn ll cx m2) (fun u3 m4 => ?_)
        refine T_iincN C.1 (fun v5 => [(1, .int v5), (0, .ref (cx.2.2.1 + 16))]) dX6_read_42 1 rfl (by decide) (fun _ => rfl) (fun v5 => ?_)
        refine T_goto (tgt := 23) C.1 dX6_read_45 (by decide) ?_
        exact T_sub [1, 0] rfl (ih v5 m4)
def F_X6_read   (m : Mm) : Option (Int32 × Mm) :=
  nm (pI m 16 2 (iI 0)) fun m1 =>
  nm (pI m1 16 3 (iI (-1))) fun m2 =>
  gdS (9, 3) (gR m2 16 4) fun q3 =>
  bnd (F_X3_clear q3 m2) fun _ m5 =>
  bnd (F_X6_line m5) fun _ m7 =>
  F_X6_read_23 FU (iI 0) m7
set_option maxRecDepth 100000 in
set_option maxHeartbeats 4000000 in
theorem c_X6_read {wn : Nat} (hn : NN ≤ wn) (ll : Launch) (cx : CX)  (m : Mm) : MT ll yX6_read cX6_read 2 ((some .int)) rm_X6_read cx wn wn Lay cvI 0 0 [.ref (cx.2.2.1 + 16)] m (F_X6_read  m) := by
  refine MT_of (by decide) (Nat.le_of_ble_eq_true rfl) ?_
  intro pp ee ss mm aa bb me co hK hr hk hn0
  have C : CM pp ss mm aa me co cX6_read 2 RX6 cx ((some .int)) := ⟨hK, hr, hk⟩
  show TI pp ll ee rm_X6_read ss mm aa bb me co 2 cx wn 0 [(0, .ref (cx.2.2.1 + 16))] [] m (F_X6_read  m)
  unfold F_X6_read
  refine T_aload_n C.1 dX6_read_0 0 rfl ?_
  refine T_iconst C.1 dX6_read_1 ?_
  refine T_putI C.1 LyI_Lay fd_X6_19 sh16 (Nat.le_trans le16 hn) dX6_read_2 (fun m1 => ?_)
  refine T_aload_n C.1 dX6_read_5 0 rfl ?_
  refine T_iconst C.1 dX6_read_6 ?_
  refine T_putI C.1 LyI_Lay fd_X6_22 sh16 (Nat.le_trans le16 hn) dX6_read_7 (fun m2 => ?_)
  refine T_aload_n C.1 dX6_read_10 0 rfl ?_
  refine T_getS C.1 fd_X6_28 (fun _ _ _ _ => rfl) sh16 (Nat.le_trans le16 hn) (by decide) dX6_read_11 (fun q3 hq3 => ?_)
  refine T_callVV (rm := rm_X3_clear) [] [] C.1 dX6_read_14 mw_X3_clear wm_4_9 wm_4_10 wm_4_11 ⟨Nat.le_of_ble_eq_true rfl, Nat.le_of_ble_eq_true rfl⟩ ⟨rfl, rfl⟩ ⟨Nat.zero_le _, Nat.zero_le _⟩ rfl rfl (Nat.le_of_ble_eq_true rfl) hq3 (Nat.le_trans (shp_le hq3 (by decide)) hn) ⟨rfl, rfl⟩ (c_X3_clear hn ll cx q3 m2) (fun u4 m5 => ?_)
  refine T_aload_n C.1 dX6_read_17 0 rfl ?_
  refine T_callVV (rm := rm_X6_line) [] [] C.1 dX6_read_18 mw_X6_line wm_4_13 wm_4_15 wm_p_17 ⟨Nat.le_of_ble_eq_true rfl, Nat.le_of_ble_eq_true rfl⟩ ⟨rfl, rfl⟩ ⟨Nat.zero_le _, Nat.zero_le _⟩ rfl rfl (Nat.le_of_ble_eq_true rfl) sh16 (Nat.le_trans le16 hn) ⟨rfl, rfl⟩ (c_X6_line hn ll cx m5) (fun u6 m7 => ?_)
  refine T_iconst C.1 dX6_read_21 ?_
  refine T_istore_n (lv' := [(1, .int (iI 0)), (0, .ref (cx.2.2.1 + 16))]) C.1 dX6_read_22 (by decide) rfl ?_
  exact T_sub [1, 0] rfl (t_X6_read_23 hn C FU (iI 0) m7)
def rm_X6_draftFor : Room := { frames := 1, cells := 0, slots := 0, locals := 40 }
def F_X6_draftFor  (r1 : Nat) (m : Mm) : Option (Nat × Mm) :=
  (if shp r1 = (9, 3) then
    gdS (9, 3) (gR m 16 4) fun q1 =>
    nm (pR m 16 4 r1) fun m2 =>
    some (q1, m2)
  else none)
set_option maxRecDepth 100000 in
set_option maxHeartbeats 4000000 in
theorem c_X6_draftFor {wn : Nat} (hn : NN ≤ wn) (ll : Launch) (cx : CX) (r1 : Nat) (m : Mm) : MT ll yX6_draftFor cX6_draftFor 3 ((some (.object "OpenOrTake$Law"))) rm_X6_draftFor cx wn wn Lay (cvR cx.2.2.1) 0 0 [.ref (cx.2.2.1 + 16), .ref (cx.2.2.1 + r1)] m (F_X6_draftFor r1 m) := by
  refine MT_of (by decide) (Nat.le_of_ble_eq_true rfl) ?_
  intro pp ee ss mm aa bb me co hK hr hk hn0
  have C : CM pp ss mm aa me co cX6_draftFor 3 RX6 cx ((some (.object "OpenOrTake$Law"))) := ⟨hK, hr, hk⟩
  show TR pp ll ee rm_X6_draftFor ss mm aa bb me co 3 cx wn 0 [(0, .ref (cx.2.2.1 + 16)), (1, .ref (cx.2.2.1 + r1))] [] m (F_X6_draftFor r1 m)
  unfold F_X6_draftFor
  refine T_if (fun hr1 => ?_) (fun _ => T_none)
  refine T_aload_n C.1 dX6_draftFor_0 0 rfl ?_
  refine T_getS C.1 fd_X6_28 (fun _ _ _ _ => rfl) sh16 (Nat.le_trans le16 hn) (by decide) dX6_draftFor_1 (fun q1 hq1 => ?_)
  refine T_astore_n (lv' := [(2, .ref (cx.2.2.1 + q1)), (0, .ref (cx.2.2.1 + 16)), (1, .ref (cx.2.2.1 + r1))]) C.1 dX6_draftFor_4 (by decide) rfl ?_
  refine T_aload_n C.1 dX6_draftFor_5 1 rfl ?_
  refine T_aload_n C.1 dX6_draftFor_6 2 rfl ?_
  refine T_putD C.1 (fun _ _ _ _ => rfl) (fun _ => rfl) (fun _ => rfl) fd_X6_28 sh16 (Nat.le_trans le16 hn) (shp_pk hr1 (by decide)) (fun _ _ h => Lay_pR h sh16 (fun _ => rfl) (fun _ => rfl)) dX6_draftFor_7 (fun m2 => ?_)
  refine T_aload_n C.1 dX6_draftFor_10 0 rfl ?_
  exact T_aret C.1 C.2.1 (Or.inl ⟨_, rfl⟩) C.2.2 dX6_draftFor_11
def rm_X7_eveningBy : Room := { frames := 5, cells := 0, slots := 0, locals := 145 }
def F_X7_eveningBy  (r1 : Nat) (m : Mm) : Option (Nat × Mm) :=
  (if shp r1 = (1, 7) then
    rd 10 (iI 0) fun j1 =>
    bnd (F_X2_beginBy (50 + 5 * j1) r1 m) fun _ m3 =>
    bnd (F_X2_playTill (50 + 5 * j1) (gI m3 2 0) m3) fun v4 m5 =>
    bnd (F_X2_closeByLaw (50 + 5 * j1) m5) fun _ m7 =>
    some ((50 + 5 * j1), m7)
  else none)
set_option maxRecDepth 100000 in
set_option maxHeartbeats 4000000 in
theorem c_X7_eveningBy {wn : Nat} (hn : NN ≤ wn) (ll : Launch) (cx : CX) (r1 : Nat) (m : Mm) : MT ll yX7_eveningBy cX7_eveningBy 3 ((some (.object "OpenOrTake$Evening"))) rm_X7_eveningBy cx wn wn Lay (cvR cx.2.2.1) 0 0 [.ref (cx.2.2.1 + 33), .ref (cx.2.2.1 + r1)] m (F_X7_eveningBy r1 m) := by
  refine MT_of (by decide) (Nat.le_of_ble_eq_true rfl) ?_
  intro pp ee ss mm aa bb me co hK hr hk hn0
  have C : CM pp ss mm aa me co cX7_eveningBy 3 RX7 cx ((some (.object "OpenOrTake$Evening"))) := ⟨hK, hr, hk⟩
  show TR pp ll ee rm_X7_eveningBy ss mm aa bb me co 3 cx wn 0 [(0, .ref (cx.2.2.1 + 33)), (1, .ref (cx.2.2.1 + r1))] [] m (F_X7_eveningBy r1 m)
  unfold F_X7_eveningBy
  refine T_if (fun hr1 => ?_) (fun _ => T_none)
  refine T_aload_n C.1 dX7_eveningBy_0 0 rfl ?_
  refine T_getR (x := 34) C.1 fd_X7_13 (fun _ _ _ _ => rfl) sh33 (Nat.le_trans le33 hn) (fun _ h => h) rfl (by decide) dX7_eveningBy_1 ?_
  refine T_iconst C.1 dX7_eveningBy_4 ?_
  refine T_aald (x := fun j => 50 + 5 * j) C.1 dX7_eveningBy_5 (by decide) sh34 (Nat.le_trans le34 hn) (fun _ h => h) ar34 (fun j1 hj1 => ?_)
  refine T_astore_n (lv' := [(2, .ref (cx.2.2.1 + (50 + 5 * j1))), (0, .ref (cx.2.2.1 + 33)), (1, .ref (cx.2.2.1 + r1))]) C.1 dX7_eveningBy_6 (by decide) rfl ?_
  refine T_aload_n C.1 dX7_eveningBy_7 0 rfl ?_
  refine T_aload_n C.1 dX7_eveningBy_8 2 rfl ?_
  refine T_callVV (rm := rm_X2_beginBy) [.ref (cx.2.2.1 + r1)] [] C.1 dX7_eveningBy_9 mw_X2_beginBy wm_2_210 wm_2_211 wm_2_212 ⟨Nat.le_of_ble_eq_true rfl, Nat.le_of_ble_eq_true rfl⟩ ⟨rfl, rfl⟩ ⟨Nat.zero_le _, Nat.zero_le _⟩ rfl rfl (Nat.le_of_ble_eq_true rfl) (shar34 hj1) (Nat.le_trans (shp_le (shar34 hj1) (by decide)) hn) ⟨rfl, rfl⟩ (c_X2_beginBy hn ll cx (50 + 5 * j1) r1 m) (fun u2 m3 => ?_)
  refine T_aload_n C.1 dX7_eveningBy_12 0 rfl ?_
  refine T_aload_n C.1 dX7_eveningBy_13 1 rfl ?_
  refine T_getR (x := 2) C.1 fd_X7_43 (fun _ _ _ _ => rfl) sh33 (Nat.le_trans le33 hn) (fun _ h => h) rfl (by decide) dX7_eveningBy_14 ?_
  refine T_getI C.1 fd_X7_52 (fun _ _ _ _ => rfl) sh2 (Nat.le_trans le2 hn) dX7_eveningBy_17 ?_
  refine T_aload_n C.1 dX7_eveningBy_20 1 rfl ?_
  refine T_getR (x := 2) C.1 fd_X7_43 (fun _ _ _ _ => rfl) sh33 (Nat.le_trans le33 hn) (fun _ h => h) rfl (by decide) dX7_eveningBy_21 ?_
  refine T_callVI (rm := rm_X2_playTill) [.int (gI m3 2 0), .ref (cx.2.2.1 + 2)] [] C.1 dX7_eveningBy_24 mw_X2_playTill wm_2_218 wm_2_119 wm_2_120 ⟨Nat.le_of_ble_eq_true rfl, Nat.le_of_ble_eq_true rfl⟩ ⟨rfl, rfl⟩ ⟨Nat.zero_le _, Nat.zero_le _⟩ rfl rfl (Nat.le_of_ble_eq_true rfl) (shar34 hj1) (Nat.le_trans (shp_le (shar34 hj1) (by decide)) hn) ⟨rfl, rfl⟩ (c_X2_playTill hn ll cx (50 + 5 * j1) (gI m3 2 0) m3) (fun v4 m5 => ?_)
  refine T_pop C.1 dX7_eveningBy_27 rfl ?_
  refine T_aload_n C.1 dX7_eveningBy_28 0 rfl ?_
  refine T_aload_n C.1 dX7_eveningBy_29 1 rfl ?_
  refine T_getR (x := 2) C.1 fd_X7_43 (fun _ _ _ _ => rfl) sh33 (Nat.le_trans le33 hn) (fun _ h => h) rfl (by decide) dX7_eveningBy_30 ?_
  refine T_callVV (rm := rm_X2_closeByLaw) [.ref (cx.2.2.1 + 2)] [] C.1 dX7_eveningBy_33 mw_X2_closeByLaw wm_2_219 wm_2_220 wm_2_221 ⟨Nat.le_of_ble_eq_true rfl, Nat.le_of_ble_eq_true rfl⟩ ⟨rfl, rfl⟩ ⟨Nat.zero_le _, Nat.zero_le _⟩ rfl rfl (Nat.le_of_ble_eq_true rfl) (shar34 hj1) (Nat.le_trans (shp_le (shar34 hj1) (by decide)) hn) ⟨rfl, rfl⟩ (c_X2_closeByLaw hn ll cx (50 + 5 * j1) m5) (fun u6 m7 => ?_)
  refine T_aload_n C.1 dX7_eveningBy_36 0 rfl ?_
  exact T_aret C.1 C.2.1 (Or.inl ⟨_, rfl⟩) C.2.2 dX7_eveningBy_37
def rm_X7_comeTo : Room := { frames := 1, cells := 0, slots := 0, locals := 40 }
def F_X7_comeTo  (x1 : Int32) (m : Mm) : Option (Unit × Mm) :=
  rd 10 (x1 + (iI 1)) fun j1 =>
  rd 10 x1 fun j2 =>
  cpI 8 8 m (36 + 1 * j1) (iI 0) (36 + 1 * j2) (iI 0) (iI 8) fun m3 =>
  some ((), m3)
set_option maxRecDepth 100000 in
set_option maxHeartbeats 4000000 in
theorem c_X7_comeTo {wn : Nat} (hn : NN ≤ wn) (ll : Launch) (cx : CX) (x1 : Int32) (m : Mm) : MT ll yX7_comeTo cX7_comeTo 2 (none) rm_X7_comeTo cx wn wn Lay cvV 0 0 [.ref (cx.2.2.1 + 33), .int x1] m (F_X7_comeTo x1 m) := by
  refine MT_of (by decide) (Nat.le_of_ble_eq_true rfl) ?_
  intro pp ee ss mm aa bb me co hK hr hk hn0
  have C : CM pp ss mm aa me co cX7_comeTo 2 RX7 cx (none) := ⟨hK, hr, hk⟩
  show TV pp ll ee rm_X7_comeTo ss mm aa bb me co 2 cx wn 0 [(0, .ref (cx.2.2.1 + 33)), (1, .int x1)] [] m (F_X7_comeTo x1 m)
  unfold F_X7_comeTo
  refine T_aload_n C.1 dX7_comeTo_0 0 rfl ?_
  refine T_getR (x := 35) C.1 fd_X7_19 (fun _ _ _ _ => rfl) sh33 (Nat.le_trans le33 hn) (fun _ h => h) rfl (by decide) dX7_comeTo_1 ?_
  refine T_iload_n C.1 dX7_comeTo_4 1 rfl ?_
  refine T_iconst C.1 dX7_comeTo_5 ?_
  refine T_iadd C.1 dX7_comeTo_6 ?_
  refine T_aald (x := fun j => 36 + 1 * j) C.1 dX7_comeTo_7 (by decide) sh35 (Nat.le_trans le35 hn) (fun _ h => h) ar35 (fun j1 hj1 => ?_)
  refine T_iconst C.1 dX7_comeTo_8 ?_
  refine T_aload_n C.1 dX7_comeTo_9 0 rfl ?_
  refine T_getR (x := 35) C.1 fd_X7_19 (fun _ _ _ _ => rfl) sh33 (Nat.le_trans le33 hn) (fun _ h => h) rfl (by decide) dX7_comeTo_10 ?_
  refine T_iload_n C.1 dX7_comeTo_13 1 rfl ?_
  refine T_aald (x := fun j => 36 + 1 * j) C.1 dX7_comeTo_14 (by decide) sh35 (Nat.le_trans le35 hn) (fun _ h => h) ar35 (fun j2 hj2 => ?_)
  refine T_iconst C.1 dX7_comeTo_15 ?_
  refine T_bipush C.1 dX7_comeTo_16 rfl ?_
  refine T_cpI C.1 (fun _ _ _ h => h) dX7_comeTo_18 wm_3_2 wx_ac_1 wx_ac_2 wx_sys (shar35 hj1) (Nat.le_trans (shp_le (shar35 hj1) (by decide)) hn) (shar35 hj2) (Nat.le_trans (shp_le (shar35 hj2) (by decide)) hn) (Nat.le_of_ble_eq_true rfl) (Nat.le_of_ble_eq_true rfl) (fun m3 => ?_)
  exact T_vret C.1 C.2.1 C.2.2 dX7_comeTo_21
def rm_X7_worthAtEnd : Room := { frames := 2, cells := 0, slots := 0, locals := 63 }
def F_X7_worthAtEnd  (x1 : Int32) (x2 : Int32) (m : Mm) : Option (Int32 × Mm) :=
  rd 10 x1 fun j1 =>
  rd 8 x2 fun j2 =>
  bnd (F_X4_worthFor x2 (gI m (36 + 1 * j1) j2) m) fun v3 m4 =>
  some (v3, m4)
set_option maxRecDepth 100000 in
set_option maxHeartbeats 4000000 in
theorem c_X7_worthAtEnd {wn : Nat} (hn : NN ≤ wn) (ll : Launch) (cx : CX) (x1 : Int32) (x2 : Int32) (m : Mm) : MT ll yX7_worthAtEnd cX7_worthAtEnd 3 ((some .int)) rm_X7_worthAtEnd cx wn wn Lay cvI 0 0 [.ref (cx.2.2.1 + 33), .int x1, .int x2] m (F_X7_worthAtEnd x1 x2 m) := by
  refine MT_of (by decide) (Nat.le_of_ble_eq_true rfl) ?_
  intro pp ee ss mm aa bb me co hK hr hk hn0
  have C : CM pp ss mm aa me co cX7_worthAtEnd 3 RX7 cx ((some .int)) := ⟨hK, hr, hk⟩
  show TI pp ll ee rm_X7_worthAtEnd ss mm aa bb me co 3 cx wn 0 [(0, .ref (cx.2.2.1 + 33)), (1, .int x1), (2, .int x2)] [] m (F_X7_worthAtEnd x1 x2 m)
  unfold F_X7_worthAtEnd
  refine T_aload_n C.1 dX7_worthAtEnd_0 0 rfl ?_
  refine T_getR (x := 2) C.1 fd_X7_43 (fun _ _ _ _ => rfl) sh33 (Nat.le_trans le33 hn) (fun _ h => h) rfl (by decide) dX7_worthAtEnd_1 ?_
  refine T_iload_n C.1 dX7_worthAtEnd_4 2 rfl ?_
  refine T_aload_n C.1 dX7_worthAtEnd_5 0 rfl ?_
  refine T_getR (x := 35) C.1 fd_X7_19 (fun _ _ _ _ => rfl) sh33 (Nat.le_trans le33 hn) (fun _ h => h) rfl (by decide) dX7_worthAtEnd_6 ?_
  refine T_iload_n C.1 dX7_worthAtEnd_9 1 rfl ?_
  refine T_aald (x := fun j => 36 + 1 * j) C.1 dX7_worthAtEnd_10 (by decide) sh35 (Nat.le_trans le35 hn) (fun _ h => h) ar35 (fun j1 hj1 => ?_)
  refine T_iload_n C.1 dX7_worthAtEnd_11 2 rfl ?_
  refine T_iald C.1 dX7_worthAtEnd_12 (shar35 hj1) (Nat.le_trans (shp_le (shar35 hj1) (by decide)) hn) (fun j2 => ?_)
  refine T_callVI (rm := rm_X4_worthFor) [.int x2, .int (gI m (36 + 1 * j1) j2)] [] C.1 dX7_worthAtEnd_13 mw_X4_worthFor wm_3_18 wm_2_132 wm_2_133 ⟨Nat.le_of_ble_eq_true rfl, Nat.le_of_ble_eq_true rfl⟩ ⟨rfl, rfl⟩ ⟨Nat.zero_le _, Nat.zero_le _⟩ rfl rfl (Nat.le_of_ble_eq_true rfl) sh2 (Nat.le_trans le2 hn) ⟨rfl, rfl⟩ (c_X4_worthFor hn ll cx x2 (gI m (36 + 1 * j1) j2) m) (fun v3 m4 => ?_)
  exact T_iret C.1 C.2.1 C.2.2 dX7_worthAtEnd_16
def rmS_62 (d : Nat) : Room := { frames := 3 + d, cells := 0, slots := 0, locals := 85 + 25 * d }
def F_X7_lookAhead_28 (f_X7_lookAhead : Int32 → Mm → Option (Unit × Mm)) (a1 : Int32) (r20 : Nat) (m : Mm) : Option (Unit × Mm) :=
  gdS (9, 2) r20 fun r20 =>
  rd 10 a1 fun j1 =>
  cpI 7 8 m (r20 + 2) (iI 0) (36 + 1 * j1) (iI 0) (iI 7) fun m2 =>
  rd 10 a1 fun j3 =>
  wrI 8 m2 (36 + 1 * j3) (iI 7) (gI m2 r20 10) fun m4 =>
  some ((), m4)
set_option maxRecDepth 100000 in
set_option maxHeartbeats 4000000 in
theorem t_X7_lookAhead_28 {wn : Nat} (hn : NN ≤ wn) {pp : Program} {ll : Launch} {ee : Env} {ss : State} {mm : MethodId} {aa : Array Value} {bb : List Frame} {me : Method} {co : Code} {cx : CX} {dd : Nat}  {f_X7_lookAhead : Int32 → Mm → Option (Unit × Mm)}  (C : CM pp ss mm aa me co cX7_lookAhead 6 RX7 cx (none))  (hf_X7_lookAhead : ∀ (x1 : Int32) (m : Mm), MT ll yX7_lookAhead cX7_lookAhead 6 (none) (rmS_62 dd) cx wn wn Lay cvV 0 0 [.ref (cx.2.2.1 + 33), .int x1] m (f_X7_lookAhead x1 m))   (a1 : Int32) (r20 : Nat) (m : Mm) : TV pp ll ee (rmS_62 (dd + 1)) ss mm aa bb me co 6 cx wn 28 [(0, .ref (cx.2.2.1 + 33)), (1, .int a1), (2, .ref (cx.2.2.1 + r20))] [] m (F_X7_lookAhead_28 f_X7_lookAhead a1 r20 m) := by
  unfold F_X7_lookAhead_28
  refine T_gdS (fun hr20 => ?_)
  refine T_aload_n C.1 dX7_lookAhead_28 2 rfl ?_
  refine T_getR (x := (r20 + 2)) C.1 fd_X7_73 (fun _ _ _ _ => rfl) hr20 (Nat.le_trans (shp_le hr20 (by decide)) hn) (fun _ h => h) rfl (Nat.succ_ne_zero _) dX7_lookAhead_29 ?_
  refine T_iconst C.1 dX7_lookAhead_32 ?_
  refine T_aload_n C.1 dX7_lookAhead_33 0 rfl ?_
  refine T_getR (x := 35) C.1 fd_X7_19 (fun _ _ _ _ => rfl) sh33 (Nat.le_trans le33 hn) (fun _ h => h) rfl (by decide) dX7_lookAhead_34 ?_
  refine T_iload_n C.1 dX7_lookAhead_37 1 rfl ?_
  refine T_aald (x := fun j => 36 + 1 * j) C.1 dX7_lookAhead_38 (by decide) sh35 (Nat.le_trans le35 hn) (fun _ h => h) ar35 (fun j1 hj1 => ?_)
  refine T_iconst C.1 dX7_lookAhead_39 ?_
  refine T_bipush C.1 dX7_lookAhead_40 rfl ?_
  refine T_cpI C.1 (fun _ _ _ h => h) dX7_lookAhead_42 wm_3_2 wx_ac_1 wx_ac_2 wx_sys (shr_2_2 hr20) (Nat.le_trans (shp_le (shr_2_2 hr20) (by decide)) hn) (shar35 hj1) (Nat.le_trans (shp_le (shar35 hj1) (by decide)) hn) (by show 1 ≤ _; simp only [rmS_62]; omega) (by simp only [rmS_62]; simp [Value.category, nativeFrameWords]; try omega) (fun m2 => ?_)
  refine T_aload_n C.1 dX7_lookAhead_45 0 rfl ?_
  refine T_getR (x := 35) C.1 fd_X7_19 (fun _ _ _ _ => rfl) sh33 (Nat.le_trans le33 hn) (fun _ h => h) rfl (by decide) dX7_lookAhead_46 ?_
  refine T_iload_n C.1 dX7_lookAhead_49 1 rfl ?_
  refine T_aald (x := fun j => 36 + 1 * j) C.1 dX7_lookAhead_50 (by decide) sh35 (Nat.le_trans le35 hn) (fun _ h => h) ar35 (fun j3 hj3 => ?_)
  refine T_bipush C.1 dX7_lookAhead_51 rfl ?_
  refine T_aload_n C.1 dX7_lookAhead_53 2 rfl ?_
  refine T_getI C.1 fd_X7_82 (fun _ _ _ _ => rfl) hr20 (Nat.le_trans (shp_le hr20 (by decide)) hn) dX7_lookAhead_54 ?_
  refine T_iast C.1 LyI_Lay (shar35 hj3) (Nat.le_trans (shp_le (shar35 hj3) (by decide)) hn) dX7_lookAhead_57 (fun m4 => ?_)
  exact T_vret C.1 C.2.1 C.2.2 dX7_lookAhead_58
def F_X7_lookAhead_163 (k_97 : Int32 → Nat → Int32 → Nat → Int32 → Mm → Option (Unit × Mm)) (f_X7_lookAhead : Int32 → Mm → Option (Unit × Mm)) (a1 : Int32) (r20 : Nat) (a3 : Int32) (r40 : Nat) (a5 : Int32) (m : Mm) : Option (Unit × Mm) :=
  gdS (9, 2) r20 fun r20 =>
  gdS (9, 2) r40 fun r40 =>
  nm (a5 + (iI 1)) fun v1 =>
  k_97 a1 r20 a3 r40 v1 m
set_option maxRecDepth 100000 in
set_option maxHeartbeats 4000000 in
theorem t_X7_lookAhead_163 {wn : Nat} (hn : NN ≤ wn) {pp : Program} {ll : Launch} {ee : Env} {ss : State} {mm : MethodId} {aa : Array Value} {bb : List Frame} {me : Method} {co : Code} {cx : CX} {dd : Nat} {k_97 : Int32 → Nat → Int32 → Nat → Int32 → Mm → Option (Unit × Mm)} {f_X7_lookAhead : Int32 → Mm → Option (Unit × Mm)}  (C : CM pp ss mm aa me co cX7_lookAhead 6 RX7 cx (none))  (hf_X7_lookAhead : ∀ (x1 : Int32) (m : Mm), MT ll yX7_lookAhead cX7_lookAhead 6 (none) (rmS_62 dd) cx wn wn Lay cvV 0 0 [.ref (cx.2.2.1 + 33), .int x1] m (f_X7_lookAhead x1 m))  (hk_97 : ∀ (a1 : Int32) (r20 : Nat) (a3 : Int32) (r40 : Nat) (a5 : Int32) (m : Mm), TV pp ll ee (rmS_62 (dd + 1)) ss mm aa bb me co 6 cx wn 97 [(0, .ref (cx.2.2.1 + 33)), (1, .int a1), (2, .ref (cx.2.2.1 + r20)), (3, .int a3), (4, .ref (cx.2.2.1 + r40)), (5, .int a5)] [] m (k_97 a1 r20 a3 r40 a5 m)) (a1 : Int32) (r20 : Nat) (a3 : Int32) (r40 : Nat) (a5 : Int32) (m : Mm) : TV pp ll ee (rmS_62 (dd + 1)) ss mm aa bb me co 6 cx wn 163 [(0, .ref (cx.2.2.1 + 33)), (1, .int a1), (2, .ref (cx.2.2.1 + r20)), (3, .int a3), (4, .ref (cx.2.2.1 + r40)), (5, .int a5)] [] m (F_X7_lookAhead_163 k_97 f_X7_lookAhead a1 r20 a3 r40 a5 m) := by
  unfold F_X7_lookAhead_163
  refine T_gdS (fun hr20 => ?_)
  refine T_gdS (fun hr40 => ?_)
  refine T_iincN C.1 (fun v1 => [(5, .int v1), (0, .ref (cx.2.2.1 + 33)), (1, .int a1), (2, .ref (cx.2.2.1 + r20)), (3, .int a3), (4, .ref (cx.2.2.1 + r40))]) dX7_lookAhead_163 5 rfl (by decide) (fun _ => rfl) (fun v1 => ?_)
  refine T_goto (tgt := 97) C.1 dX7_lookAhead_166 (by decide) ?_
  exact T_sub [1, 2, 3, 4, 5, 0] rfl (hk_97 a1 r20 a3 r40 v1 m)
def F_X7_lookAhead_97 (f_X7_lookAhead : Int32 → Mm → Option (Unit × Mm)) : Nat → Int32 → Nat → Int32 → Nat → Int32 → Mm → Option (Unit × Mm)
  | 0, _, _, _, _, _, _ => none
  | f + 1, a1, r20, a3, r40, a5, m =>
    gdS (9, 2) r20 fun r20 =>
    gdS (9, 2) r40 fun r40 =>
    (if (gI m r20 4) ≤ a5 then
      some ((), m)
    else
      bnd (F_X2_mayRob r20 a5 m) fun v1 m2 =>
      (if v1 = iI 0 then
        F_X7_lookAhead_163 (F_X7_lookAhead_97 f_X7_lookAhead f) f_X7_lookAhead a1 r20 a3 r40 a5 m2
      else
        bnd (F_X2_become r40 r20 m2) fun _ m4 =>
        bnd (F_X2_rob r40 a3 a5 m4) fun v5 m6 =>
        bnd (f_X7_lookAhead (a1 + (iI 1)) m6) fun _ m8 =>
        bnd (F_X7_worthAtEnd (a1 + (iI 1)) a3 m8) fun v9 m10 =>
        bnd (F_X7_worthAtEnd a1 a3 m10) fun v11 m12 =>
        (if v9 ≤ v11 then
          F_X7_lookAhead_163 (F_X7_lookAhead_97 f_X7_lookAhead f) f_X7_lookAhead a1 r20 a3 r40 a5 m12
        else
          bnd (F_X7_comeTo a1 m12) fun _ m14 =>
          F_X7_lookAhead_163 (F_X7_lookAhead_97 f_X7_lookAhead f) f_X7_lookAhead a1 r20 a3 r40 a5 m14)))
set_option maxRecDepth 100000 in
set_option maxHeartbeats 4000000 in
theorem t_X7_lookAhead_97 {wn : Nat} (hn : NN ≤ wn) {pp : Program} {ll : Launch} {ee : Env} {ss : State} {mm : MethodId} {aa : Array Value} {bb : List Frame} {me : Method} {co : Code} {cx : CX} {dd : Nat}  {f_X7_lookAhead : Int32 → Mm → Option (Unit × Mm)}  (C : CM pp ss mm aa me co cX7_lookAhead 6 RX7 cx (none))  (hf_X7_lookAhead : ∀ (x1 : Int32) (m : Mm), MT ll yX7_lookAhead cX7_lookAhead 6 (none) (rmS_62 dd) cx wn wn Lay cvV 0 0 [.ref (cx.2.2.1 + 33), .int x1] m (f_X7_lookAhead x1 m))   : ∀ (f : Nat) (a1 : Int32) (r20 : Nat) (a3 : Int32) (r40 : Nat) (a5 : Int32) (m : Mm), TV pp ll ee (rmS_62 (dd + 1)) ss mm aa bb me co 6 cx wn 97 [(0, .ref (cx.2.2.1 + 33)), (1, .int a1), (2, .ref (cx.2.2.1 + r20)), (3, .int a3), (4, .ref (cx.2.2.1 + r40)), (5, .int a5)] [] m (F_X7_lookAhead_97 f_X7_lookAhead f a1 r20 a3 r40 a5 m) := by
  intro f
  induction f with
  | zero => exact fun _ _ _ _ _ _ => T_none
  | succ f ih =>
    intro a1 r20 a3 r40 a5 m
    unfold F_X7_lookAhead_97
    refine T_gdS (fun hr20 => ?_)
    refine T_gdS (fun hr40 => ?_)
    refine T_iload C.1 dX7_lookAhead_97 5 rfl ?_
    refine T_aload_n C.1 dX7_lookAhead_99 2 rfl ?_
    refine T_getI C.1 fd_X7_96 (fun _ _ _ _ => rfl) hr20 (Nat.le_trans (shp_le hr20 (by decide)) hn) dX7_lookAhead_100 ?_
    refine T_icmp_ge (tgt := 169) C.1 dX7_lookAhead_103 (by decide) ?_ ?_
    · exact T_vret C.1 C.2.1 C.2.2 dX7_lookAhead_169
    · refine T_aload_n C.1 dX7_lookAhead_106 2 rfl ?_
      refine T_iload C.1 dX7_lookAhead_107 5 rfl ?_
      refine T_aload_n C.1 dX7_lookAhead_109 0 rfl ?_
      refine T_getR (x := 2) C.1 fd_X7_43 (fun _ _ _ _ => rfl) sh33 (Nat.le_trans le33 hn) (fun _ h => h) rfl (by decide) dX7_lookAhead_110 ?_
      refine T_callVI (rm := rm_X2_mayRob) [.int a5, .ref (cx.2.2.1 + 2)] [] C.1 dX7_lookAhead_113 mw_X2_mayRob wm_3_12 wm_2_146 wm_2_147 (by constructor <;> (simp only [rmS_62, rm_X2_mayRob]; omega)) ⟨rfl, rfl⟩ ⟨Nat.zero_le _, Nat.zero_le _⟩ rfl rfl (Nat.le_of_ble_eq_true rfl) hr20 (Nat.le_trans (shp_le hr20 (by decide)) hn) ⟨rfl, rfl⟩ (c_X2_mayRob hn ll cx r20 a5 m) (fun v1 m2 => ?_)
      refine T_if_eq (tgt := 163) C.1 dX7_lookAhead_116 (by decide) ?_ ?_
      · exact T_sub [0, 1, 2, 3, 4, 5] rfl (t_X7_lookAhead_163 hn C hf_X7_lookAhead (ih) a1 r20 a3 r40 a5 m2)
      · refine T_aload C.1 dX7_lookAhead_119 4 rfl ?_
        refine T_aload_n C.1 dX7_lookAhead_121 2 rfl ?_
        refine T_callVV (rm := rm_X2_become) [.ref (cx.2.2.1 + r20)] [] C.1 dX7_lookAhead_122 mw_X2_become wm_3_3 wm_3_4 wm_3_5 (by constructor <;> (simp only [rmS_62, rm_X2_become]; omega)) ⟨rfl, rfl⟩ ⟨Nat.zero_le _, Nat.zero_le _⟩ rfl rfl (Nat.le_of_ble_eq_true rfl) hr40 (Nat.le_trans (shp_le hr40 (by decide)) hn) ⟨rfl, rfl⟩ (c_X2_become hn ll cx r40 r20 m2) (fun u3 m4 => ?_)
        refine T_aload C.1 dX7_lookAhead_125 4 rfl ?_
        refine T_iload_n C.1 dX7_lookAhead_127 3 rfl ?_
        refine T_iload C.1 dX7_lookAhead_128 5 rfl ?_
        refine T_callVI (rm := rm_X2_rob) [.int a3, .int a5] [] C.1 dX7_lookAhead_130 mw_X2_rob wm_3_13 wm_2_167 wm_2_168 (by constructor <;> (simp only [rmS_62, rm_X2_rob]; omega)) ⟨rfl, rfl⟩ ⟨Nat.zero_le _, Nat.zero_le _⟩ rfl rfl (Nat.le_of_ble_eq_true rfl) hr40 (Nat.le_trans (shp_le hr40 (by decide)) hn) ⟨rfl, rfl⟩ (c_X2_rob hn ll cx r40 a3 a5 m4) (fun v5 m6 => ?_)
        refine T_pop C.1 dX7_lookAhead_133 rfl ?_
        refine T_aload_n C.1 dX7_lookAhead_134 0 rfl ?_
        refine T_iload_n C.1 dX7_lookAhead_135 1 rfl ?_
        refine T_iconst C.1 dX7_lookAhead_136 ?_
        refine T_iadd C.1 dX7_lookAhead_137 ?_
        refine T_callVV (rm := (rmS_62 dd)) [.int (a1 + (iI 1))] [] C.1 dX7_lookAhead_138 mw_X7_lookAhead wm_2_237 wm_2_239 wm_p_6 (by constructor <;> (simp only [rmS_62]; omega)) ⟨rfl, rfl⟩ ⟨Nat.zero_le _, Nat.zero_le _⟩ rfl rfl (Nat.le_of_ble_eq_true rfl) sh33 (Nat.le_trans le33 hn) ⟨rfl, rfl⟩ (hf_X7_lookAhead (a1 + (iI 1)) m6) (fun u7 m8 => ?_)
        refine T_aload_n C.1 dX7_lookAhead_141 0 rfl ?_
        refine T_iload_n C.1 dX7_lookAhead_142 1 rfl ?_
        refine T_iconst C.1 dX7_lookAhead_143 ?_
        refine T_iadd C.1 dX7_lookAhead_144 ?_
        refine T_iload_n C.1 dX7_lookAhead_145 3 rfl ?_
        refine T_callVI (rm := rm_X7_worthAtEnd) [.int (a1 + (iI 1)), .int a3] [] C.1 dX7_lookAhead_146 mw_X7_worthAtEnd wm_3_14 wm_3_16 wm_p_8 (by constructor <;> (simp only [rmS_62, rm_X7_worthAtEnd]; omega)) ⟨rfl, rfl⟩ ⟨Nat.zero_le _, Nat.zero_le _⟩ rfl rfl (Nat.le_of_ble_eq_true rfl) sh33 (Nat.le_trans le33 hn) ⟨rfl, rfl⟩ (c_X7_worthAtEnd hn ll cx (a1 + (iI 1)) a3 m8) (fun v9 m10 => ?_)
        refine T_aload_n C.1 dX7_lookAhead_149 0 rfl ?_
        refine T_iload_n C.1 dX7_lookAhead_150 1 rfl ?_
        refine T_iload_n C.1 dX7_lookAhead_151 3 rfl ?_
        refine T_callVI (rm := rm_X7_worthAtEnd) [.int a1, .int a3] [.int v9] C.1 dX7_lookAhead_152 mw_X7_worthAtEnd wm_3_14 wm_3_16 wm_p_8 (by constructor <;> (simp only [rmS_62, rm_X7_worthAtEnd]; omega)) ⟨rfl, rfl⟩ ⟨Nat.zero_le _, Nat.zero_le _⟩ rfl rfl (Nat.le_of_ble_eq_true rfl) sh33 (Nat.le_trans le33 hn) ⟨rfl, rfl⟩ (c_X7_worthAtEnd hn ll cx a1 a3 m10) (fun v11 m12 => ?_)
        refine T_icmp_le (tgt := 163) C.1 dX7_lookAhead_155 (by decide) ?_ ?_
        · exact T_sub [0, 1, 2, 3, 4, 5] rfl (t_X7_lookAhead_163 hn C hf_X7_lookAhead (ih) a1 r20 a3 r40 a5 m12)
        · refine T_aload_n C.1 dX7_lookAhead_158 0 rfl ?_
          refine T_iload_n C.1 dX7_lookAhead_159 1 rfl ?_
          refine T_callVV (rm := rm_X7_comeTo) [.int a1] [] C.1 dX7_lookAhead_160 mw_X7_comeTo wm_3_8 wm_3_10 wm_p_7 (by constructor <;> (simp only [rmS_62, rm_X7_comeTo]; omega)) ⟨rfl, rfl⟩ ⟨Nat.zero_le _, Nat.zero_le _⟩ rfl rfl (Nat.le_of_ble_eq_true rfl) sh33 (Nat.le_trans le33 hn) ⟨rfl, rfl⟩ (c_X7_comeTo hn ll cx a1 m12) (fun u13 m14 => ?_)
          exact T_sub [0, 1, 2, 3, 4, 5] rfl (t_X7_lookAhead_163 hn C hf_X7_lookAhead (ih) a1 r20 a3 r40 a5 m14)
def B_X7_lookAhead (f_X7_lookAhead : Int32 → Mm → Option (Unit × Mm)) (x1 : Int32) (m : Mm) : Option (Unit × Mm) :=
  rd 10 x1 fun j1 =>
  bnd (F_X2_whoseTurn (50 + 5 * j1) m) fun v2 m3 =>
  (if v2 < iI 0 then
    F_X7_lookAhead_28 f_X7_lookAhead x1 (50 + 5 * j1) m3
  else
    (if (x1 + (iI 1)) < (iI 10) then
      rd 10 (x1 + (iI 1)) fun j4 =>
      bnd (F_X2_become (50 + 5 * j4) (50 + 5 * j1) m3) fun _ m6 =>
      bnd (F_X2_unwrap (50 + 5 * j4) v2 m6) fun v7 m8 =>
      bnd (f_X7_lookAhead (x1 + (iI 1)) m8) fun _ m10 =>
      bnd (F_X7_comeTo x1 m10) fun _ m12 =>
      F_X7_lookAhead_97 f_X7_lookAhead FU x1 (50 + 5 * j1) v2 (50 + 5 * j4) (iI 0) m12
    else
      F_X7_lookAhead_28 f_X7_lookAhead x1 (50 + 5 * j1) m3))
set_option maxRecDepth 100000 in
set_option maxHeartbeats 4000000 in
theorem b_X7_lookAhead {wn : Nat} (hn : NN ≤ wn) {ll : Launch} {cx : CX} {dd : Nat} (f_X7_lookAhead : Int32 → Mm → Option (Unit × Mm)) (hf_X7_lookAhead : ∀ (x1 : Int32) (m : Mm), MT ll yX7_lookAhead cX7_lookAhead 6 (none) (rmS_62 dd) cx wn wn Lay cvV 0 0 [.ref (cx.2.2.1 + 33), .int x1] m (f_X7_lookAhead x1 m))  (x1 : Int32) (m : Mm) : MT ll yX7_lookAhead cX7_lookAhead 6 (none) (rmS_62 (dd + 1)) cx wn wn Lay cvV 0 0 [.ref (cx.2.2.1 + 33), .int x1] m (B_X7_lookAhead f_X7_lookAhead x1 m) := by
  refine MT_of (by decide) (Nat.le_of_ble_eq_true rfl) ?_
  intro pp ee ss mm aa bb me co hK hr hk hn0
  have C : CM pp ss mm aa me co cX7_lookAhead 6 RX7 cx (none) := ⟨hK, hr, hk⟩
  show TV pp ll ee (rmS_62 (dd + 1)) ss mm aa bb me co 6 cx wn 0 [(0, .ref (cx.2.2.1 + 33)), (1, .int x1)] [] m (B_X7_lookAhead f_X7_lookAhead x1 m)
  unfold B_X7_lookAhead
  refine T_aload_n C.1 dX7_lookAhead_0 0 rfl ?_
  refine T_getR (x := 34) C.1 fd_X7_13 (fun _ _ _ _ => rfl) sh33 (Nat.le_trans le33 hn) (fun _ h => h) rfl (by decide) dX7_lookAhead_1 ?_
  refine T_iload_n C.1 dX7_lookAhead_4 1 rfl ?_
  refine T_aald (x := fun j => 50 + 5 * j) C.1 dX7_lookAhead_5 (by decide) sh34 (Nat.le_trans le34 hn) (fun _ h => h) ar34 (fun j1 hj1 => ?_)
  refine T_astore_n (lv' := [(2, .ref (cx.2.2.1 + (50 + 5 * j1))), (0, .ref (cx.2.2.1 + 33)), (1, .int x1)]) C.1 dX7_lookAhead_6 (by decide) rfl ?_
  refine T_aload_n C.1 dX7_lookAhead_7 0 rfl ?_
  refine T_aload_n C.1 dX7_lookAhead_8 1 rfl ?_
  refine T_getR (x := 2) C.1 fd_X7_43 (fun _ _ _ _ => rfl) sh33 (Nat.le_trans le33 hn) (fun _ h => h) rfl (by decide) dX7_lookAhead_9 ?_
  refine T_callVI (rm := rm_X2_whoseTurn) [.ref (cx.2.2.1 + 2)] [] C.1 dX7_lookAhead_12 mw_X2_whoseTurn wm_3_1 wm_2_99 wm_2_100 (by constructor <;> (simp only [rmS_62, rm_X2_whoseTurn]; omega)) ⟨rfl, rfl⟩ ⟨Nat.zero_le _, Nat.zero_le _⟩ rfl rfl (Nat.le_of_ble_eq_true rfl) (shar34 hj1) (Nat.le_trans (shp_le (shar34 hj1) (by decide)) hn) ⟨rfl, rfl⟩ (c_X2_whoseTurn hn ll cx (50 + 5 * j1) m) (fun v2 m3 => ?_)
  refine T_istore_n (lv' := [(3, .int v2), (2, .ref (cx.2.2.1 + (50 + 5 * j1))), (0, .ref (cx.2.2.1 + 33)), (1, .int x1)]) C.1 dX7_lookAhead_15 (by decide) rfl ?_
  refine T_iload_n C.1 dX7_lookAhead_16 0 rfl ?_
  refine T_if_lt (tgt := 28) C.1 dX7_lookAhead_17 (by decide) ?_ ?_
  · exact T_sub [2, 3, 1] rfl (t_X7_lookAhead_28 hn C hf_X7_lookAhead x1 (50 + 5 * j1) m3)
  · refine T_iload_n C.1 dX7_lookAhead_20 3 rfl ?_
    refine T_iconst C.1 dX7_lookAhead_21 ?_
    refine T_iadd C.1 dX7_lookAhead_22 ?_
    refine T_bipush C.1 dX7_lookAhead_23 rfl ?_
    refine T_icmp_lt (tgt := 59) C.1 dX7_lookAhead_25 (by decide) ?_ ?_
    · refine T_aload_n C.1 dX7_lookAhead_59 2 rfl ?_
      refine T_getR (x := 34) C.1 fd_X7_13 (fun _ _ _ _ => rfl) sh33 (Nat.le_trans le33 hn) (fun _ h => h) rfl (by decide) dX7_lookAhead_60 ?_
      refine T_iload_n C.1 dX7_lookAhead_63 3 rfl ?_
      refine T_iconst C.1 dX7_lookAhead_64 ?_
      refine T_iadd C.1 dX7_lookAhead_65 ?_
      refine T_aald (x := fun j => 50 + 5 * j) C.1 dX7_lookAhead_66 (by decide) sh34 (Nat.le_trans le34 hn) (fun _ h => h) ar34 (fun j4 hj4 => ?_)
      refine T_astore (lv' := [(4, .ref (cx.2.2.1 + (50 + 5 * j4))), (3, .int v2), (2, .ref (cx.2.2.1 + (50 + 5 * j1))), (0, .ref (cx.2.2.1 + 33)), (1, .int x1)]) C.1 dX7_lookAhead_67 (by decide) rfl ?_
      refine T_aload C.1 dX7_lookAhead_69 0 rfl ?_
      refine T_aload_n C.1 dX7_lookAhead_71 2 rfl ?_
      refine T_callVV (rm := rm_X2_become) [.ref (cx.2.2.1 + (50 + 5 * j1))] [] C.1 dX7_lookAhead_72 mw_X2_become wm_3_3 wm_3_4 wm_3_5 (by constructor <;> (simp only [rmS_62, rm_X2_become]; omega)) ⟨rfl, rfl⟩ ⟨Nat.zero_le _, Nat.zero_le _⟩ rfl rfl (Nat.le_of_ble_eq_true rfl) (shar34 hj4) (Nat.le_trans (shp_le (shar34 hj4) (by decide)) hn) ⟨rfl, rfl⟩ (c_X2_become hn ll cx (50 + 5 * j4) (50 + 5 * j1) m3) (fun u5 m6 => ?_)
      refine T_aload C.1 dX7_lookAhead_75 0 rfl ?_
      refine T_iload_n C.1 dX7_lookAhead_77 1 rfl ?_
      refine T_callVI (rm := rm_X2_unwrap) [.int v2] [] C.1 dX7_lookAhead_78 mw_X2_unwrap wm_3_7 wm_2_107 wm_2_108 (by constructor <;> (simp only [rmS_62, rm_X2_unwrap]; omega)) ⟨rfl, rfl⟩ ⟨Nat.zero_le _, Nat.zero_le _⟩ rfl rfl (Nat.le_of_ble_eq_true rfl) (shar34 hj4) (Nat.le_trans (shp_le (shar34 hj4) (by decide)) hn) ⟨rfl, rfl⟩ (c_X2_unwrap hn ll cx (50 + 5 * j4) v2 m6) (fun v7 m8 => ?_)
      refine T_pop C.1 dX7_lookAhead_81 rfl ?_
      refine T_aload_n C.1 dX7_lookAhead_82 3 rfl ?_
      refine T_iload_n C.1 dX7_lookAhead_83 4 rfl ?_
      refine T_iconst C.1 dX7_lookAhead_84 ?_
      refine T_iadd C.1 dX7_lookAhead_85 ?_
      refine T_callVV (rm := (rmS_62 dd)) [.int (x1 + (iI 1))] [] C.1 dX7_lookAhead_86 mw_X7_lookAhead wm_2_237 wm_2_239 wm_p_6 (by constructor <;> (simp only [rmS_62]; omega)) ⟨rfl, rfl⟩ ⟨Nat.zero_le _, Nat.zero_le _⟩ rfl rfl (Nat.le_of_ble_eq_true rfl) sh33 (Nat.le_trans le33 hn) ⟨rfl, rfl⟩ (hf_X7_lookAhead (x1 + (iI 1)) m8) (fun u9 m10 => ?_)
      refine T_aload_n C.1 dX7_lookAhead_89 3 rfl ?_
      refine T_iload_n C.1 dX7_lookAhead_90 4 rfl ?_
      refine T_callVV (rm := rm_X7_comeTo) [.int x1] [] C.1 dX7_lookAhead_91 mw_X7_comeTo wm_3_8 wm_3_10 wm_p_7 (by constructor <;> (simp only [rmS_62, rm_X7_comeTo]; omega)) ⟨rfl, rfl⟩ ⟨Nat.zero_le _, Nat.zero_le _⟩ rfl rfl (Nat.le_of_ble_eq_true rfl) sh33 (Nat.le_trans le33 hn) ⟨rfl, rfl⟩ (c_X7_comeTo hn ll cx x1 m10) (fun u11 m12 => ?_)
      refine T_iconst C.1 dX7_lookAhead_94 ?_
      refine T_istore (lv' := [(5, .int (iI 0)), (4, .ref (cx.2.2.1 + (50 + 5 * j4))), (3, .int v2), (2, .ref (cx.2.2.1 + (50 + 5 * j1))), (0, .ref (cx.2.2.1 + 33)), (1, .int x1)]) C.1 dX7_lookAhead_95 (by decide) rfl ?_
      exact T_sub [4, 5, 3, 2, 1, 0] rfl (t_X7_lookAhead_97 hn C hf_X7_lookAhead FU x1 (50 + 5 * j1) v2 (50 + 5 * j4) (iI 0) m12)
    · exact T_sub [2, 3, 1] rfl (t_X7_lookAhead_28 hn C hf_X7_lookAhead x1 (50 + 5 * j1) m3)
def R_62 : Nat → (Int32 → Mm → Option (Unit × Mm))
  | 0 => (fun _ _ => none)
  | d + 1 => (B_X7_lookAhead (R_62 d))
set_option maxRecDepth 100000 in
set_option maxHeartbeats 4000000 in
theorem r_62 {wn : Nat} (hn : NN ≤ wn) (ll : Launch) (cx : CX) : ∀ d : Nat, (∀ (x1 : Int32) (m : Mm), MT ll yX7_lookAhead cX7_lookAhead 6 (none) (rmS_62 d) cx wn wn Lay cvV 0 0 [.ref (cx.2.2.1 + 33), .int x1] m ((R_62 d) x1 m))
  | 0 => fun _ _ => fun r μ1 h => (by cases (show (none : Option (Unit × Mm)) = some (r, μ1) from h))
  | d + 1 => b_X7_lookAhead hn _ (r_62 hn ll cx d)
def F_X7_lookAhead (x1 : Int32) (m : Mm) : Option (Unit × Mm) := (R_62 40) x1 m
theorem c_X7_lookAhead {wn : Nat} (hn : NN ≤ wn) (ll : Launch) (cx : CX) (x1 : Int32) (m : Mm) : MT ll yX7_lookAhead cX7_lookAhead 6 (none) (rmS_62 40) cx wn wn Lay cvV 0 0 [.ref (cx.2.2.1 + 33), .int x1] m (F_X7_lookAhead x1 m) := (r_62 hn ll cx 40) x1 m
def rm_X7_eachForItself : Room := { frames := 44, cells := 0, slots := 0, locals := 1110 }
def F_X7_eachForItself  (r1 : Nat) (x2 : Int32) (m : Mm) : Option (Int32 × Mm) :=
  (if shp r1 = (1, 7) then
    rd 10 (iI 0) fun j1 =>
    bnd (F_X2_beginBy (50 + 5 * j1) r1 m) fun _ m3 =>
    bnd (F_X7_lookAhead (iI 0) m3) fun _ m5 =>
    rd 10 (iI 0) fun j6 =>
    (if x2 = (iI (-1)) then
      rd 8 (iI 7) fun j8 =>
      some ((gI m5 (36 + 1 * j6) j8), m5)
    else
      rd 8 x2 fun j7 =>
      some ((gI m5 (36 + 1 * j6) j7), m5))
  else none)
set_option maxRecDepth 100000 in
set_option maxHeartbeats 4000000 in
theorem c_X7_eachForItself {wn : Nat} (hn : NN ≤ wn) (ll : Launch) (cx : CX) (r1 : Nat) (x2 : Int32) (m : Mm) : MT ll yX7_eachForItself cX7_eachForItself 3 ((some .int)) rm_X7_eachForItself cx wn wn Lay cvI 0 0 [.ref (cx.2.2.1 + 33), .ref (cx.2.2.1 + r1), .int x2] m (F_X7_eachForItself r1 x2 m) := by
  refine MT_of (by decide) (Nat.le_of_ble_eq_true rfl) ?_
  intro pp ee ss mm aa bb me co hK hr hk hn0
  have C : CM pp ss mm aa me co cX7_eachForItself 3 RX7 cx ((some .int)) := ⟨hK, hr, hk⟩
  show TI pp ll ee rm_X7_eachForItself ss mm aa bb me co 3 cx wn 0 [(0, .ref (cx.2.2.1 + 33)), (1, .ref (cx.2.2.1 + r1)), (2, .int x2)] [] m (F_X7_eachForItself r1 x2 m)
  unfold F_X7_eachForItself
  refine T_if (fun hr1 => ?_) (fun _ => T_none)
  refine T_aload_n C.1 dX7_eachForItself_0 0 rfl ?_
  refine T_getR (x := 34) C.1 fd_X7_13 (fun _ _ _ _ => rfl) sh33 (Nat.le_trans le33 hn) (fun _ h => h) rfl (by decide) dX7_eachForItself_1 ?_
  refine T_iconst C.1 dX7_eachForItself_4 ?_
  refine T_aald (x := fun j => 50 + 5 * j) C.1 dX7_eachForItself_5 (by decide) sh34 (Nat.le_trans le34 hn) (fun _ h => h) ar34 (fun j1 hj1 => ?_)
  refine T_aload_n C.1 dX7_eachForItself_6 1 rfl ?_
  refine T_callVV (rm := rm_X2_beginBy) [.ref (cx.2.2.1 + r1)] [] C.1 dX7_eachForItself_7 mw_X2_beginBy wm_2_210 wm_2_211 wm_2_212 ⟨Nat.le_of_ble_eq_true rfl, Nat.le_of_ble_eq_true rfl⟩ ⟨rfl, rfl⟩ ⟨Nat.zero_le _, Nat.zero_le _⟩ rfl rfl (Nat.le_of_ble_eq_true rfl) (shar34 hj1) (Nat.le_trans (shp_le (shar34 hj1) (by decide)) hn) ⟨rfl, rfl⟩ (c_X2_beginBy hn ll cx (50 + 5 * j1) r1 m) (fun u2 m3 => ?_)
  refine T_aload_n C.1 dX7_eachForItself_10 0 rfl ?_
  refine T_iconst C.1 dX7_eachForItself_11 ?_
  refine T_callVV (rm := (rmS_62 40)) [.int (iI 0)] [] C.1 dX7_eachForItself_12 mw_X7_lookAhead wm_2_237 wm_2_239 wm_p_6 ⟨Nat.le_of_ble_eq_true rfl, Nat.le_of_ble_eq_true rfl⟩ ⟨rfl, rfl⟩ ⟨Nat.zero_le _, Nat.zero_le _⟩ rfl rfl (Nat.le_of_ble_eq_true rfl) sh33 (Nat.le_trans le33 hn) ⟨rfl, rfl⟩ (c_X7_lookAhead hn ll cx (iI 0) m3) (fun u4 m5 => ?_)
  refine T_aload_n C.1 dX7_eachForItself_15 0 rfl ?_
  refine T_getR (x := 35) C.1 fd_X7_19 (fun _ _ _ _ => rfl) sh33 (Nat.le_trans le33 hn) (fun _ h => h) rfl (by decide) dX7_eachForItself_16 ?_
  refine T_iconst C.1 dX7_eachForItself_19 ?_
  refine T_aald (x := fun j => 36 + 1 * j) C.1 dX7_eachForItself_20 (by decide) sh35 (Nat.le_trans le35 hn) (fun _ h => h) ar35 (fun j6 hj6 => ?_)
  refine T_iload_n C.1 dX7_eachForItself_21 2 rfl ?_
  refine T_iconst C.1 dX7_eachForItself_22 ?_
  refine T_icmp_ne (tgt := 31) C.1 dX7_eachForItself_23 (by decide) ?_ ?_
  · refine T_iload_n C.1 dX7_eachForItself_31 2 rfl ?_
    refine T_iald C.1 dX7_eachForItself_32 (shar35 hj6) (Nat.le_trans (shp_le (shar35 hj6) (by decide)) hn) (fun j7 => ?_)
    exact T_iret C.1 C.2.1 C.2.2 dX7_eachForItself_33
  · refine T_bipush C.1 dX7_eachForItself_26 rfl ?_
    refine T_goto (tgt := 32) C.1 dX7_eachForItself_28 (by decide) ?_
    refine T_iald C.1 dX7_eachForItself_32 (shar35 hj6) (Nat.le_trans (shp_le (shar35 hj6) (by decide)) hn) (fun j8 => ?_)
    exact T_iret C.1 C.2.1 C.2.2 dX7_eachForItself_33
def rm_J6_bitCount_0f7a4 : Room := { frames := 1, cells := 0, slots := 0, locals := 40 }
def F_J6_bitCount_0f7a4  (x1 : Int32) (m : Mm) : Option (Int32 × Mm) :=
  nm (x1 - (((x1.toUInt32 >>> ((iI 1).toUInt32 &&& Int32.toUInt32 31)).toInt32) &&& (iI (1431655765)))) fun v1 =>
  nm ((v1 &&& (iI (858993459))) + (((v1.toUInt32 >>> ((iI 2).toUInt32 &&& Int32.toUInt32 31)).toInt32) &&& (iI (858993459)))) fun v2 =>
  nm ((v2 + ((v2.toUInt32 >>> ((iI 4).toUInt32 &&& Int32.toUInt32 31)).toInt32)) &&& (iI (252645135))) fun v3 =>
  nm (v3 + ((v3.toUInt32 >>> ((iI 8).toUInt32 &&& Int32.toUInt32 31)).toInt32)) fun v4 =>
  nm (v4 + ((v4.toUInt32 >>> ((iI 16).toUInt32 &&& Int32.toUInt32 31)).toInt32)) fun v5 =>
  some ((v5 &&& (iI 63)), m)
set_option maxRecDepth 100000 in
set_option maxHeartbeats 4000000 in
theorem c_J6_bitCount_0f7a4 {wn : Nat} (hn : NN ≤ wn) (ll : Launch) (cx : CX) (x1 : Int32) (m : Mm) : MT ll yJ6_bitCount_0f7a4 cJ6_bitCount_0f7a4 1 ((some .int)) rm_J6_bitCount_0f7a4 cx wn wn Lay cvI 0 0 [.int x1] m (F_J6_bitCount_0f7a4 x1 m) := by
  refine MT_of (by decide) (Nat.le_of_ble_eq_true rfl) ?_
  intro pp ee ss mm aa bb me co hK hr hk hn0
  have C : CM pp ss mm aa me co cJ6_bitCount_0f7a4 1 RJ6 cx ((some .int)) := ⟨hK, hr, hk⟩
  show TI pp ll ee rm_J6_bitCount_0f7a4 ss mm aa bb me co 1 cx wn 0 [(0, .int x1)] [] m (F_J6_bitCount_0f7a4 x1 m)
  unfold F_J6_bitCount_0f7a4
  refine T_iload_n C.1 dJ6_bitCount_0f7a4_0 0 rfl ?_
  refine T_iload_n C.1 dJ6_bitCount_0f7a4_1 0 rfl ?_
  refine T_iconst C.1 dJ6_bitCount_0f7a4_2 ?_
  refine T_iushr C.1 dJ6_bitCount_0f7a4_3 ?_
  refine T_ldcw C.1 dJ6_bitCount_0f7a4_4 wc_J6_265 ?_
  refine T_iand C.1 dJ6_bitCount_0f7a4_7 ?_
  refine T_isub C.1 dJ6_bitCount_0f7a4_8 ?_
  refine T_istore_nN C.1 (fun v1 => [(0, .int v1)]) dJ6_bitCount_0f7a4_9 (by decide) (fun _ => rfl) (fun v1 => ?_)
  refine T_iload_n C.1 dJ6_bitCount_0f7a4_10 0 rfl ?_
  refine T_ldcw C.1 dJ6_bitCount_0f7a4_11 wc_J6_266 ?_
  refine T_iand C.1 dJ6_bitCount_0f7a4_14 ?_
  refine T_iload_n C.1 dJ6_bitCount_0f7a4_15 0 rfl ?_
  refine T_iconst C.1 dJ6_bitCount_0f7a4_16 ?_
  refine T_iushr C.1 dJ6_bitCount_0f7a4_17 ?_
  refine T_ldcw C.1 dJ6_bitCount_0f7a4_18 wc_J6_266 ?_
  refine T_iand C.1 dJ6_bitCount_0f7a4_21 ?_
  refine T_iadd C.1 dJ6_bitCount_0f7a4_22 ?_
  refine T_istore_nN C.1 (fun v2 => [(0, .int v2)]) dJ6_bitCount_0f7a4_23 (by decide) (fun _ => rfl) (fun v2 => ?_)
  refine T_iload_n C.1 dJ6_bitCount_0f7a4_24 0 rfl ?_
  refine T_iload_n C.1 dJ6_bitCount_0f7a4_25 0 rfl ?_
  refine T_iconst C.1 dJ6_bitCount_0f7a4_26 ?_
  refine T_iushr C.1 dJ6_bitCount_0f7a4_27 ?_
  refine T_iadd C.1 dJ6_bitCount_0f7a4_28 ?_
  refine T_ldcw C.1 dJ6_bitCount_0f7a4_29 wc_J6_267 ?_
  refine T_iand C.1 dJ6_bitCount_0f7a4_32 ?_
  refine T_istore_nN C.1 (fun v3 => [(0, .int v3)]) dJ6_bitCount_0f7a4_33 (by decide) (fun _ => rfl) (fun v3 => ?_)
  refine T_iload_n C.1 dJ6_bitCount_0f7a4_34 0 rfl ?_
  refine T_iload_n C.1 dJ6_bitCount_0f7a4_35 0 rfl ?_
  refine T_bipush C.1 dJ6_bitCount_0f7a4_36 rfl ?_
  refine T_iushr C.1 dJ6_bitCount_0f7a4_38 ?_
  refine T_iadd C.1 dJ6_bitCount_0f7a4_39 ?_
  refine T_istore_nN C.1 (fun v4 => [(0, .int v4)]) dJ6_bitCount_0f7a4_40 (by decide) (fun _ => rfl) (fun v4 => ?_)
  refine T_iload_n C.1 dJ6_bitCount_0f7a4_41 0 rfl ?_
  refine T_iload_n C.1 dJ6_bitCount_0f7a4_42 0 rfl ?_
  refine T_bipush C.1 dJ6_bitCount_0f7a4_43 rfl ?_
  refine T_iushr C.1 dJ6_bitCount_0f7a4_45 ?_
  refine T_iadd C.1 dJ6_bitCount_0f7a4_46 ?_
  refine T_istore_nN C.1 (fun v5 => [(0, .int v5)]) dJ6_bitCount_0f7a4_47 (by decide) (fun _ => rfl) (fun v5 => ?_)
  refine T_iload_n C.1 dJ6_bitCount_0f7a4_48 0 rfl ?_
  refine T_bipush C.1 dJ6_bitCount_0f7a4_49 rfl ?_
  refine T_iand C.1 dJ6_bitCount_0f7a4_51 ?_
  exact T_iret C.1 C.2.1 C.2.2 dJ6_bitCount_0f7a4_52
def rm_X7_worthWithAllBehind : Room := { frames := 2, cells := 0, slots := 0, locals := 63 }
def F_X7_worthWithAllBehind  (x1 : Int32) (x2 : Int32) (x3 : Int32) (m : Mm) : Option (Int32 × Mm) :=
  bnd (F_X4_worthFor x1 x2 m) fun v1 m2 =>
  rd 128 (x3 ||| ((iI 1) <<< (x2 &&& 31))) fun j3 =>
  some ((v1 + (gI m2 46 j3)), m2)
set_option maxRecDepth 100000 in
set_option maxHeartbeats 4000000 in
theorem c_X7_worthWithAllBehind {wn : Nat} (hn : NN ≤ wn) (ll : Launch) (cx : CX) (x1 : Int32) (x2 : Int32) (x3 : Int32) (m : Mm) : MT ll yX7_worthWithAllBehind cX7_worthWithAllBehind 4 ((some .int)) rm_X7_worthWithAllBehind cx wn wn Lay cvI 0 0 [.ref (cx.2.2.1 + 33), .int x1, .int x2, .int x3] m (F_X7_worthWithAllBehind x1 x2 x3 m) := by
  refine MT_of (by decide) (Nat.le_of_ble_eq_true rfl) ?_
  intro pp ee ss mm aa bb me co hK hr hk hn0
  have C : CM pp ss mm aa me co cX7_worthWithAllBehind 4 RX7 cx ((some .int)) := ⟨hK, hr, hk⟩
  show TI pp ll ee rm_X7_worthWithAllBehind ss mm aa bb me co 4 cx wn 0 [(0, .ref (cx.2.2.1 + 33)), (1, .int x1), (2, .int x2), (3, .int x3)] [] m (F_X7_worthWithAllBehind x1 x2 x3 m)
  unfold F_X7_worthWithAllBehind
  refine T_aload_n C.1 dX7_worthWithAllBehind_0 0 rfl ?_
  refine T_getR (x := 2) C.1 fd_X7_43 (fun _ _ _ _ => rfl) sh33 (Nat.le_trans le33 hn) (fun _ h => h) rfl (by decide) dX7_worthWithAllBehind_1 ?_
  refine T_iload_n C.1 dX7_worthWithAllBehind_4 1 rfl ?_
  refine T_iload_n C.1 dX7_worthWithAllBehind_5 2 rfl ?_
  refine T_callVI (rm := rm_X4_worthFor) [.int x1, .int x2] [] C.1 dX7_worthWithAllBehind_6 mw_X4_worthFor wm_3_18 wm_2_132 wm_2_133 ⟨Nat.le_of_ble_eq_true rfl, Nat.le_of_ble_eq_true rfl⟩ ⟨rfl, rfl⟩ ⟨Nat.zero_le _, Nat.zero_le _⟩ rfl rfl (Nat.le_of_ble_eq_true rfl) sh2 (Nat.le_trans le2 hn) ⟨rfl, rfl⟩ (c_X4_worthFor hn ll cx x1 x2 m) (fun v1 m2 => ?_)
  refine T_aload_n C.1 dX7_worthWithAllBehind_9 0 rfl ?_
  refine T_getR (x := 46) C.1 fd_X7_22 (fun _ _ _ _ => rfl) sh33 (Nat.le_trans le33 hn) (fun _ h => h) rfl (by decide) dX7_worthWithAllBehind_10 ?_
  refine T_iload_n C.1 dX7_worthWithAllBehind_13 3 rfl ?_
  refine T_iconst C.1 dX7_worthWithAllBehind_14 ?_
  refine T_iload_n C.1 dX7_worthWithAllBehind_15 2 rfl ?_
  refine T_ishl C.1 dX7_worthWithAllBehind_16 ?_
  refine T_ior C.1 dX7_worthWithAllBehind_17 ?_
  refine T_iald C.1 dX7_worthWithAllBehind_18 sh46 (Nat.le_trans le46 hn) (fun j3 => ?_)
  refine T_iadd C.1 dX7_worthWithAllBehind_19 ?_
  exact T_iret C.1 C.2.1 C.2.2 dX7_worthWithAllBehind_20
def rm_X7_fillMostBehind : Room := { frames := 3, cells := 0, slots := 0, locals := 86 }
def F_X7_fillMostBehind_74 (k_23 : Int32 → Mm → Option (Unit × Mm)) (k_38 : Int32 → Int32 → Int32 → Int32 → Mm → Option (Unit × Mm)) (a1 : Int32) (a2 : Int32) (a3 : Int32) (a4 : Int32) (m : Mm) : Option (Unit × Mm) :=
  nm (a4 + (iI 1)) fun v1 =>
  k_38 a1 a2 a3 v1 m
set_option maxRecDepth 100000 in
set_option maxHeartbeats 4000000 in
theorem t_X7_fillMostBehind_74 {wn : Nat} (hn : NN ≤ wn) {pp : Program} {ll : Launch} {ee : Env} {ss : State} {mm : MethodId} {aa : Array Value} {bb : List Frame} {me : Method} {co : Code} {cx : CX}  {k_23 : Int32 → Mm → Option (Unit × Mm)} {k_38 : Int32 → Int32 → Int32 → Int32 → Mm → Option (Unit × Mm)}   (C : CM pp ss mm aa me co cX7_fillMostBehind 6 RX7 cx (none))   (hk_23 : ∀ (a1 : Int32) (m : Mm), TV pp ll ee rm_X7_fillMostBehind ss mm aa bb me co 6 cx wn 23 [(0, .ref (cx.2.2.1 + 33)), (2, .int a1)] [] m (k_23 a1 m)) (hk_38 : ∀ (a1 : Int32) (a2 : Int32) (a3 : Int32) (a4 : Int32) (m : Mm), TV pp ll ee rm_X7_fillMostBehind ss mm aa bb me co 6 cx wn 38 [(0, .ref (cx.2.2.1 + 33)), (2, .int a1), (3, .int a2), (4, .int a3), (5, .int a4)] [] m (k_38 a1 a2 a3 a4 m)) (a1 : Int32) (a2 : Int32) (a3 : Int32) (a4 : Int32) (m : Mm) : TV pp ll ee rm_X7_fillMostBehind ss mm aa bb me co 6 cx wn 74 [(0, .ref (cx.2.2.1 + 33)), (2, .int a1), (3, .int a2), (4, .int a3), (5, .int a4)] [] m (F_X7_fillMostBehind_74 k_23 k_38 a1 a2 a3 a4 m) := by
  unfold F_X7_fillMostBehind_74
  refine T_iincN C.1 (fun v1 => [(5, .int v1), (0, .ref (cx.2.2.1 + 33)), (2, .int a1), (3, .int a2), (4, .int a3)]) dX7_fillMostBehind_74 4 rfl (by decide) (fun _ => rfl) (fun v1 => ?_)
  refine T_goto (tgt := 38) C.1 dX7_fillMostBehind_77 (by decide) ?_
  exact T_sub [1, 2, 3, 4, 0] rfl (hk_38 a1 a2 a3 v1 m)
def F_X7_fillMostBehind_38 (k_23 : Int32 → Mm → Option (Unit × Mm)) : Nat → Int32 → Int32 → Int32 → Int32 → Mm → Option (Unit × Mm)
  | 0, _, _, _, _, _ => none
  | f + 1, a1, a2, a3, a4, m =>
    (if (gI m 2 0) ≤ a4 then
      wrI 128 m 46 a1 a3 fun m1 =>
      nm (a1 + (iI (-1))) fun v2 =>
      k_23 v2 m1
    else
      (if ((a1 >>> (a4 &&& 31)) &&& (iI 1)) = iI 0 then
        bnd (F_X7_worthWithAllBehind a2 a4 a1 m) fun v3 m4 =>
        nm (mxI a3 v3) fun v5 =>
        F_X7_fillMostBehind_74 (k_23) (F_X7_fillMostBehind_38 k_23 f) a1 a2 v5 a4 m4
      else
        F_X7_fillMostBehind_74 (k_23) (F_X7_fillMostBehind_38 k_23 f) a1 a2 a3 a4 m))
set_option maxRecDepth 100000 in
set_option maxHeartbeats 4000000 in
theorem t_X7_fillMostBehind_38 {wn : Nat} (hn : NN ≤ wn) {pp : Program} {ll : Launch} {ee : Env} {ss : State} {mm : MethodId} {aa : Array Value} {bb : List Frame} {me : Method} {co : Code} {cx : CX}  {k_23 : Int32 → Mm → Option (Unit × Mm)}   (C : CM pp ss mm aa me co cX7_fillMostBehind 6 RX7 cx (none))   (hk_23 : ∀ (a1 : Int32) (m : Mm), TV pp ll ee rm_X7_fillMostBehind ss mm aa bb me co 6 cx wn 23 [(0, .ref (cx.2.2.1 + 33)), (2, .int a1)] [] m (k_23 a1 m)) : ∀ (f : Nat) (a1 : Int32) (a2 : Int32) (a3 : Int32) (a4 : Int32) (m : Mm), TV pp ll ee rm_X7_fillMostBehind ss mm aa bb me co 6 cx wn 38 [(0, .ref (cx.2.2.1 + 33)), (2, .int a1), (3, .int a2), (4, .int a3), (5, .int a4)] [] m (F_X7_fillMostBehind_38 k_23 f a1 a2 a3 a4 m) := by
  intro f
  induction f with
  | zero => exact fun _ _ _ _ _ => T_none
  | succ f ih =>
    intro a1 a2 a3 a4 m
    unfold F_X7_fillMostBehind_38
    refine T_iload C.1 dX7_fillMostBehind_38 4 rfl ?_
    refine T_aload_n C.1 dX7_fillMostBehind_40 0 rfl ?_
    refine T_getR (x := 2) C.1 fd_X7_43 (fun _ _ _ _ => rfl) sh33 (Nat.le_trans le33 hn) (fun _ h => h) rfl (by decide) dX7_fillMostBehind_41 ?_
    refine T_getI C.1 fd_X7_52 (fun _ _ _ _ => rfl) sh2 (Nat.le_trans le2 hn) dX7_fillMostBehind_44 ?_
    refine T_icmp_ge (tgt := 80) C.1 dX7_fillMostBehind_47 (by decide) ?_ ?_
    · refine T_aload_n C.1 dX7_fillMostBehind_80 0 rfl ?_
      refine T_getR (x := 46) C.1 fd_X7_22 (fun _ _ _ _ => rfl) sh33 (Nat.le_trans le33 hn) (fun _ h => h) rfl (by decide) dX7_fillMostBehind_81 ?_
      refine T_iload_n C.1 dX7_fillMostBehind_84 1 rfl ?_
      refine T_iload C.1 dX7_fillMostBehind_85 3 rfl ?_
      refine T_iast C.1 LyI_Lay sh46 (Nat.le_trans le46 hn) dX7_fillMostBehind_87 (fun m1 => ?_)
      refine T_iincN C.1 (fun v2 => [(2, .int v2), (0, .ref (cx.2.2.1 + 33)), (3, .int a2), (4, .int a3), (5, .int a4)]) dX7_fillMostBehind_88 1 rfl (by decide) (fun _ => rfl) (fun v2 => ?_)
      refine T_goto (tgt := 23) C.1 dX7_fillMostBehind_91 (by decide) ?_
      exact T_sub [1, 0] rfl (hk_23 v2 m1)
    · refine T_iload_n C.1 dX7_fillMostBehind_50 1 rfl ?_
      refine T_iload C.1 dX7_fillMostBehind_51 4 rfl ?_
      refine T_ishr C.1 dX7_fillMostBehind_53 ?_
      refine T_iconst C.1 dX7_fillMostBehind_54 ?_
      refine T_iand C.1 dX7_fillMostBehind_55 ?_
      refine T_if_ne (tgt := 74) C.1 dX7_fillMostBehind_56 (by decide) ?_ ?_
      · exact T_sub [0, 1, 2, 3, 4] rfl (t_X7_fillMostBehind_74 hn C (hk_23) (ih) a1 a2 a3 a4 m)
      · refine T_iload C.1 dX7_fillMostBehind_59 3 rfl ?_
        refine T_aload_n C.1 dX7_fillMostBehind_61 0 rfl ?_
        refine T_iload_n C.1 dX7_fillMostBehind_62 2 rfl ?_
        refine T_iload C.1 dX7_fillMostBehind_63 4 rfl ?_
        refine T_iload_n C.1 dX7_fillMostBehind_65 1 rfl ?_
        refine T_callVI (rm := rm_X7_worthWithAllBehind) [.int a2, .int a4, .int a1] [.int a3] C.1 dX7_fillMostBehind_66 mw_X7_worthWithAllBehind wm_3_37 wm_3_39 wm_p_10 ⟨Nat.le_of_ble_eq_true rfl, Nat.le_of_ble_eq_true rfl⟩ ⟨rfl, rfl⟩ ⟨Nat.zero_le _, Nat.zero_le _⟩ rfl rfl (Nat.le_of_ble_eq_true rfl) sh33 (Nat.le_trans le33 hn) ⟨rfl, rfl⟩ (c_X7_worthWithAllBehind hn ll cx a2 a4 a1 m) (fun v3 m4 => ?_)
        refine T_mmax C.1 dX7_fillMostBehind_69 wm_3_41 wx_mmax_1 wx_math wx_mmax_2 (Nat.le_of_ble_eq_true rfl) (Nat.le_of_ble_eq_true rfl) ⟨Nat.zero_le _, Nat.zero_le _⟩ ?_
        refine T_istoreN C.1 (fun v5 => [(4, .int v5), (0, .ref (cx.2.2.1 + 33)), (2, .int a1), (3, .int a2), (5, .int a4)]) dX7_fillMostBehind_72 (by decide) (fun _ => rfl) (fun v5 => ?_)
        exact T_sub [1, 2, 3, 0, 4] rfl (t_X7_fillMostBehind_74 hn C (hk_23) (ih) a1 a2 v5 a4 m4)
def F_X7_fillMostBehind_23  : Nat → Int32 → Mm → Option (Unit × Mm)
  | 0, _, _ => none
  | f + 1, a1, m =>
    (if a1 < iI 0 then
      some ((), m)
    else
      bnd (F_J6_bitCount_0f7a4 a1 m) fun v1 m2 =>
      F_X7_fillMostBehind_38 (F_X7_fillMostBehind_23  f) FU a1 v1 (iI 0) (iI 0) m2)
set_option maxRecDepth 100000 in
set_option maxHeartbeats 4000000 in
theorem t_X7_fillMostBehind_23 {wn : Nat} (hn : NN ≤ wn) {pp : Program} {ll : Launch} {ee : Env} {ss : State} {mm : MethodId} {aa : Array Value} {bb : List Frame} {me : Method} {co : Code} {cx : CX}     (C : CM pp ss mm aa me co cX7_fillMostBehind 6 RX7 cx (none))    : ∀ (f : Nat) (a1 : Int32) (m : Mm), TV pp ll ee rm_X7_fillMostBehind ss mm aa bb me co 6 cx wn 23 [(0, .ref (cx.2.2.1 + 33)), (2, .int a1)] [] m (F_X7_fillMostBehind_23  f a1 m) := by
  intro f
  induction f with
  | zero => exact fun _ _ => T_none
  | succ f ih =>
    intro a1 m
    unfold F_X7_fillMostBehind_23
    refine T_iload_n C.1 dX7_fillMostBehind_23 1 rfl ?_
    refine T_if_lt (tgt := 94) C.1 dX7_fillMostBehind_24 (by decide) ?_ ?_
    · exact T_vret C.1 C.2.1 C.2.2 dX7_fillMostBehind_94
    · refine T_iload_n C.1 dX7_fillMostBehind_27 1 rfl ?_
      refine T_callSI (rm := rm_J6_bitCount_0f7a4) [.int a1] [] C.1 dX7_fillMostBehind_28 mw_J6_bitCount_0f7a4 wm_3_31 wm_3_32 ⟨Nat.le_of_ble_eq_true rfl, Nat.le_of_ble_eq_true rfl⟩ ⟨rfl, rfl⟩ ⟨Nat.zero_le _, Nat.zero_le _⟩ rfl rfl (Nat.le_of_ble_eq_true rfl) (c_J6_bitCount_0f7a4 hn ll cx a1 m) (fun v1 m2 => ?_)
      refine T_istore_n (lv' := [(3, .int v1), (0, .ref (cx.2.2.1 + 33)), (2, .int a1)]) C.1 dX7_fillMostBehind_31 (by decide) rfl ?_
      refine T_iconst C.1 dX7_fillMostBehind_32 ?_
      refine T_istore (lv' := [(4, .int (iI 0)), (3, .int v1), (0, .ref (cx.2.2.1 + 33)), (2, .int a1)]) C.1 dX7_fillMostBehind_33 (by decide) rfl ?_
      refine T_iconst C.1 dX7_fillMostBehind_35 ?_
      refine T_istore (lv' := [(5, .int (iI 0)), (4, .int (iI 0)), (3, .int v1), (0, .ref (cx.2.2.1 + 33)), (2, .int a1)]) C.1 dX7_fillMostBehind_36 (by decide) rfl ?_
      exact T_sub [3, 4, 2, 1, 0] rfl (t_X7_fillMostBehind_38 hn C (ih) FU a1 v1 (iI 0) (iI 0) m2)
def F_X7_fillMostBehind   (m : Mm) : Option (Unit × Mm) :=
  nm (((iI 1) <<< ((gI m 2 0) &&& 31)) - (iI 1)) fun v1 =>
  wrI 128 m 46 v1 (iI 0) fun m2 =>
  nm (v1 - (iI 1)) fun v3 =>
  F_X7_fillMostBehind_23 FU v3 m2
set_option maxRecDepth 100000 in
set_option maxHeartbeats 4000000 in
theorem c_X7_fillMostBehind {wn : Nat} (hn : NN ≤ wn) (ll : Launch) (cx : CX)  (m : Mm) : MT ll yX7_fillMostBehind cX7_fillMostBehind 6 (none) rm_X7_fillMostBehind cx wn wn Lay cvV 0 0 [.ref (cx.2.2.1 + 33)] m (F_X7_fillMostBehind  m) := by
  refine MT_of (by decide) (Nat.le_of_ble_eq_true rfl) ?_
  intro pp ee ss mm aa bb me co hK hr hk hn0
  have C : CM pp ss mm aa me co cX7_fillMostBehind 6 RX7 cx (none) := ⟨hK, hr, hk⟩
  show TV pp ll ee rm_X7_fillMostBehind ss mm aa bb me co 6 cx wn 0 [(0, .ref (cx.2.2.1 + 33))] [] m (F_X7_fillMostBehind  m)
  unfold F_X7_fillMostBehind
  refine T_iconst C.1 dX7_fillMostBehind_0 ?_
  refine T_aload_n C.1 dX7_fillMostBehind_1 0 rfl ?_
  refine T_getR (x := 2) C.1 fd_X7_43 (fun _ _ _ _ => rfl) sh33 (Nat.le_trans le33 hn) (fun _ h => h) rfl (by decide) dX7_fillMostBehind_2 ?_
  refine T_getI C.1 fd_X7_52 (fun _ _ _ _ => rfl) sh2 (Nat.le_trans le2 hn) dX7_fillMostBehind_5 ?_
  refine T_ishl C.1 dX7_fillMostBehind_8 ?_
  refine T_iconst C.1 dX7_fillMostBehind_9 ?_
  refine T_isub C.1 dX7_fillMostBehind_10 ?_
  refine T_istore_nN C.1 (fun v1 => [(1, .int v1), (0, .ref (cx.2.2.1 + 33))]) dX7_fillMostBehind_11 (by decide) (fun _ => rfl) (fun v1 => ?_)
  refine T_aload_n C.1 dX7_fillMostBehind_12 1 rfl ?_
  refine T_getR (x := 46) C.1 fd_X7_22 (fun _ _ _ _ => rfl) sh33 (Nat.le_trans le33 hn) (fun _ h => h) rfl (by decide) dX7_fillMostBehind_13 ?_
  refine T_iload_n C.1 dX7_fillMostBehind_16 0 rfl ?_
  refine T_iconst C.1 dX7_fillMostBehind_17 ?_
  refine T_iast C.1 LyI_Lay sh46 (Nat.le_trans le46 hn) dX7_fillMostBehind_18 (fun m2 => ?_)
  refine T_iload_n C.1 dX7_fillMostBehind_19 0 rfl ?_
  refine T_iconst C.1 dX7_fillMostBehind_20 ?_
  refine T_isub C.1 dX7_fillMostBehind_21 ?_
  refine T_istore_nN C.1 (fun v3 => [(2, .int v3), (1, .int v1), (0, .ref (cx.2.2.1 + 33))]) dX7_fillMostBehind_22 (by decide) (fun _ => rfl) (fun v3 => ?_)
  exact T_sub [2, 0] rfl (t_X7_fillMostBehind_23 hn C FU v3 m2)
