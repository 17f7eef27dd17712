def rm_X1_forgetOldest : Room := { frames := 1, cells := 0, slots := 0, locals := 40 }
def F_X1_forgetOldest   (m : Mm) : Option (Unit × Mm) :=
  cpI 40 40 m 12 (iI 1) 12 (iI 0) (iI 39) fun m1 =>
  cpI 40 40 m1 13 (iI 1) 13 (iI 0) (iI 39) fun m2 =>
  cpI 40 40 m2 14 (iI 1) 14 (iI 0) (iI 39) fun m3 =>
  cpI 40 40 m3 15 (iI 1) 15 (iI 0) (iI 39) fun m4 =>
  nm (pI m4 11 4 (iI 39)) fun m5 =>
  some ((), m5)
set_option maxRecDepth 100000 in
set_option maxHeartbeats 4000000 in
theorem c_X1_forgetOldest {wn : Nat} (hn : NN ≤ wn) (ll : Launch) (cx : CX)  (m : Mm) : MT ll yX1_forgetOldest cX1_forgetOldest 1 (none) rm_X1_forgetOldest cx wn wn Lay cvV 0 0 [.ref (cx.2.2.1 + 11)] m (F_X1_forgetOldest  m) := by
  refine MT_of (by decide) (Nat.le_of_ble_eq_true rfl) ?_
  intro pp ee ss mm aa bb me co hK hr hk hn0
  have C : CM pp ss mm aa me co cX1_forgetOldest 1 RX1 cx (none) := ⟨hK, hr, hk⟩
  show TV pp ll ee rm_X1_forgetOldest ss mm aa bb me co 1 cx wn 0 [(0, .ref (cx.2.2.1 + 11))] [] m (F_X1_forgetOldest  m)
  unfold F_X1_forgetOldest
  refine T_aload_n C.1 dX1_forgetOldest_0 0 rfl ?_
  refine T_getR (x := 12) C.1 fd_X1_9 (fun _ _ _ _ => rfl) sh11 (Nat.le_trans le11 hn) (fun _ h => h) rfl (by decide) dX1_forgetOldest_1 ?_
  refine T_iconst C.1 dX1_forgetOldest_4 ?_
  refine T_aload_n C.1 dX1_forgetOldest_5 0 rfl ?_
  refine T_getR (x := 12) C.1 fd_X1_9 (fun _ _ _ _ => rfl) sh11 (Nat.le_trans le11 hn) (fun _ h => h) rfl (by decide) dX1_forgetOldest_6 ?_
  refine T_iconst C.1 dX1_forgetOldest_9 ?_
  refine T_bipush C.1 dX1_forgetOldest_10 rfl ?_
  refine T_cpI C.1 (fun _ _ _ h => h) dX1_forgetOldest_12 wm_3_207 wx_ac_1 wx_ac_2 wx_sys sh12 (Nat.le_trans le12 hn) sh12 (Nat.le_trans le12 hn) (Nat.le_of_ble_eq_true rfl) (Nat.le_of_ble_eq_true rfl) (fun m1 => ?_)
  refine T_aload_n C.1 dX1_forgetOldest_15 0 rfl ?_
  refine T_getR (x := 13) C.1 fd_X1_13 (fun _ _ _ _ => rfl) sh11 (Nat.le_trans le11 hn) (fun _ h => h) rfl (by decide) dX1_forgetOldest_16 ?_
  refine T_iconst C.1 dX1_forgetOldest_19 ?_
  refine T_aload_n C.1 dX1_forgetOldest_20 0 rfl ?_
  refine T_getR (x := 13) C.1 fd_X1_13 (fun _ _ _ _ => rfl) sh11 (Nat.le_trans le11 hn) (fun _ h => h) rfl (by decide) dX1_forgetOldest_21 ?_
  refine T_iconst C.1 dX1_forgetOldest_24 ?_
  refine T_bipush C.1 dX1_forgetOldest_25 rfl ?_
  refine T_cpI C.1 (fun _ _ _ h => h) dX1_forgetOldest_27 wm_3_207 wx_ac_1 wx_ac_2 wx_sys sh13 (Nat.le_trans le13 hn) sh13 (Nat.le_trans le13 hn) (Nat.le_of_ble_eq_true rfl) (Nat.le_of_ble_eq_true rfl) (fun m2 => ?_)
  refine T_aload_n C.1 dX1_forgetOldest_30 0 rfl ?_
  refine T_getR (x := 14) C.1 fd_X1_16 (fun _ _ _ _ => rfl) sh11 (Nat.le_trans le11 hn) (fun _ h => h) rfl (by decide) dX1_forgetOldest_31 ?_
  refine T_iconst C.1 dX1_forgetOldest_34 ?_
  refine T_aload_n C.1 dX1_forgetOldest_35 0 rfl ?_
  refine T_getR (x := 14) C.1 fd_X1_16 (fun _ _ _ _ => rfl) sh11 (Nat.le_trans le11 hn) (fun _ h => h) rfl (by decide) dX1_forgetOldest_36 ?_
  refine T_iconst C.1 dX1_forgetOldest_39 ?_
  refine T_bipush C.1 dX1_forgetOldest_40 rfl ?_
  refine T_cpI C.1 (fun _ _ _ h => h) dX1_forgetOldest_42 wm_3_207 wx_ac_1 wx_ac_2 wx_sys sh14 (Nat.le_trans le14 hn) sh14 (Nat.le_trans le14 hn) (Nat.le_of_ble_eq_true rfl) (Nat.le_of_ble_eq_true rfl) (fun m3 => ?_)
  refine T_aload_n C.1 dX1_forgetOldest_45 0 rfl ?_
  refine T_getR (x := 15) C.1 fd_X1_19 (fun _ _ _ _ => rfl) sh11 (Nat.le_trans le11 hn) (fun _ h => h) rfl (by decide) dX1_forgetOldest_46 ?_
  refine T_iconst C.1 dX1_forgetOldest_49 ?_
  refine T_aload_n C.1 dX1_forgetOldest_50 0 rfl ?_
  refine T_getR (x := 15) C.1 fd_X1_19 (fun _ _ _ _ => rfl) sh11 (Nat.le_trans le11 hn) (fun _ h => h) rfl (by decide) dX1_forgetOldest_51 ?_
  refine T_iconst C.1 dX1_forgetOldest_54 ?_
  refine T_bipush C.1 dX1_forgetOldest_55 rfl ?_
  refine T_cpI C.1 (fun _ _ _ h => h) dX1_forgetOldest_57 wm_3_207 wx_ac_1 wx_ac_2 wx_sys sh15 (Nat.le_trans le15 hn) sh15 (Nat.le_trans le15 hn) (Nat.le_of_ble_eq_true rfl) (Nat.le_of_ble_eq_true rfl) (fun m4 => ?_)
  refine T_aload_n C.1 dX1_forgetOldest_60 0 rfl ?_
  refine T_bipush C.1 dX1_forgetOldest_61 rfl ?_
  refine T_putI C.1 LyI_Lay fd_X1_22 sh11 (Nat.le_trans le11 hn) dX1_forgetOldest_63 (fun m5 => ?_)
  exact T_vret C.1 C.2.1 C.2.2 dX1_forgetOldest_66
def rm_X1_note : Room := { frames := 2, cells := 0, slots := 0, locals := 60 }
def F_X1_note_20  (a1 : Int32) (a2 : Int32) (a3 : Int32) (a4 : Int32) (m : Mm) : Option (Unit × Mm) :=
  wrI 40 m 12 (gI m 11 4) a1 fun m1 =>
  wrI 40 m1 13 (gI m1 11 4) a2 fun m2 =>
  wrI 40 m2 14 (gI m2 11 4) a3 fun m3 =>
  wrI 40 m3 15 (gI m3 11 4) a4 fun m4 =>
  nm (pI m4 11 4 ((gI m4 11 4) + (iI 1))) fun m5 =>
  nm (pI m5 11 5 (gI m5 11 4)) fun m6 =>
  some ((), m6)
set_option maxRecDepth 100000 in
set_option maxHeartbeats 4000000 in
theorem t_X1_note_20 {wn : Nat} (hn : NN ≤ wn) {pp : Program} {ll : Launch} {ee : Env} {ss : State} {mm : MethodId} {aa : Array Value} {bb : List Frame} {me : Method} {co : Code} {cx : CX}     (C : CM pp ss mm aa me co cX1_note 5 RX1 cx (none))    (a1 : Int32) (a2 : Int32) (a3 : Int32) (a4 : Int32) (m : Mm) : TV pp ll ee rm_X1_note ss mm aa bb me co 5 cx wn 20 [(0, .ref (cx.2.2.1 + 11)), (1, .int a1), (2, .int a2), (3, .int a3), (4, .int a4)] [] m (F_X1_note_20  a1 a2 a3 a4 m) := by
  unfold F_X1_note_20
  refine T_aload_n C.1 dX1_note_20 0 rfl ?_
  refine T_getR (x := 12) C.1 fd_X1_9 (fun _ _ _ _ => rfl) sh11 (Nat.le_trans le11 hn) (fun _ h => h) rfl (by decide) dX1_note_21 ?_
  refine T_aload_n C.1 dX1_note_24 0 rfl ?_
  refine T_getI C.1 fd_X1_22 (fun _ _ _ _ => rfl) sh11 (Nat.le_trans le11 hn) dX1_note_25 ?_
  refine T_iload_n C.1 dX1_note_28 1 rfl ?_
  refine T_iast C.1 LyI_Lay sh12 (Nat.le_trans le12 hn) dX1_note_29 (fun m1 => ?_)
  refine T_aload_n C.1 dX1_note_30 0 rfl ?_
  refine T_getR (x := 13) C.1 fd_X1_13 (fun _ _ _ _ => rfl) sh11 (Nat.le_trans le11 hn) (fun _ h => h) rfl (by decide) dX1_note_31 ?_
  refine T_aload_n C.1 dX1_note_34 0 rfl ?_
  refine T_getI C.1 fd_X1_22 (fun _ _ _ _ => rfl) sh11 (Nat.le_trans le11 hn) dX1_note_35 ?_
  refine T_iload_n C.1 dX1_note_38 2 rfl ?_
  refine T_iast C.1 LyI_Lay sh13 (Nat.le_trans le13 hn) dX1_note_39 (fun m2 => ?_)
  refine T_aload_n C.1 dX1_note_40 0 rfl ?_
  refine T_getR (x := 14) C.1 fd_X1_16 (fun _ _ _ _ => rfl) sh11 (Nat.le_trans le11 hn) (fun _ h => h) rfl (by decide) dX1_note_41 ?_
  refine T_aload_n C.1 dX1_note_44 0 rfl ?_
  refine T_getI C.1 fd_X1_22 (fun _ _ _ _ => rfl) sh11 (Nat.le_trans le11 hn) dX1_note_45 ?_
  refine T_iload_n C.1 dX1_note_48 3 rfl ?_
  refine T_iast C.1 LyI_Lay sh14 (Nat.le_trans le14 hn) dX1_note_49 (fun m3 => ?_)
  refine T_aload_n C.1 dX1_note_50 0 rfl ?_
  refine T_getR (x := 15) C.1 fd_X1_19 (fun _ _ _ _ => rfl) sh11 (Nat.le_trans le11 hn) (fun _ h => h) rfl (by decide) dX1_note_51 ?_
  refine T_aload_n C.1 dX1_note_54 0 rfl ?_
  refine T_getI C.1 fd_X1_22 (fun _ _ _ _ => rfl) sh11 (Nat.le_trans le11 hn) dX1_note_55 ?_
  refine T_iload C.1 dX1_note_58 4 rfl ?_
  refine T_iast C.1 LyI_Lay sh15 (Nat.le_trans le15 hn) dX1_note_60 (fun m4 => ?_)
  refine T_aload_n C.1 dX1_note_61 0 rfl ?_
  refine T_dup C.1 dX1_note_62 rfl ?_
  refine T_getI C.1 fd_X1_22 (fun _ _ _ _ => rfl) sh11 (Nat.le_trans le11 hn) dX1_note_63 ?_
  refine T_iconst C.1 dX1_note_66 ?_
  refine T_iadd C.1 dX1_note_67 ?_
  refine T_putI C.1 LyI_Lay fd_X1_22 sh11 (Nat.le_trans le11 hn) dX1_note_68 (fun m5 => ?_)
  refine T_aload_n C.1 dX1_note_71 0 rfl ?_
  refine T_aload_n C.1 dX1_note_72 0 rfl ?_
  refine T_getI C.1 fd_X1_22 (fun _ _ _ _ => rfl) sh11 (Nat.le_trans le11 hn) dX1_note_73 ?_
  refine T_putI C.1 LyI_Lay fd_X1_26 sh11 (Nat.le_trans le11 hn) dX1_note_76 (fun m6 => ?_)
  exact T_vret C.1 C.2.1 C.2.2 dX1_note_79
def F_X1_note  (x1 : Int32) (x2 : Int32) (x3 : Int32) (x4 : Int32) (m : Mm) : Option (Unit × Mm) :=
  (if x3 = x4 then
    some ((), m)
  else
    (if (gI m 11 4) < (iI 40) then
      F_X1_note_20 x1 x2 x3 x4 m
    else
      bnd (F_X1_forgetOldest m) fun _ m2 =>
      F_X1_note_20 x1 x2 x3 x4 m2))
set_option maxRecDepth 100000 in
set_option maxHeartbeats 4000000 in
theorem c_X1_note {wn : Nat} (hn : NN ≤ wn) (ll : Launch) (cx : CX) (x1 : Int32) (x2 : Int32) (x3 : Int32) (x4 : Int32) (m : Mm) : MT ll yX1_note cX1_note 5 (none) rm_X1_note cx wn wn Lay cvV 0 0 [.ref (cx.2.2.1 + 11), .int x1, .int x2, .int x3, .int x4] m (F_X1_note x1 x2 x3 x4 m) := by
  refine MT_of (by decide) (Nat.le_of_ble_eq_true rfl) ?_
  intro pp ee ss mm aa bb me co hK hr hk hn0
  have C : CM pp ss mm aa me co cX1_note 5 RX1 cx (none) := ⟨hK, hr, hk⟩
  show TV pp ll ee rm_X1_note ss mm aa bb me co 5 cx wn 0 [(0, .ref (cx.2.2.1 + 11)), (1, .int x1), (2, .int x2), (3, .int x3), (4, .int x4)] [] m (F_X1_note x1 x2 x3 x4 m)
  unfold F_X1_note
  refine T_iload_n C.1 dX1_note_0 3 rfl ?_
  refine T_iload C.1 dX1_note_1 4 rfl ?_
  refine T_icmp_ne (tgt := 7) C.1 dX1_note_3 (by decide) ?_ ?_
  · refine T_aload_n C.1 dX1_note_7 0 rfl ?_
    refine T_getI C.1 fd_X1_22 (fun _ _ _ _ => rfl) sh11 (Nat.le_trans le11 hn) dX1_note_8 ?_
    refine T_bipush C.1 dX1_note_11 rfl ?_
    refine T_icmp_lt (tgt := 20) C.1 dX1_note_13 (by decide) ?_ ?_
    · exact T_sub [0, 1, 2, 3, 4] rfl (t_X1_note_20 hn C x1 x2 x3 x4 m)
    · refine T_aload_n C.1 dX1_note_16 0 rfl ?_
      refine T_callVV (rm := rm_X1_forgetOldest) [] [] C.1 dX1_note_17 mw_X1_forgetOldest wm_3_203 wm_3_205 wm_p_16 ⟨Nat.le_of_ble_eq_true rfl, Nat.le_of_ble_eq_true rfl⟩ ⟨rfl, rfl⟩ ⟨Nat.zero_le _, Nat.zero_le _⟩ rfl rfl (Nat.le_of_ble_eq_true rfl) sh11 (Nat.le_trans le11 hn) ⟨rfl, rfl⟩ (c_X1_forgetOldest hn ll cx m) (fun u1 m2 => ?_)
      exact T_sub [0, 1, 2, 3, 4] rfl (t_X1_note_20 hn C x1 x2 x3 x4 m2)
  · exact T_vret C.1 C.2.1 C.2.2 dX1_note_6
def rm_X2_hasBegun : Room := { frames := 1, cells := 0, slots := 0, locals := 40 }
def F_X2_hasBegun  (t : Nat) (m : Mm) : Option (Int32 × Mm) :=
  (if shp t = (9, 2) then
    (if (gI m t 4) ≤ iI 0 then
      rz (iI 0) m
    else
      rz (iI 1) m)
  else none)
set_option maxRecDepth 100000 in
set_option maxHeartbeats 4000000 in
theorem c_X2_hasBegun {wn : Nat} (hn : NN ≤ wn) (ll : Launch) (cx : CX) (t : Nat) (m : Mm) : MT ll yX2_hasBegun cX2_hasBegun 1 ((some .boolean)) rm_X2_hasBegun cx wn wn Lay cvI 0 0 [.ref (cx.2.2.1 + t)] m (F_X2_hasBegun t m) := by
  refine MT_of (by decide) (Nat.le_of_ble_eq_true rfl) ?_
  intro pp ee ss mm aa bb me co hK hr hk hn0
  have C : CM pp ss mm aa me co cX2_hasBegun 1 RX2 cx ((some .boolean)) := ⟨hK, hr, hk⟩
  show TI pp ll ee rm_X2_hasBegun ss mm aa bb me co 1 cx wn 0 [(0, .ref (cx.2.2.1 + t))] [] m (F_X2_hasBegun t m)
  unfold F_X2_hasBegun
  refine T_if (fun ht => ?_) (fun _ => T_none)
  refine T_aload_n C.1 dX2_hasBegun_0 0 rfl ?_
  refine T_getI C.1 fd_X2_24 (fun _ _ _ _ => rfl) ht (Nat.le_trans (shp_le ht (by decide)) hn) dX2_hasBegun_1 ?_
  refine T_if_le (tgt := 11) C.1 dX2_hasBegun_4 (by decide) ?_ ?_
  · refine T_iconst C.1 dX2_hasBegun_11 ?_
    exact T_zret C.1 C.2.1 C.2.2 dX2_hasBegun_12
  · refine T_iconst C.1 dX2_hasBegun_7 ?_
    refine T_goto (tgt := 12) C.1 dX2_hasBegun_8 (by decide) ?_
    exact T_zret C.1 C.2.1 C.2.2 dX2_hasBegun_12
def rm_X2_hasEnded : Room := { frames := 2, cells := 0, slots := 0, locals := 60 }
def F_X2_hasEnded  (t : Nat) (m : Mm) : Option (Int32 × Mm) :=
  (if shp t = (9, 2) then
    bnd (F_X2_hasBegun t m) fun v1 m2 =>
    (if v1 = iI 0 then
      rz (iI 0) m2
    else
      (if (gI m2 t 4) < (gI m2 2 0) then
        rz (iI 0) m2
      else
        rz (iI 1) m2))
  else none)
set_option maxRecDepth 100000 in
set_option maxHeartbeats 4000000 in
theorem c_X2_hasEnded {wn : Nat} (hn : NN ≤ wn) (ll : Launch) (cx : CX) (t : Nat) (m : Mm) : MT ll yX2_hasEnded cX2_hasEnded 2 ((some .boolean)) rm_X2_hasEnded cx wn wn Lay cvI 0 0 [.ref (cx.2.2.1 + t), .ref (cx.2.2.1 + 2)] m (F_X2_hasEnded t m) := by
  refine MT_of (by decide) (Nat.le_of_ble_eq_true rfl) ?_
  intro pp ee ss mm aa bb me co hK hr hk hn0
  have C : CM pp ss mm aa me co cX2_hasEnded 2 RX2 cx ((some .boolean)) := ⟨hK, hr, hk⟩
  show TI pp ll ee rm_X2_hasEnded ss mm aa bb me co 2 cx wn 0 [(0, .ref (cx.2.2.1 + t)), (1, .ref (cx.2.2.1 + 2))] [] m (F_X2_hasEnded t m)
  unfold F_X2_hasEnded
  refine T_if (fun ht => ?_) (fun _ => T_none)
  refine T_aload_n C.1 dX2_hasEnded_0 0 rfl ?_
  refine T_callVI (rm := rm_X2_hasBegun) [] [] C.1 dX2_hasEnded_1 mw_X2_hasBegun wm_2_178 wm_2_179 wm_2_180 ⟨Nat.le_of_ble_eq_true rfl, Nat.le_of_ble_eq_true rfl⟩ ⟨rfl, rfl⟩ ⟨Nat.zero_le _, Nat.zero_le _⟩ rfl rfl (Nat.le_of_ble_eq_true rfl) ht (Nat.le_trans (shp_le ht (by decide)) hn) ⟨rfl, rfl⟩ (c_X2_hasBegun hn ll cx t m) (fun v1 m2 => ?_)
  refine T_if_eq (tgt := 22) C.1 dX2_hasEnded_4 (by decide) ?_ ?_
  · refine T_iconst C.1 dX2_hasEnded_22 ?_
    exact T_zret C.1 C.2.1 C.2.2 dX2_hasEnded_23
  · refine T_aload_n C.1 dX2_hasEnded_7 0 rfl ?_
    refine T_getI C.1 fd_X2_24 (fun _ _ _ _ => rfl) ht (Nat.le_trans (shp_le ht (by decide)) hn) dX2_hasEnded_8 ?_
    refine T_aload_n C.1 dX2_hasEnded_11 1 rfl ?_
    refine T_getI C.1 fd_X2_57 (fun _ _ _ _ => rfl) sh2 (Nat.le_trans le2 hn) dX2_hasEnded_12 ?_
    refine T_icmp_lt (tgt := 22) C.1 dX2_hasEnded_15 (by decide) ?_ ?_
    · refine T_iconst C.1 dX2_hasEnded_22 ?_
      exact T_zret C.1 C.2.1 C.2.2 dX2_hasEnded_23
    · refine T_iconst C.1 dX2_hasEnded_18 ?_
      refine T_goto (tgt := 23) C.1 dX2_hasEnded_19 (by decide) ?_
      exact T_zret C.1 C.2.1 C.2.2 dX2_hasEnded_23
def rm_J7_fill_53178 : Room := { frames := 1, cells := 0, slots := 0, locals := 40 }
def F_J7_fill_53178_5 (r1 : Nat) : Nat → Int32 → Int32 → Int32 → Mm → Option (Unit × Mm)
  | 0, _, _, _, _ => none
  | f + 1, a1, a2, a3, m =>
    (if a3 ≤ a2 then
      some ((), m)
    else
      wrI (shp r1).2 m r1 a2 a1 fun m1 =>
      nm (a2 + (iI 1)) fun v2 =>
      F_J7_fill_53178_5 r1 f a1 v2 a3 m1)
set_option maxRecDepth 100000 in
set_option maxHeartbeats 4000000 in
theorem t_J7_fill_53178_5 {wn : Nat} (hn : NN ≤ wn) {pp : Program} {ll : Launch} {ee : Env} {ss : State} {mm : MethodId} {aa : Array Value} {bb : List Frame} {me : Method} {co : Code} {cx : CX}    {r1 : Nat} (C : CM pp ss mm aa me co cJ7_fill_53178 4 RJ7 cx (none)) (hr1 : shp r1 = (1, (shp r1).2))   : ∀ (f : Nat) (a1 : Int32) (a2 : Int32) (a3 : Int32) (m : Mm), TV pp ll ee rm_J7_fill_53178 ss mm aa bb me co 4 cx wn 5 [(0, .ref (cx.2.2.1 + r1)), (1, .int a1), (2, .int a2), (3, .int a3)] [] m (F_J7_fill_53178_5 r1 f a1 a2 a3 m) := by
  intro f
  induction f with
  | zero => exact fun _ _ _ _ => T_none
  | succ f ih =>
    intro a1 a2 a3 m
    unfold F_J7_fill_53178_5
    refine T_iload_n C.1 dJ7_fill_53178_5 2 rfl ?_
    refine T_iload_n C.1 dJ7_fill_53178_6 3 rfl ?_
    refine T_icmp_ge (tgt := 20) C.1 dJ7_fill_53178_7 (by decide) ?_ ?_
    · exact T_vret C.1 C.2.1 C.2.2 dJ7_fill_53178_20
    · refine T_aload_n C.1 dJ7_fill_53178_10 0 rfl ?_
      refine T_iload_n C.1 dJ7_fill_53178_11 2 rfl ?_
      refine T_iload_n C.1 dJ7_fill_53178_12 1 rfl ?_
      refine T_iast C.1 LyI_Lay hr1 (Nat.le_trans (shp_le hr1 (by decide)) hn) dJ7_fill_53178_13 (fun m1 => ?_)
      refine T_iincN C.1 (fun v2 => [(2, .int v2), (0, .ref (cx.2.2.1 + r1)), (1, .int a1), (3, .int a3)]) dJ7_fill_53178_14 2 rfl (by decide) (fun _ => rfl) (fun v2 => ?_)
      refine T_goto (tgt := 5) C.1 dJ7_fill_53178_17 (by decide) ?_
      exact T_sub [1, 2, 0, 3] rfl (ih a1 v2 a3 m1)
def F_J7_fill_53178  (r1 : Nat) (x2 : Int32) (m : Mm) : Option (Unit × Mm) :=
  (if (shp r1).1 = 1 then
    nm (iI (shp r1).2) fun v1 =>
    F_J7_fill_53178_5 r1 FU x2 (iI 0) v1 m
  else none)
set_option maxRecDepth 100000 in
set_option maxHeartbeats 4000000 in
theorem c_J7_fill_53178 {wn : Nat} (hn : NN ≤ wn) (ll : Launch) (cx : CX) (r1 : Nat) (x2 : Int32) (m : Mm) : MT ll yJ7_fill_53178 cJ7_fill_53178 4 (none) rm_J7_fill_53178 cx wn wn Lay cvV 0 0 [.ref (cx.2.2.1 + r1), .int x2] m (F_J7_fill_53178 r1 x2 m) := by
  refine MT_of (by decide) (Nat.le_of_ble_eq_true rfl) ?_
  intro pp ee ss mm aa bb me co hK hr hk hn0
  have C : CM pp ss mm aa me co cJ7_fill_53178 4 RJ7 cx (none) := ⟨hK, hr, hk⟩
  show TV pp ll ee rm_J7_fill_53178 ss mm aa bb me co 4 cx wn 0 [(0, .ref (cx.2.2.1 + r1)), (1, .int x2)] [] m (F_J7_fill_53178 r1 x2 m)
  unfold F_J7_fill_53178
  refine T_if (fun hr1 => ?_) (fun _ => T_none)
  have hr1 := shp_any hr1
  refine T_iconst C.1 dJ7_fill_53178_0 ?_
  refine T_istore_n (lv' := [(2, .int (iI 0)), (0, .ref (cx.2.2.1 + r1)), (1, .int x2)]) C.1 dJ7_fill_53178_1 (by decide) rfl ?_
  refine T_aload_n C.1 dJ7_fill_53178_2 1 rfl ?_
  refine T_alen C.1 dJ7_fill_53178_3 hr1 (Nat.le_trans (shp_le hr1 (by decide)) hn) ?_
  refine T_istore_nN C.1 (fun v1 => [(3, .int v1), (2, .int (iI 0)), (0, .ref (cx.2.2.1 + r1)), (1, .int x2)]) dJ7_fill_53178_4 (by decide) (fun _ => rfl) (fun v1 => ?_)
  exact T_sub [2, 3, 1, 0] rfl (t_J7_fill_53178_5 hn C hr1 FU x2 (iI 0) v1 m)
def rm_X2_wrapAll : Room := { frames := 2, cells := 0, slots := 0, locals := 63 }
def F_X2_wrapAll  (t : Nat) (m : Mm) : Option (Unit × Mm) :=
  (if shp t = (9, 2) then
    bnd (F_J7_fill_53178 (t + 2) (iI (-1)) m) fun _ m2 =>
    bnd (F_J7_fill_53178 (t + 3) (iI (-1)) m2) fun _ m4 =>
    bnd (F_J7_fill_53178 (t + 4) (iI 0) m4) fun _ m6 =>
    nm (pI m6 t 4 (iI 0)) fun m7 =>
    nm (pI m7 t 5 (iI (-1))) fun m8 =>
    nm (pI m8 t 6 (iI (-1))) fun m9 =>
    zb (iI 0) (nm (pI m9 t 7 (iI 0)) fun m10 =>
    some ((), m10))
  else none)
set_option maxRecDepth 100000 in
set_option maxHeartbeats 4000000 in
theorem c_X2_wrapAll {wn : Nat} (hn : NN ≤ wn) (ll : Launch) (cx : CX) (t : Nat) (m : Mm) : MT ll yX2_wrapAll cX2_wrapAll 1 (none) rm_X2_wrapAll cx wn wn Lay cvV 0 0 [.ref (cx.2.2.1 + t)] m (F_X2_wrapAll t m) := by
  refine MT_of (by decide) (Nat.le_of_ble_eq_true rfl) ?_
  intro pp ee ss mm aa bb me co hK hr hk hn0
  have C : CM pp ss mm aa me co cX2_wrapAll 1 RX2 cx (none) := ⟨hK, hr, hk⟩
  show TV pp ll ee rm_X2_wrapAll ss mm aa bb me co 1 cx wn 0 [(0, .ref (cx.2.2.1 + t))] [] m (F_X2_wrapAll t m)
  unfold F_X2_wrapAll
  refine T_if (fun ht => ?_) (fun _ => T_none)
  refine T_aload_n C.1 dX2_wrapAll_0 0 rfl ?_
  refine T_getR (x := (t + 2)) C.1 fd_X2_15 (fun _ _ _ _ => rfl) ht (Nat.le_trans (shp_le ht (by decide)) hn) (fun _ h => h) rfl (Nat.succ_ne_zero _) dX2_wrapAll_1 ?_
  refine T_iconst C.1 dX2_wrapAll_4 ?_
  refine T_callSV (rm := rm_J7_fill_53178) [.ref (cx.2.2.1 + (t + 2)), .int (iI (-1))] [] C.1 dX2_wrapAll_5 mw_J7_fill_53178 wm_1_149 wm_1_56 ⟨Nat.le_of_ble_eq_true rfl, Nat.le_of_ble_eq_true rfl⟩ ⟨rfl, rfl⟩ ⟨Nat.zero_le _, Nat.zero_le _⟩ rfl rfl (Nat.le_of_ble_eq_true rfl) (c_J7_fill_53178 hn ll cx (t + 2) (iI (-1)) m) (fun u1 m2 => ?_)
  refine T_aload_n C.1 dX2_wrapAll_8 0 rfl ?_
  refine T_getR (x := (t + 3)) C.1 fd_X2_18 (fun _ _ _ _ => rfl) ht (Nat.le_trans (shp_le ht (by decide)) hn) (fun _ h => h) rfl (Nat.succ_ne_zero _) dX2_wrapAll_9 ?_
  refine T_iconst C.1 dX2_wrapAll_12 ?_
  refine T_callSV (rm := rm_J7_fill_53178) [.ref (cx.2.2.1 + (t + 3)), .int (iI (-1))] [] C.1 dX2_wrapAll_13 mw_J7_fill_53178 wm_1_149 wm_1_56 ⟨Nat.le_of_ble_eq_true rfl, Nat.le_of_ble_eq_true rfl⟩ ⟨rfl, rfl⟩ ⟨Nat.zero_le _, Nat.zero_le _⟩ rfl rfl (Nat.le_of_ble_eq_true rfl) (c_J7_fill_53178 hn ll cx (t + 3) (iI (-1)) m2) (fun u3 m4 => ?_)
  refine T_aload_n C.1 dX2_wrapAll_16 0 rfl ?_
  refine T_getR (x := (t + 4)) C.1 fd_X2_21 (fun _ _ _ _ => rfl) ht (Nat.le_trans (shp_le ht (by decide)) hn) (fun _ h => h) rfl (Nat.succ_ne_zero _) dX2_wrapAll_17 ?_
  refine T_iconst C.1 dX2_wrapAll_20 ?_
  refine T_callSV (rm := rm_J7_fill_53178) [.ref (cx.2.2.1 + (t + 4)), .int (iI 0)] [] C.1 dX2_wrapAll_21 mw_J7_fill_53178 wm_1_149 wm_1_56 ⟨Nat.le_of_ble_eq_true rfl, Nat.le_of_ble_eq_true rfl⟩ ⟨rfl, rfl⟩ ⟨Nat.zero_le _, Nat.zero_le _⟩ rfl rfl (Nat.le_of_ble_eq_true rfl) (c_J7_fill_53178 hn ll cx (t + 4) (iI 0) m4) (fun u5 m6 => ?_)
  refine T_aload_n C.1 dX2_wrapAll_24 0 rfl ?_
  refine T_iconst C.1 dX2_wrapAll_25 ?_
  refine T_putI C.1 LyI_Lay fd_X2_24 ht (Nat.le_trans (shp_le ht (by decide)) hn) dX2_wrapAll_26 (fun m7 => ?_)
  refine T_aload_n C.1 dX2_wrapAll_29 0 rfl ?_
  refine T_iconst C.1 dX2_wrapAll_30 ?_
  refine T_putI C.1 LyI_Lay fd_X2_28 ht (Nat.le_trans (shp_le ht (by decide)) hn) dX2_wrapAll_31 (fun m8 => ?_)
  refine T_aload_n C.1 dX2_wrapAll_34 0 rfl ?_
  refine T_iconst C.1 dX2_wrapAll_35 ?_
  refine T_putI C.1 LyI_Lay fd_X2_31 ht (Nat.le_trans (shp_le ht (by decide)) hn) dX2_wrapAll_36 (fun m9 => ?_)
  refine T_aload_n C.1 dX2_wrapAll_39 0 rfl ?_
  refine T_iconst C.1 dX2_wrapAll_40 ?_
  refine T_putZ C.1 LyI_Lay fd_X2_34 ht (Nat.le_trans (shp_le ht (by decide)) hn) dX2_wrapAll_41 (fun m10 => ?_)
  exact T_vret C.1 C.2.1 C.2.2 dX2_wrapAll_44
def rm_X2_become : Room := { frames := 1, cells := 0, slots := 0, locals := 40 }
def F_X2_become  (t : Nat) (r1 : Nat) (m : Mm) : Option (Unit × Mm) :=
  (if shp t = (9, 2) then
    (if shp r1 = (9, 2) then
      cpI 7 7 m (r1 + 1) (iI 0) (t + 1) (iI 0) (iI 7) fun m1 =>
      cpI 7 7 m1 (r1 + 2) (iI 0) (t + 2) (iI 0) (iI 7) fun m2 =>
      cpI 7 7 m2 (r1 + 3) (iI 0) (t + 3) (iI 0) (iI 7) fun m3 =>
      cpI 7 7 m3 (r1 + 4) (iI 0) (t + 4) (iI 0) (iI 7) fun m4 =>
      nm (pI m4 t 4 (gI m4 r1 4)) fun m5 =>
      nm (pI m5 t 5 (gI m5 r1 5)) fun m6 =>
      nm (pI m6 t 6 (gI m6 r1 6)) fun m7 =>
      zb (gI m7 r1 7) (nm (pI m7 t 7 (gI m7 r1 7)) fun m8 =>
      nm (pI m8 t 8 (gI m8 r1 8)) fun m9 =>
      nm (pI m9 t 9 (gI m9 r1 9)) fun m10 =>
      nm (pI m10 t 10 (gI m10 r1 10)) fun m11 =>
      some ((), m11))
    else none)
  else none)
set_option maxRecDepth 100000 in
set_option maxHeartbeats 4000000 in
theorem c_X2_become {wn : Nat} (hn : NN ≤ wn) (ll : Launch) (cx : CX) (t : Nat) (r1 : Nat) (m : Mm) : MT ll yX2_become cX2_become 2 (none) rm_X2_become cx wn wn Lay cvV 0 0 [.ref (cx.2.2.1 + t), .ref (cx.2.2.1 + r1)] m (F_X2_become t r1 m) := by
  refine MT_of (by decide) (Nat.le_of_ble_eq_true rfl) ?_
  intro pp ee ss mm aa bb me co hK hr hk hn0
  have C : CM pp ss mm aa me co cX2_become 2 RX2 cx (none) := ⟨hK, hr, hk⟩
  show TV pp ll ee rm_X2_become ss mm aa bb me co 2 cx wn 0 [(0, .ref (cx.2.2.1 + t)), (1, .ref (cx.2.2.1 + r1))] [] m (F_X2_become t r1 m)
  unfold F_X2_become
  refine T_if (fun ht => ?_) (fun _ => T_none)
  refine T_if (fun hr1 => ?_) (fun _ => T_none)
  refine T_aload_n C.1 dX2_become_0 1 rfl ?_
  refine T_getR (x := (r1 + 1)) C.1 fd_X2_9 (fun _ _ _ _ => rfl) hr1 (Nat.le_trans (shp_le hr1 (by decide)) hn) (fun _ h => h) rfl (Nat.succ_ne_zero _) dX2_become_1 ?_
  refine T_iconst C.1 dX2_become_4 ?_
  refine T_aload_n C.1 dX2_become_5 0 rfl ?_
  refine T_getR (x := (t + 1)) C.1 fd_X2_9 (fun _ _ _ _ => rfl) ht (Nat.le_trans (shp_le ht (by decide)) hn) (fun _ h => h) rfl (Nat.succ_ne_zero _) dX2_become_6 ?_
  refine T_iconst C.1 dX2_become_9 ?_
  refine T_bipush C.1 dX2_become_10 rfl ?_
  refine T_cpI C.1 (fun _ _ _ h => h) dX2_become_12 wm_2_214 wx_ac_1 wx_ac_2 wx_sys (shr_2_1 hr1) (Nat.le_trans (shp_le (shr_2_1 hr1) (by decide)) hn) (shr_2_1 ht) (Nat.le_trans (shp_le (shr_2_1 ht) (by decide)) hn) (Nat.le_of_ble_eq_true rfl) (Nat.le_of_ble_eq_true rfl) (fun m1 => ?_)
  refine T_aload_n C.1 dX2_become_15 1 rfl ?_
  refine T_getR (x := (r1 + 2)) C.1 fd_X2_15 (fun _ _ _ _ => rfl) hr1 (Nat.le_trans (shp_le hr1 (by decide)) hn) (fun _ h => h) rfl (Nat.succ_ne_zero _) dX2_become_16 ?_
  refine T_iconst C.1 dX2_become_19 ?_
  refine T_aload_n C.1 dX2_become_20 0 rfl ?_
  refine T_getR (x := (t + 2)) C.1 fd_X2_15 (fun _ _ _ _ => rfl) ht (Nat.le_trans (shp_le ht (by decide)) hn) (fun _ h => h) rfl (Nat.succ_ne_zero _) dX2_become_21 ?_
  refine T_iconst C.1 dX2_become_24 ?_
  refine T_bipush C.1 dX2_become_25 rfl ?_
  refine T_cpI C.1 (fun _ _ _ h => h) dX2_become_27 wm_2_214 wx_ac_1 wx_ac_2 wx_sys (shr_2_2 hr1) (Nat.le_trans (shp_le (shr_2_2 hr1) (by decide)) hn) (shr_2_2 ht) (Nat.le_trans (shp_le (shr_2_2 ht) (by decide)) hn) (Nat.le_of_ble_eq_true rfl) (Nat.le_of_ble_eq_true rfl) (fun m2 => ?_)
  refine T_aload_n C.1 dX2_become_30 1 rfl ?_
  refine T_getR (x := (r1 + 3)) C.1 fd_X2_18 (fun _ _ _ _ => rfl) hr1 (Nat.le_trans (shp_le hr1 (by decide)) hn) (fun _ h => h) rfl (Nat.succ_ne_zero _) dX2_become_31 ?_
  refine T_iconst C.1 dX2_become_34 ?_
  refine T_aload_n C.1 dX2_become_35 0 rfl ?_
  refine T_getR (x := (t + 3)) C.1 fd_X2_18 (fun _ _ _ _ => rfl) ht (Nat.le_trans (shp_le ht (by decide)) hn) (fun _ h => h) rfl (Nat.succ_ne_zero _) dX2_become_36 ?_
  refine T_iconst C.1 dX2_become_39 ?_
  refine T_bipush C.1 dX2_become_40 rfl ?_
  refine T_cpI C.1 (fun _ _ _ h => h) dX2_become_42 wm_2_214 wx_ac_1 wx_ac_2 wx_sys (shr_2_3 hr1) (Nat.le_trans (shp_le (shr_2_3 hr1) (by decide)) hn) (shr_2_3 ht) (Nat.le_trans (shp_le (shr_2_3 ht) (by decide)) hn) (Nat.le_of_ble_eq_true rfl) (Nat.le_of_ble_eq_true rfl) (fun m3 => ?_)
  refine T_aload_n C.1 dX2_become_45 1 rfl ?_
  refine T_getR (x := (r1 + 4)) C.1 fd_X2_21 (fun _ _ _ _ => rfl) hr1 (Nat.le_trans (shp_le hr1 (by decide)) hn) (fun _ h => h) rfl (Nat.succ_ne_zero _) dX2_become_46 ?_
  refine T_iconst C.1 dX2_become_49 ?_
  refine T_aload_n C.1 dX2_become_50 0 rfl ?_
  refine T_getR (x := (t + 4)) C.1 fd_X2_21 (fun _ _ _ _ => rfl) ht (Nat.le_trans (shp_le ht (by decide)) hn) (fun _ h => h) rfl (Nat.succ_ne_zero _) dX2_become_51 ?_
  refine T_iconst C.1 dX2_become_54 ?_
  refine T_bipush C.1 dX2_become_55 rfl ?_
  refine T_cpI C.1 (fun _ _ _ h => h) dX2_become_57 wm_2_214 wx_ac_1 wx_ac_2 wx_sys (shr_2_4 hr1) (Nat.le_trans (shp_le (shr_2_4 hr1) (by decide)) hn) (shr_2_4 ht) (Nat.le_trans (shp_le (shr_2_4 ht) (by decide)) hn) (Nat.le_of_ble_eq_true rfl) (Nat.le_of_ble_eq_true rfl) (fun m4 => ?_)
  refine T_aload_n C.1 dX2_become_60 0 rfl ?_
  refine T_aload_n C.1 dX2_become_61 1 rfl ?_
  refine T_getI C.1 fd_X2_24 (fun _ _ _ _ => rfl) hr1 (Nat.le_trans (shp_le hr1 (by decide)) hn) dX2_become_62 ?_
  refine T_putI C.1 LyI_Lay fd_X2_24 ht (Nat.le_trans (shp_le ht (by decide)) hn) dX2_become_65 (fun m5 => ?_)
  refine T_aload_n C.1 dX2_become_68 0 rfl ?_
  refine T_aload_n C.1 dX2_become_69 1 rfl ?_
  refine T_getI C.1 fd_X2_28 (fun _ _ _ _ => rfl) hr1 (Nat.le_trans (shp_le hr1 (by decide)) hn) dX2_become_70 ?_
  refine T_putI C.1 LyI_Lay fd_X2_28 ht (Nat.le_trans (shp_le ht (by decide)) hn) dX2_become_73 (fun m6 => ?_)
  refine T_aload_n C.1 dX2_become_76 0 rfl ?_
  refine T_aload_n C.1 dX2_become_77 1 rfl ?_
  refine T_getI C.1 fd_X2_31 (fun _ _ _ _ => rfl) hr1 (Nat.le_trans (shp_le hr1 (by decide)) hn) dX2_become_78 ?_
  refine T_putI C.1 LyI_Lay fd_X2_31 ht (Nat.le_trans (shp_le ht (by decide)) hn) dX2_become_81 (fun m7 => ?_)
  refine T_aload_n C.1 dX2_become_84 0 rfl ?_
  refine T_aload_n C.1 dX2_become_85 1 rfl ?_
  refine T_getI C.1 fd_X2_34 (fun _ _ _ _ => rfl) hr1 (Nat.le_trans (shp_le hr1 (by decide)) hn) dX2_become_86 ?_
  refine T_putZ C.1 LyI_Lay fd_X2_34 ht (Nat.le_trans (shp_le ht (by decide)) hn) dX2_become_89 (fun m8 => ?_)
  refine T_aload_n C.1 dX2_become_92 0 rfl ?_
  refine T_aload_n C.1 dX2_become_93 1 rfl ?_
  refine T_getI C.1 fd_X2_38 (fun _ _ _ _ => rfl) hr1 (Nat.le_trans (shp_le hr1 (by decide)) hn) dX2_become_94 ?_
  refine T_putI C.1 LyI_Lay fd_X2_38 ht (Nat.le_trans (shp_le ht (by decide)) hn) dX2_become_97 (fun m9 => ?_)
  refine T_aload_n C.1 dX2_become_100 0 rfl ?_
  refine T_aload_n C.1 dX2_become_101 1 rfl ?_
  refine T_getI C.1 fd_X2_41 (fun _ _ _ _ => rfl) hr1 (Nat.le_trans (shp_le hr1 (by decide)) hn) dX2_become_102 ?_
  refine T_putI C.1 LyI_Lay fd_X2_41 ht (Nat.le_trans (shp_le ht (by decide)) hn) dX2_become_105 (fun m10 => ?_)
  refine T_aload_n C.1 dX2_become_108 0 rfl ?_
  refine T_aload_n C.1 dX2_become_109 1 rfl ?_
  refine T_getI C.1 fd_X2_44 (fun _ _ _ _ => rfl) hr1 (Nat.le_trans (shp_le hr1 (by decide)) hn) dX2_become_110 ?_
  refine T_putI C.1 LyI_Lay fd_X2_44 ht (Nat.le_trans (shp_le ht (by decide)) hn) dX2_become_113 (fun m11 => ?_)
  exact T_vret C.1 C.2.1 C.2.2 dX2_become_116
def rm_X2_beginBy : Room := { frames := 3, cells := 0, slots := 0, locals := 83 }
def F_X2_beginBy  (t : Nat) (r1 : Nat) (m : Mm) : Option (Unit × Mm) :=
  (if shp t = (9, 2) then
    (if shp r1 = (1, 7) then
      cpI 7 7 m r1 (iI 0) (t + 1) (iI 0) (iI 7) fun m1 =>
      bnd (F_X2_wrapAll t m1) fun _ m3 =>
      nm (pI m3 t 10 (iI 0)) fun m4 =>
      some ((), m4)
    else none)
  else none)
set_option maxRecDepth 100000 in
set_option maxHeartbeats 4000000 in
theorem c_X2_beginBy {wn : Nat} (hn : NN ≤ wn) (ll : Launch) (cx : CX) (t : Nat) (r1 : Nat) (m : Mm) : MT ll yX2_beginBy cX2_beginBy 2 (none) rm_X2_beginBy cx wn wn Lay cvV 0 0 [.ref (cx.2.2.1 + t), .ref (cx.2.2.1 + r1)] m (F_X2_beginBy t r1 m) := by
  refine MT_of (by decide) (Nat.le_of_ble_eq_true rfl) ?_
  intro pp ee ss mm aa bb me co hK hr hk hn0
  have C : CM pp ss mm aa me co cX2_beginBy 2 RX2 cx (none) := ⟨hK, hr, hk⟩
  show TV pp ll ee rm_X2_beginBy ss mm aa bb me co 2 cx wn 0 [(0, .ref (cx.2.2.1 + t)), (1, .ref (cx.2.2.1 + r1))] [] m (F_X2_beginBy t r1 m)
  unfold F_X2_beginBy
  refine T_if (fun ht => ?_) (fun _ => T_none)
  refine T_if (fun hr1 => ?_) (fun _ => T_none)
  refine T_aload_n C.1 dX2_beginBy_0 1 rfl ?_
  refine T_iconst C.1 dX2_beginBy_1 ?_
  refine T_aload_n C.1 dX2_beginBy_2 0 rfl ?_
  refine T_getR (x := (t + 1)) C.1 fd_X2_9 (fun _ _ _ _ => rfl) ht (Nat.le_trans (shp_le ht (by decide)) hn) (fun _ h => h) rfl (Nat.succ_ne_zero _) dX2_beginBy_3 ?_
  refine T_iconst C.1 dX2_beginBy_6 ?_
  refine T_bipush C.1 dX2_beginBy_7 rfl ?_
  refine T_cpI C.1 (fun _ _ _ h => h) dX2_beginBy_9 wm_2_214 wx_ac_1 wx_ac_2 wx_sys hr1 (Nat.le_trans (shp_le hr1 (by decide)) hn) (shr_2_1 ht) (Nat.le_trans (shp_le (shr_2_1 ht) (by decide)) hn) (Nat.le_of_ble_eq_true rfl) (Nat.le_of_ble_eq_true rfl) (fun m1 => ?_)
  refine T_aload_n C.1 dX2_beginBy_12 0 rfl ?_
  refine T_callVV (rm := rm_X2_wrapAll) [] [] C.1 dX2_beginBy_13 mw_X2_wrapAll wm_2_217 wm_2_195 wm_2_196 ⟨Nat.le_of_ble_eq_true rfl, Nat.le_of_ble_eq_true rfl⟩ ⟨rfl, rfl⟩ ⟨Nat.zero_le _, Nat.zero_le _⟩ rfl rfl (Nat.le_of_ble_eq_true rfl) ht (Nat.le_trans (shp_le ht (by decide)) hn) ⟨rfl, rfl⟩ (c_X2_wrapAll hn ll cx t m1) (fun u2 m3 => ?_)
  refine T_aload_n C.1 dX2_beginBy_16 0 rfl ?_
  refine T_iconst C.1 dX2_beginBy_17 ?_
  refine T_putI C.1 LyI_Lay fd_X2_44 ht (Nat.le_trans (shp_le ht (by decide)) hn) dX2_beginBy_18 (fun m4 => ?_)
  exact T_vret C.1 C.2.1 C.2.2 dX2_beginBy_21
def rm_X2_changePlaces : Room := { frames := 1, cells := 0, slots := 0, locals := 40 }
def F_X2_changePlaces  (t : Nat) (x1 : Int32) (x2 : Int32) (m : Mm) : Option (Unit × Mm) :=
  (if shp t = (9, 2) then
    rd 7 x1 fun j1 =>
    nm (gI m (t + 1) j1) fun v2 =>
    rd 7 x2 fun j3 =>
    wrI 7 m (t + 1) x1 (gI m (t + 1) j3) fun m4 =>
    wrI 7 m4 (t + 1) x2 v2 fun m5 =>
    some ((), m5)
  else none)
set_option maxRecDepth 100000 in
set_option maxHeartbeats 4000000 in
theorem c_X2_changePlaces {wn : Nat} (hn : NN ≤ wn) (ll : Launch) (cx : CX) (t : Nat) (x1 : Int32) (x2 : Int32) (m : Mm) : MT ll yX2_changePlaces cX2_changePlaces 4 (none) rm_X2_changePlaces cx wn wn Lay cvV 0 0 [.ref (cx.2.2.1 + t), .int x1, .int x2] m (F_X2_changePlaces t x1 x2 m) := by
  refine MT_of (by decide) (Nat.le_of_ble_eq_true rfl) ?_
  intro pp ee ss mm aa bb me co hK hr hk hn0
  have C : CM pp ss mm aa me co cX2_changePlaces 4 RX2 cx (none) := ⟨hK, hr, hk⟩
  show TV pp ll ee rm_X2_changePlaces ss mm aa bb me co 4 cx wn 0 [(0, .ref (cx.2.2.1 + t)), (1, .int x1), (2, .int x2)] [] m (F_X2_changePlaces t x1 x2 m)
  unfold F_X2_changePlaces
  refine T_if (fun ht => ?_) (fun _ => T_none)
  refine T_aload_n C.1 dX2_changePlaces_0 0 rfl ?_
  refine T_getR (x := (t + 1)) C.1 fd_X2_9 (fun _ _ _ _ => rfl) ht (Nat.le_trans (shp_le ht (by decide)) hn) (fun _ h => h) rfl (Nat.succ_ne_zero _) dX2_changePlaces_1 ?_
  refine T_iload_n C.1 dX2_changePlaces_4 1 rfl ?_
  refine T_iald C.1 dX2_changePlaces_5 (shr_2_1 ht) (Nat.le_trans (shp_le (shr_2_1 ht) (by decide)) hn) (fun j1 => ?_)
  refine T_istore_nN C.1 (fun v2 => [(3, .int v2), (0, .ref (cx.2.2.1 + t)), (1, .int x1), (2, .int x2)]) dX2_changePlaces_6 (by decide) (fun _ => rfl) (fun v2 => ?_)
  refine T_aload_n C.1 dX2_changePlaces_7 1 rfl ?_
  refine T_getR (x := (t + 1)) C.1 fd_X2_9 (fun _ _ _ _ => rfl) ht (Nat.le_trans (shp_le ht (by decide)) hn) (fun _ h => h) rfl (Nat.succ_ne_zero _) dX2_changePlaces_8 ?_
  refine T_iload_n C.1 dX2_changePlaces_11 2 rfl ?_
  refine T_aload_n C.1 dX2_changePlaces_12 1 rfl ?_
  refine T_getR (x := (t + 1)) C.1 fd_X2_9 (fun _ _ _ _ => rfl) ht (Nat.le_trans (shp_le ht (by decide)) hn) (fun _ h => h) rfl (Nat.succ_ne_zero _) dX2_changePlaces_13 ?_
  refine T_iload_n C.1 dX2_changePlaces_16 3 rfl ?_
  refine T_iald C.1 dX2_changePlaces_17 (shr_2_1 ht) (Nat.le_trans (shp_le (shr_2_1 ht) (by decide)) hn) (fun j3 => ?_)
  refine T_iast C.1 LyI_Lay (shr_2_1 ht) (Nat.le_trans (shp_le (shr_2_1 ht) (by decide)) hn) dX2_changePlaces_18 (fun m4 => ?_)
  refine T_aload_n C.1 dX2_changePlaces_19 1 rfl ?_
  refine T_getR (x := (t + 1)) C.1 fd_X2_9 (fun _ _ _ _ => rfl) ht (Nat.le_trans (shp_le ht (by decide)) hn) (fun _ h => h) rfl (Nat.succ_ne_zero _) dX2_changePlaces_20 ?_
  refine T_iload_n C.1 dX2_changePlaces_23 3 rfl ?_
  refine T_iload_n C.1 dX2_changePlaces_24 0 rfl ?_
  refine T_iast C.1 LyI_Lay (shr_2_1 ht) (Nat.le_trans (shp_le (shr_2_1 ht) (by decide)) hn) dX2_changePlaces_25 (fun m5 => ?_)
  exact T_vret C.1 C.2.1 C.2.2 dX2_changePlaces_26
def rm_X2_whoseTurn : Room := { frames := 1, cells := 0, slots := 0, locals := 40 }
def F_X2_whoseTurn  (t : Nat) (m : Mm) : Option (Int32 × Mm) :=
  (if shp t = (9, 2) then
    (if (gI m t 5) = (iI (-1)) then
      (if (gI m 2 0) ≤ (gI m t 4) then
        some ((iI (-2)), m)
      else
        (if (iI 7) ≤ (gI m t 4) then
          some ((iI (-2)), m)
        else
          rd 7 (gI m t 4) fun j1 =>
          some ((gI m (t + 1) j1), m)))
    else
      some ((gI m t 5), m))
  else none)
set_option maxRecDepth 100000 in
set_option maxHeartbeats 4000000 in
theorem c_X2_whoseTurn {wn : Nat} (hn : NN ≤ wn) (ll : Launch) (cx : CX) (t : Nat) (m : Mm) : MT ll yX2_whoseTurn cX2_whoseTurn 2 ((some .int)) rm_X2_whoseTurn cx wn wn Lay cvI 0 0 [.ref (cx.2.2.1 + t), .ref (cx.2.2.1 + 2)] m (F_X2_whoseTurn t m) := by
  refine MT_of (by decide) (Nat.le_of_ble_eq_true rfl) ?_
  intro pp ee ss mm aa bb me co hK hr hk hn0
  have C : CM pp ss mm aa me co cX2_whoseTurn 2 RX2 cx ((some .int)) := ⟨hK, hr, hk⟩
  show TI pp ll ee rm_X2_whoseTurn ss mm aa bb me co 2 cx wn 0 [(0, .ref (cx.2.2.1 + t)), (1, .ref (cx.2.2.1 + 2))] [] m (F_X2_whoseTurn t m)
  unfold F_X2_whoseTurn
  refine T_if (fun ht => ?_) (fun _ => T_none)
  refine T_aload_n C.1 dX2_whoseTurn_0 0 rfl ?_
  refine T_getI C.1 fd_X2_28 (fun _ _ _ _ => rfl) ht (Nat.le_trans (shp_le ht (by decide)) hn) dX2_whoseTurn_1 ?_
  refine T_iconst C.1 dX2_whoseTurn_4 ?_
  refine T_icmp_eq (tgt := 13) C.1 dX2_whoseTurn_5 (by decide) ?_ ?_
  · refine T_aload_n C.1 dX2_whoseTurn_13 0 rfl ?_
    refine T_getI C.1 fd_X2_24 (fun _ _ _ _ => rfl) ht (Nat.le_trans (shp_le ht (by decide)) hn) dX2_whoseTurn_14 ?_
    refine T_aload_n C.1 dX2_whoseTurn_17 1 rfl ?_
    refine T_getI C.1 fd_X2_57 (fun _ _ _ _ => rfl) sh2 (Nat.le_trans le2 hn) dX2_whoseTurn_18 ?_
    refine T_icmp_ge (tgt := 45) C.1 dX2_whoseTurn_21 (by decide) ?_ ?_
    · refine T_bipush C.1 dX2_whoseTurn_45 rfl ?_
      exact T_iret C.1 C.2.1 C.2.2 dX2_whoseTurn_47
    · refine T_aload_n C.1 dX2_whoseTurn_24 0 rfl ?_
      refine T_getI C.1 fd_X2_24 (fun _ _ _ _ => rfl) ht (Nat.le_trans (shp_le ht (by decide)) hn) dX2_whoseTurn_25 ?_
      refine T_bipush C.1 dX2_whoseTurn_28 rfl ?_
      refine T_icmp_ge (tgt := 45) C.1 dX2_whoseTurn_30 (by decide) ?_ ?_
      · refine T_bipush C.1 dX2_whoseTurn_45 rfl ?_
        exact T_iret C.1 C.2.1 C.2.2 dX2_whoseTurn_47
      · refine T_aload_n C.1 dX2_whoseTurn_33 0 rfl ?_
        refine T_getR (x := (t + 1)) C.1 fd_X2_9 (fun _ _ _ _ => rfl) ht (Nat.le_trans (shp_le ht (by decide)) hn) (fun _ h => h) rfl (Nat.succ_ne_zero _) dX2_whoseTurn_34 ?_
        refine T_aload_n C.1 dX2_whoseTurn_37 0 rfl ?_
        refine T_getI C.1 fd_X2_24 (fun _ _ _ _ => rfl) ht (Nat.le_trans (shp_le ht (by decide)) hn) dX2_whoseTurn_38 ?_
        refine T_iald C.1 dX2_whoseTurn_41 (shr_2_1 ht) (Nat.le_trans (shp_le (shr_2_1 ht) (by decide)) hn) (fun j1 => ?_)
        refine T_goto (tgt := 47) C.1 dX2_whoseTurn_42 (by decide) ?_
        exact T_iret C.1 C.2.1 C.2.2 dX2_whoseTurn_47
  · refine T_aload_n C.1 dX2_whoseTurn_8 0 rfl ?_
    refine T_getI C.1 fd_X2_28 (fun _ _ _ _ => rfl) ht (Nat.le_trans (shp_le ht (by decide)) hn) dX2_whoseTurn_9 ?_
    exact T_iret C.1 C.2.1 C.2.2 dX2_whoseTurn_12
def rm_X2_isSafe : Room := { frames := 1, cells := 0, slots := 0, locals := 40 }
def F_X2_isSafe  (t : Nat) (x1 : Int32) (m : Mm) : Option (Int32 × Mm) :=
  (if shp t = (9, 2) then
    rd 7 x1 fun j1 =>
    (if (gI m (t + 4) j1) < (gI m 2 4) then
      rz (iI 0) m
    else
      rz (iI 1) m)
  else none)
set_option maxRecDepth 100000 in
set_option maxHeartbeats 4000000 in
theorem c_X2_isSafe {wn : Nat} (hn : NN ≤ wn) (ll : Launch) (cx : CX) (t : Nat) (x1 : Int32) (m : Mm) : MT ll yX2_isSafe cX2_isSafe 3 ((some .boolean)) rm_X2_isSafe cx wn wn Lay cvI 0 0 [.ref (cx.2.2.1 + t), .int x1, .ref (cx.2.2.1 + 2)] m (F_X2_isSafe t x1 m) := by
  refine MT_of (by decide) (Nat.le_of_ble_eq_true rfl) ?_
  intro pp ee ss mm aa bb me co hK hr hk hn0
  have C : CM pp ss mm aa me co cX2_isSafe 3 RX2 cx ((some .boolean)) := ⟨hK, hr, hk⟩
  show TI pp ll ee rm_X2_isSafe ss mm aa bb me co 3 cx wn 0 [(0, .ref (cx.2.2.1 + t)), (1, .int x1), (2, .ref (cx.2.2.1 + 2))] [] m (F_X2_isSafe t x1 m)
  unfold F_X2_isSafe
  refine T_if (fun ht => ?_) (fun _ => T_none)
  refine T_aload_n C.1 dX2_isSafe_0 0 rfl ?_
  refine T_getR (x := (t + 4)) C.1 fd_X2_21 (fun _ _ _ _ => rfl) ht (Nat.le_trans (shp_le ht (by decide)) hn) (fun _ h => h) rfl (Nat.succ_ne_zero _) dX2_isSafe_1 ?_
  refine T_iload_n C.1 dX2_isSafe_4 1 rfl ?_
  refine T_iald C.1 dX2_isSafe_5 (shr_2_4 ht) (Nat.le_trans (shp_le (shr_2_4 ht) (by decide)) hn) (fun j1 => ?_)
  refine T_aload_n C.1 dX2_isSafe_6 2 rfl ?_
  refine T_getI C.1 fd_X2_71 (fun _ _ _ _ => rfl) sh2 (Nat.le_trans le2 hn) dX2_isSafe_7 ?_
  refine T_icmp_lt (tgt := 17) C.1 dX2_isSafe_10 (by decide) ?_ ?_
  · refine T_iconst C.1 dX2_isSafe_17 ?_
    exact T_zret C.1 C.2.1 C.2.2 dX2_isSafe_18
  · refine T_iconst C.1 dX2_isSafe_13 ?_
    refine T_goto (tgt := 18) C.1 dX2_isSafe_14 (by decide) ?_
    exact T_zret C.1 C.2.1 C.2.2 dX2_isSafe_18
def rm_X2_countSafe : Room := { frames := 2, cells := 0, slots := 0, locals := 62 }
def F_X2_countSafe_24 (k_4 : Int32 → Int32 → Mm → Option (Int32 × Mm)) (t : Nat) (a1 : Int32) (a2 : Int32) (m : Mm) : Option (Int32 × Mm) :=
  nm (a2 + (iI 1)) fun v1 =>
  k_4 a1 v1 m
set_option maxRecDepth 100000 in
set_option maxHeartbeats 4000000 in
theorem t_X2_countSafe_24 {wn : Nat} (hn : NN ≤ wn) {pp : Program} {ll : Launch} {ee : Env} {ss : State} {mm : MethodId} {aa : Array Value} {bb : List Frame} {me : Method} {co : Code} {cx : CX}  {k_4 : Int32 → Int32 → Mm → Option (Int32 × Mm)}  {t : Nat} (C : CM pp ss mm aa me co cX2_countSafe 4 RX2 cx ((some .int))) (ht : shp t = (9, 2))  (hk_4 : ∀ (a1 : Int32) (a2 : Int32) (m : Mm), TI pp ll ee rm_X2_countSafe ss mm aa bb me co 4 cx wn 4 [(0, .ref (cx.2.2.1 + t)), (1, .ref (cx.2.2.1 + 2)), (2, .int a1), (3, .int a2)] [] m (k_4 a1 a2 m)) (a1 : Int32) (a2 : Int32) (m : Mm) : TI pp ll ee rm_X2_countSafe ss mm aa bb me co 4 cx wn 24 [(0, .ref (cx.2.2.1 + t)), (1, .ref (cx.2.2.1 + 2)), (2, .int a1), (3, .int a2)] [] m (F_X2_countSafe_24 k_4 t a1 a2 m) := by
  unfold F_X2_countSafe_24
  refine T_iincN C.1 (fun v1 => [(3, .int v1), (0, .ref (cx.2.2.1 + t)), (1, .ref (cx.2.2.1 + 2)), (2, .int a1)]) dX2_countSafe_24 3 rfl (by decide) (fun _ => rfl) (fun v1 => ?_)
  refine T_goto (tgt := 4) C.1 dX2_countSafe_27 (by decide) ?_
  exact T_sub [1, 2, 3, 0] rfl (hk_4 a1 v1 m)
def F_X2_countSafe_4 (t : Nat) : Nat → Int32 → Int32 → Mm → Option (Int32 × Mm)
  | 0, _, _, _ => none
  | f + 1, a1, a2, m =>
    (if (gI m 2 0) ≤ a2 then
      some (a1, m)
    else
      bnd (F_X2_isSafe t a2 m) fun v1 m2 =>
      (if v1 = iI 0 then
        F_X2_countSafe_24 (F_X2_countSafe_4 t f) t a1 a2 m2
      else
        nm (a1 + (iI 1)) fun v3 =>
        F_X2_countSafe_24 (F_X2_countSafe_4 t f) t v3 a2 m2))
set_option maxRecDepth 100000 in
set_option maxHeartbeats 4000000 in
theorem t_X2_countSafe_4 {wn : Nat} (hn : NN ≤ wn) {pp : Program} {ll : Launch} {ee : Env} {ss : State} {mm : MethodId} {aa : Array Value} {bb : List Frame} {me : Method} {co : Code} {cx : CX}    {t : Nat} (C : CM pp ss mm aa me co cX2_countSafe 4 RX2 cx ((some .int))) (ht : shp t = (9, 2))   : ∀ (f : Nat) (a1 : Int32) (a2 : Int32) (m : Mm), TI pp ll ee rm_X2_countSafe ss mm aa bb me co 4 cx wn 4 [(0, .ref (cx.2.2.1 + t)), (1, .ref (cx.2.2.1 + 2)), (2, .int a1), (3, .int a2)] [] m (F_X2_countSafe_4 t f a1 a2 m) := by
  intro f
  induction f with
  | zero => exact fun _ _ _ => T_none
  | succ f ih =>
    intro a1 a2 m
    unfold F_X2_countSafe_4
    refine T_iload_n C.1 dX2_countSafe_4 3 rfl ?_
    refine T_aload_n C.1 dX2_countSafe_5 1 rfl ?_
    refine T_getI C.1 fd_X2_57 (fun _ _ _ _ => rfl) sh2 (Nat.le_trans le2 hn) dX2_countSafe_6 ?_
    refine T_icmp_ge (tgt := 30) C.1 dX2_countSafe_9 (by decide) ?_ ?_
    · refine T_iload_n C.1 dX2_countSafe_30 2 rfl ?_
      exact T_iret C.1 C.2.1 C.2.2 dX2_countSafe_31
    · refine T_aload_n C.1 dX2_countSafe_12 0 rfl ?_
      refine T_iload_n C.1 dX2_countSafe_13 3 rfl ?_
      refine T_aload_n C.1 dX2_countSafe_14 1 rfl ?_
      refine T_callVI (rm := rm_X2_isSafe) [.int a2, .ref (cx.2.2.1 + 2)] [] C.1 dX2_countSafe_15 mw_X2_isSafe wm_2_149 wm_2_150 wm_2_151 ⟨Nat.le_of_ble_eq_true rfl, Nat.le_of_ble_eq_true rfl⟩ ⟨rfl, rfl⟩ ⟨Nat.zero_le _, Nat.zero_le _⟩ rfl rfl (Nat.le_of_ble_eq_true rfl) ht (Nat.le_trans (shp_le ht (by decide)) hn) ⟨rfl, rfl⟩ (c_X2_isSafe hn ll cx t a2 m) (fun v1 m2 => ?_)
      refine T_if_eq (tgt := 24) C.1 dX2_countSafe_18 (by decide) ?_ ?_
      · exact T_sub [0, 1, 2, 3] rfl (t_X2_countSafe_24 hn C ht (ih) a1 a2 m2)
      · refine T_iincN C.1 (fun v3 => [(2, .int v3), (0, .ref (cx.2.2.1 + t)), (1, .ref (cx.2.2.1 + 2)), (3, .int a2)]) dX2_countSafe_21 2 rfl (by decide) (fun _ => rfl) (fun v3 => ?_)
        exact T_sub [1, 2, 0, 3] rfl (t_X2_countSafe_24 hn C ht (ih) v3 a2 m2)
def F_X2_countSafe  (t : Nat) (m : Mm) : Option (Int32 × Mm) :=
  (if shp t = (9, 2) then
    F_X2_countSafe_4 t FU (iI 0) (iI 0) m
  else none)
set_option maxRecDepth 100000 in
set_option maxHeartbeats 4000000 in
theorem c_X2_countSafe {wn : Nat} (hn : NN ≤ wn) (ll : Launch) (cx : CX) (t : Nat) (m : Mm) : MT ll yX2_countSafe cX2_countSafe 4 ((some .int)) rm_X2_countSafe cx wn wn Lay cvI 0 0 [.ref (cx.2.2.1 + t), .ref (cx.2.2.1 + 2)] m (F_X2_countSafe t m) := by
  refine MT_of (by decide) (Nat.le_of_ble_eq_true rfl) ?_
  intro pp ee ss mm aa bb me co hK hr hk hn0
  have C : CM pp ss mm aa me co cX2_countSafe 4 RX2 cx ((some .int)) := ⟨hK, hr, hk⟩
  show TI pp ll ee rm_X2_countSafe ss mm aa bb me co 4 cx wn 0 [(0, .ref (cx.2.2.1 + t)), (1, .ref (cx.2.2.1 + 2))] [] m (F_X2_countSafe t m)
  unfold F_X2_countSafe
  refine T_if (fun ht => ?_) (fun _ => T_none)
  refine T_iconst C.1 dX2_countSafe_0 ?_
  refine T_istore_n (lv' := [(2, .int (iI 0)), (0, .ref (cx.2.2.1 + t)), (1, .ref (cx.2.2.1 + 2))]) C.1 dX2_countSafe_1 (by decide) rfl ?_
  refine T_iconst C.1 dX2_countSafe_2 ?_
  refine T_istore_n (lv' := [(3, .int (iI 0)), (2, .int (iI 0)), (0, .ref (cx.2.2.1 + t)), (1, .ref (cx.2.2.1 + 2))]) C.1 dX2_countSafe_3 (by decide) rfl ?_
  exact T_sub [2, 3, 1, 0] rfl (t_X2_countSafe_4 hn C ht FU (iI 0) (iI 0) m)
def rm_X2_mayRob : Room := { frames := 2, cells := 0, slots := 0, locals := 62 }
def F_X2_mayRob  (t : Nat) (x1 : Int32) (m : Mm) : Option (Int32 × Mm) :=
  (if shp t = (9, 2) then
    (if x1 < iI 0 then
      rz (iI 0) m
    else
      (if (gI m t 4) ≤ x1 then
        rz (iI 0) m
      else
        (if x1 = (gI m t 6) then
          rz (iI 0) m
        else
          bnd (F_X2_isSafe t x1 m) fun v1 m2 =>
          (if v1 = iI 0 then
            rz (iI 1) m2
          else
            rz (iI 0) m2))))
  else none)
set_option maxRecDepth 100000 in
set_option maxHeartbeats 4000000 in
theorem c_X2_mayRob {wn : Nat} (hn : NN ≤ wn) (ll : Launch) (cx : CX) (t : Nat) (x1 : Int32) (m : Mm) : MT ll yX2_mayRob cX2_mayRob 3 ((some .boolean)) rm_X2_mayRob cx wn wn Lay cvI 0 0 [.ref (cx.2.2.1 + t), .int x1, .ref (cx.2.2.1 + 2)] m (F_X2_mayRob t x1 m) := by
  refine MT_of (by decide) (Nat.le_of_ble_eq_true rfl) ?_
  intro pp ee ss mm aa bb me co hK hr hk hn0
  have C : CM pp ss mm aa me co cX2_mayRob 3 RX2 cx ((some .boolean)) := ⟨hK, hr, hk⟩
  show TI pp ll ee rm_X2_mayRob ss mm aa bb me co 3 cx wn 0 [(0, .ref (cx.2.2.1 + t)), (1, .int x1), (2, .ref (cx.2.2.1 + 2))] [] m (F_X2_mayRob t x1 m)
  unfold F_X2_mayRob
  refine T_if (fun ht => ?_) (fun _ => T_none)
  refine T_iload_n C.1 dX2_mayRob_0 1 rfl ?_
  refine T_if_lt (tgt := 33) C.1 dX2_mayRob_1 (by decide) ?_ ?_
  · refine T_iconst C.1 dX2_mayRob_33 ?_
    exact T_zret C.1 C.2.1 C.2.2 dX2_mayRob_34
  · refine T_iload_n C.1 dX2_mayRob_4 1 rfl ?_
    refine T_aload_n C.1 dX2_mayRob_5 0 rfl ?_
    refine T_getI C.1 fd_X2_24 (fun _ _ _ _ => rfl) ht (Nat.le_trans (shp_le ht (by decide)) hn) dX2_mayRob_6 ?_
    refine T_icmp_ge (tgt := 33) C.1 dX2_mayRob_9 (by decide) ?_ ?_
    · refine T_iconst C.1 dX2_mayRob_33 ?_
      exact T_zret C.1 C.2.1 C.2.2 dX2_mayRob_34
    · refine T_iload_n C.1 dX2_mayRob_12 1 rfl ?_
      refine T_aload_n C.1 dX2_mayRob_13 0 rfl ?_
      refine T_getI C.1 fd_X2_31 (fun _ _ _ _ => rfl) ht (Nat.le_trans (shp_le ht (by decide)) hn) dX2_mayRob_14 ?_
      refine T_icmp_eq (tgt := 33) C.1 dX2_mayRob_17 (by decide) ?_ ?_
      · refine T_iconst C.1 dX2_mayRob_33 ?_
        exact T_zret C.1 C.2.1 C.2.2 dX2_mayRob_34
      · refine T_aload_n C.1 dX2_mayRob_20 0 rfl ?_
        refine T_iload_n C.1 dX2_mayRob_21 1 rfl ?_
        refine T_aload_n C.1 dX2_mayRob_22 2 rfl ?_
        refine T_callVI (rm := rm_X2_isSafe) [.int x1, .ref (cx.2.2.1 + 2)] [] C.1 dX2_mayRob_23 mw_X2_isSafe wm_2_149 wm_2_150 wm_2_151 ⟨Nat.le_of_ble_eq_true rfl, Nat.le_of_ble_eq_true rfl⟩ ⟨rfl, rfl⟩ ⟨Nat.zero_le _, Nat.zero_le _⟩ rfl rfl (Nat.le_of_ble_eq_true rfl) ht (Nat.le_trans (shp_le ht (by decide)) hn) ⟨rfl, rfl⟩ (c_X2_isSafe hn ll cx t x1 m) (fun v1 m2 => ?_)
        refine T_if_ne (tgt := 33) C.1 dX2_mayRob_26 (by decide) ?_ ?_
        · refine T_iconst C.1 dX2_mayRob_33 ?_
          exact T_zret C.1 C.2.1 C.2.2 dX2_mayRob_34
        · refine T_iconst C.1 dX2_mayRob_29 ?_
          refine T_goto (tgt := 34) C.1 dX2_mayRob_30 (by decide) ?_
          exact T_zret C.1 C.2.1 C.2.2 dX2_mayRob_34
def rm_X2_give : Room := { frames := 1, cells := 0, slots := 0, locals := 40 }
def F_X2_give  (t : Nat) (x1 : Int32) (x2 : Int32) (m : Mm) : Option (Unit × Mm) :=
  (if shp t = (9, 2) then
    wrI 7 m (t + 2) x1 x2 fun m1 =>
    wrI 7 m1 (t + 3) x2 x1 fun m2 =>
    nm (pI m2 t 8 x1) fun m3 =>
    nm (pI m3 t 9 x2) fun m4 =>
    nm (pI m4 t 10 ((gI m4 t 10) + (iI 1))) fun m5 =>
    some ((), m5)
  else none)
set_option maxRecDepth 100000 in
set_option maxHeartbeats 4000000 in
theorem c_X2_give {wn : Nat} (hn : NN ≤ wn) (ll : Launch) (cx : CX) (t : Nat) (x1 : Int32) (x2 : Int32) (m : Mm) : MT ll yX2_give cX2_give 3 (none) rm_X2_give cx wn wn Lay cvV 0 0 [.ref (cx.2.2.1 + t), .int x1, .int x2] m (F_X2_give t x1 x2 m) := by
  refine MT_of (by decide) (Nat.le_of_ble_eq_true rfl) ?_
  intro pp ee ss mm aa bb me co hK hr hk hn0
  have C : CM pp ss mm aa me co cX2_give 3 RX2 cx (none) := ⟨hK, hr, hk⟩
  show TV pp ll ee rm_X2_give ss mm aa bb me co 3 cx wn 0 [(0, .ref (cx.2.2.1 + t)), (1, .int x1), (2, .int x2)] [] m (F_X2_give t x1 x2 m)
  unfold F_X2_give
  refine T_if (fun ht => ?_) (fun _ => T_none)
  refine T_aload_n C.1 dX2_give_0 0 rfl ?_
  refine T_getR (x := (t + 2)) C.1 fd_X2_15 (fun _ _ _ _ => rfl) ht (Nat.le_trans (shp_le ht (by decide)) hn) (fun _ h => h) rfl (Nat.succ_ne_zero _) dX2_give_1 ?_
  refine T_iload_n C.1 dX2_give_4 1 rfl ?_
  refine T_iload_n C.1 dX2_give_5 2 rfl ?_
  refine T_iast C.1 LyI_Lay (shr_2_2 ht) (Nat.le_trans (shp_le (shr_2_2 ht) (by decide)) hn) dX2_give_6 (fun m1 => ?_)
  refine T_aload_n C.1 dX2_give_7 0 rfl ?_
  refine T_getR (x := (t + 3)) C.1 fd_X2_18 (fun _ _ _ _ => rfl) ht (Nat.le_trans (shp_le ht (by decide)) hn) (fun _ h => h) rfl (Nat.succ_ne_zero _) dX2_give_8 ?_
  refine T_iload_n C.1 dX2_give_11 2 rfl ?_
  refine T_iload_n C.1 dX2_give_12 1 rfl ?_
  refine T_iast C.1 LyI_Lay (shr_2_3 ht) (Nat.le_trans (shp_le (shr_2_3 ht) (by decide)) hn) dX2_give_13 (fun m2 => ?_)
  refine T_aload_n C.1 dX2_give_14 0 rfl ?_
  refine T_iload_n C.1 dX2_give_15 1 rfl ?_
  refine T_putI C.1 LyI_Lay fd_X2_38 ht (Nat.le_trans (shp_le ht (by decide)) hn) dX2_give_16 (fun m3 => ?_)
  refine T_aload_n C.1 dX2_give_19 0 rfl ?_
  refine T_iload_n C.1 dX2_give_20 2 rfl ?_
  refine T_putI C.1 LyI_Lay fd_X2_41 ht (Nat.le_trans (shp_le ht (by decide)) hn) dX2_give_21 (fun m4 => ?_)
  refine T_aload_n C.1 dX2_give_24 0 rfl ?_
  refine T_dup C.1 dX2_give_25 rfl ?_
  refine T_getI C.1 fd_X2_44 (fun _ _ _ _ => rfl) ht (Nat.le_trans (shp_le ht (by decide)) hn) dX2_give_26 ?_
  refine T_iconst C.1 dX2_give_29 ?_
  refine T_iadd C.1 dX2_give_30 ?_
  refine T_putI C.1 LyI_Lay fd_X2_44 ht (Nat.le_trans (shp_le ht (by decide)) hn) dX2_give_31 (fun m5 => ?_)
  exact T_vret C.1 C.2.1 C.2.2 dX2_give_34
def rm_X2_unwrap : Room := { frames := 2, cells := 0, slots := 0, locals := 62 }
def F_X2_unwrap  (t : Nat) (x1 : Int32) (m : Mm) : Option (Int32 × Mm) :=
  (if shp t = (9, 2) then
    (if (gI m t 4) < (iI 7) then
      nm (gI m t 4) fun v1 =>
      nm (pI m t 4 ((gI m t 4) + (iI 1))) fun m2 =>
      nm (pI m2 t 5 (iI (-1))) fun m3 =>
      nm (pI m3 t 6 (iI (-1))) fun m4 =>
      bnd (F_X2_give t x1 v1 m4) fun _ m6 =>
      some (v1, m6)
    else
      some ((iI (-5)), m))
  else none)
set_option maxRecDepth 100000 in
set_option maxHeartbeats 4000000 in
theorem c_X2_unwrap {wn : Nat} (hn : NN ≤ wn) (ll : Launch) (cx : CX) (t : Nat) (x1 : Int32) (m : Mm) : MT ll yX2_unwrap cX2_unwrap 3 ((some .int)) rm_X2_unwrap cx wn wn Lay cvI 0 0 [.ref (cx.2.2.1 + t), .int x1] m (F_X2_unwrap t x1 m) := by
  refine MT_of (by decide) (Nat.le_of_ble_eq_true rfl) ?_
  intro pp ee ss mm aa bb me co hK hr hk hn0
  have C : CM pp ss mm aa me co cX2_unwrap 3 RX2 cx ((some .int)) := ⟨hK, hr, hk⟩
  show TI pp ll ee rm_X2_unwrap ss mm aa bb me co 3 cx wn 0 [(0, .ref (cx.2.2.1 + t)), (1, .int x1)] [] m (F_X2_unwrap t x1 m)
  unfold F_X2_unwrap
  refine T_if (fun ht => ?_) (fun _ => T_none)
  refine T_aload_n C.1 dX2_unwrap_0 0 rfl ?_
  refine T_getI C.1 fd_X2_24 (fun _ _ _ _ => rfl) ht (Nat.le_trans (shp_le ht (by decide)) hn) dX2_unwrap_1 ?_
  refine T_bipush C.1 dX2_unwrap_4 rfl ?_
  refine T_icmp_lt (tgt := 12) C.1 dX2_unwrap_6 (by decide) ?_ ?_
  · refine T_aload_n C.1 dX2_unwrap_12 0 rfl ?_
    refine T_getI C.1 fd_X2_24 (fun _ _ _ _ => rfl) ht (Nat.le_trans (shp_le ht (by decide)) hn) dX2_unwrap_13 ?_
    refine T_istore_nN C.1 (fun v1 => [(2, .int v1), (0, .ref (cx.2.2.1 + t)), (1, .int x1)]) dX2_unwrap_16 (by decide) (fun _ => rfl) (fun v1 => ?_)
    refine T_aload_n C.1 dX2_unwrap_17 1 rfl ?_
    refine T_dup C.1 dX2_unwrap_18 rfl ?_
    refine T_getI C.1 fd_X2_24 (fun _ _ _ _ => rfl) ht (Nat.le_trans (shp_le ht (by decide)) hn) dX2_unwrap_19 ?_
    refine T_iconst C.1 dX2_unwrap_22 ?_
    refine T_iadd C.1 dX2_unwrap_23 ?_
    refine T_putI C.1 LyI_Lay fd_X2_24 ht (Nat.le_trans (shp_le ht (by decide)) hn) dX2_unwrap_24 (fun m2 => ?_)
    refine T_aload_n C.1 dX2_unwrap_27 1 rfl ?_
    refine T_iconst C.1 dX2_unwrap_28 ?_
    refine T_putI C.1 LyI_Lay fd_X2_28 ht (Nat.le_trans (shp_le ht (by decide)) hn) dX2_unwrap_29 (fun m3 => ?_)
    refine T_aload_n C.1 dX2_unwrap_32 1 rfl ?_
    refine T_iconst C.1 dX2_unwrap_33 ?_
    refine T_putI C.1 LyI_Lay fd_X2_31 ht (Nat.le_trans (shp_le ht (by decide)) hn) dX2_unwrap_34 (fun m4 => ?_)
    refine T_aload_n C.1 dX2_unwrap_37 1 rfl ?_
    refine T_iload_n C.1 dX2_unwrap_38 2 rfl ?_
    refine T_iload_n C.1 dX2_unwrap_39 0 rfl ?_
    refine T_callVV (rm := rm_X2_give) [.int x1, .int v1] [] C.1 dX2_unwrap_40 mw_X2_give wm_2_110 wm_2_112 wm_p_0 ⟨Nat.le_of_ble_eq_true rfl, Nat.le_of_ble_eq_true rfl⟩ ⟨rfl, rfl⟩ ⟨Nat.zero_le _, Nat.zero_le _⟩ rfl rfl (Nat.le_of_ble_eq_true rfl) ht (Nat.le_trans (shp_le ht (by decide)) hn) ⟨rfl, rfl⟩ (c_X2_give hn ll cx t x1 v1 m4) (fun u5 m6 => ?_)
    refine T_iload_n C.1 dX2_unwrap_43 0 rfl ?_
    exact T_iret C.1 C.2.1 C.2.2 dX2_unwrap_44
  · refine T_bipush C.1 dX2_unwrap_9 rfl ?_
    exact T_iret C.1 C.2.1 C.2.2 dX2_unwrap_11
def rm_X2_rob : Room := { frames := 2, cells := 0, slots := 0, locals := 62 }
def F_X2_rob  (t : Nat) (x1 : Int32) (x2 : Int32) (m : Mm) : Option (Int32 × Mm) :=
  (if shp t = (9, 2) then
    rd 7 x2 fun j1 =>
    nm (gI m (t + 3) j1) fun v2 =>
    (if iI 0 ≤ v2 then
      wrI 7 m (t + 2) v2 (iI (-1)) fun m3 =>
      rd 7 x2 fun j4 =>
      wrI 7 m3 (t + 4) x2 ((gI m3 (t + 4) j4) + (iI 1)) fun m5 =>
      nm (pI m5 t 5 v2) fun m6 =>
      nm (pI m6 t 6 x2) fun m7 =>
      bnd (F_X2_give t x1 x2 m7) fun _ m9 =>
      some (v2, m9)
    else
      some ((iI (-2)), m))
  else none)
set_option maxRecDepth 100000 in
set_option maxHeartbeats 4000000 in
theorem c_X2_rob {wn : Nat} (hn : NN ≤ wn) (ll : Launch) (cx : CX) (t : Nat) (x1 : Int32) (x2 : Int32) (m : Mm) : MT ll yX2_rob cX2_rob 4 ((some .int)) rm_X2_rob cx wn wn Lay cvI 0 0 [.ref (cx.2.2.1 + t), .int x1, .int x2] m (F_X2_rob t x1 x2 m) := by
  refine MT_of (by decide) (Nat.le_of_ble_eq_true rfl) ?_
  intro pp ee ss mm aa bb me co hK hr hk hn0
  have C : CM pp ss mm aa me co cX2_rob 4 RX2 cx ((some .int)) := ⟨hK, hr, hk⟩
  show TI pp ll ee rm_X2_rob ss mm aa bb me co 4 cx wn 0 [(0, .ref (cx.2.2.1 + t)), (1, .int x1), (2, .int x2)] [] m (F_X2_rob t x1 x2 m)
  unfold F_X2_rob
  refine T_if (fun ht => ?_) (fun _ => T_none)
  refine T_aload_n C.1 dX2_rob_0 0 rfl ?_
  refine T_getR (x := (t + 3)) C.1 fd_X2_18 (fun _ _ _ _ => rfl) ht (Nat.le_trans (shp_le ht (by decide)) hn) (fun _ h => h) rfl (Nat.succ_ne_zero _) dX2_rob_1 ?_
  refine T_iload_n C.1 dX2_rob_4 2 rfl ?_
  refine T_iald C.1 dX2_rob_5 (shr_2_3 ht) (Nat.le_trans (shp_le (shr_2_3 ht) (by decide)) hn) (fun j1 => ?_)
  refine T_istore_nN C.1 (fun v2 => [(3, .int v2), (0, .ref (cx.2.2.1 + t)), (1, .int x1), (2, .int x2)]) dX2_rob_6 (by decide) (fun _ => rfl) (fun v2 => ?_)
  refine T_iload_n C.1 dX2_rob_7 0 rfl ?_
  refine T_if_ge (tgt := 14) C.1 dX2_rob_8 (by decide) ?_ ?_
  · refine T_aload_n C.1 dX2_rob_14 1 rfl ?_
    refine T_getR (x := (t + 2)) C.1 fd_X2_15 (fun _ _ _ _ => rfl) ht (Nat.le_trans (shp_le ht (by decide)) hn) (fun _ h => h) rfl (Nat.succ_ne_zero _) dX2_rob_15 ?_
    refine T_iload_n C.1 dX2_rob_18 0 rfl ?_
    refine T_iconst C.1 dX2_rob_19 ?_
    refine T_iast C.1 LyI_Lay (shr_2_2 ht) (Nat.le_trans (shp_le (shr_2_2 ht) (by decide)) hn) dX2_rob_20 (fun m3 => ?_)
    refine T_aload_n C.1 dX2_rob_21 1 rfl ?_
    refine T_getR (x := (t + 4)) C.1 fd_X2_21 (fun _ _ _ _ => rfl) ht (Nat.le_trans (shp_le ht (by decide)) hn) (fun _ h => h) rfl (Nat.succ_ne_zero _) dX2_rob_22 ?_
    refine T_iload_n C.1 dX2_rob_25 3 rfl ?_
    refine T_dup2 C.1 dX2_rob_26 rfl rfl ?_
    refine T_iald C.1 dX2_rob_27 (shr_2_4 ht) (Nat.le_trans (shp_le (shr_2_4 ht) (by decide)) hn) (fun j4 => ?_)
    refine T_iconst C.1 dX2_rob_28 ?_
    refine T_iadd C.1 dX2_rob_29 ?_
    refine T_iast C.1 LyI_Lay (shr_2_4 ht) (Nat.le_trans (shp_le (shr_2_4 ht) (by decide)) hn) dX2_rob_30 (fun m5 => ?_)
    refine T_aload_n C.1 dX2_rob_31 1 rfl ?_
    refine T_iload_n C.1 dX2_rob_32 0 rfl ?_
    refine T_putI C.1 LyI_Lay fd_X2_28 ht (Nat.le_trans (shp_le ht (by decide)) hn) dX2_rob_33 (fun m6 => ?_)
    refine T_aload_n C.1 dX2_rob_36 1 rfl ?_
    refine T_iload_n C.1 dX2_rob_37 3 rfl ?_
    refine T_putI C.1 LyI_Lay fd_X2_31 ht (Nat.le_trans (shp_le ht (by decide)) hn) dX2_rob_38 (fun m7 => ?_)
    refine T_aload_n C.1 dX2_rob_41 1 rfl ?_
    refine T_iload_n C.1 dX2_rob_42 2 rfl ?_
    refine T_iload_n C.1 dX2_rob_43 3 rfl ?_
    refine T_callVV (rm := rm_X2_give) [.int x1, .int x2] [] C.1 dX2_rob_44 mw_X2_give wm_2_110 wm_2_112 wm_p_0 ⟨Nat.le_of_ble_eq_true rfl, Nat.le_of_ble_eq_true rfl⟩ ⟨rfl, rfl⟩ ⟨Nat.zero_le _, Nat.zero_le _⟩ rfl rfl (Nat.le_of_ble_eq_true rfl) ht (Nat.le_trans (shp_le ht (by decide)) hn) ⟨rfl, rfl⟩ (c_X2_give hn ll cx t x1 x2 m7) (fun u8 m9 => ?_)
    refine T_iload_n C.1 dX2_rob_47 0 rfl ?_
    exact T_iret C.1 C.2.1 C.2.2 dX2_rob_48
  · refine T_bipush C.1 dX2_rob_11 rfl ?_
    exact T_iret C.1 C.2.1 C.2.2 dX2_rob_13
def rm_X4_worthFor : Room := { frames := 1, cells := 0, slots := 0, locals := 40 }
def F_X4_worthFor_29  (a1 : Int32) (a2 : Int32) (a3 : Int32) (m : Mm) : Option (Int32 × Mm) :=
  (if a3 = iI 0 then
    some ((iI 0), m)
  else
    rd 70 (((iI 10) * a1) + a2) fun j1 =>
    some ((gI m 3 j1), m))
set_option maxRecDepth 100000 in
set_option maxHeartbeats 4000000 in
theorem t_X4_worthFor_29 {wn : Nat} (hn : NN ≤ wn) {pp : Program} {ll : Launch} {ee : Env} {ss : State} {mm : MethodId} {aa : Array Value} {bb : List Frame} {me : Method} {co : Code} {cx : CX}     (C : CM pp ss mm aa me co cX4_worthFor 4 RX4 cx ((some .int)))    (a1 : Int32) (a2 : Int32) (a3 : Int32) (m : Mm) : TI pp ll ee rm_X4_worthFor ss mm aa bb me co 4 cx wn 29 [(0, .ref (cx.2.2.1 + 2)), (1, .int a1), (2, .int a2)] [.int a3] m (F_X4_worthFor_29  a1 a2 a3 m) := by
  unfold F_X4_worthFor_29
  refine T_istore_n (lv' := [(3, .int a3), (0, .ref (cx.2.2.1 + 2)), (1, .int a1), (2, .int a2)]) C.1 dX4_worthFor_29 (by decide) rfl ?_
  refine T_iload_n C.1 dX4_worthFor_30 0 rfl ?_
  refine T_if_eq (tgt := 48) C.1 dX4_worthFor_31 (by decide) ?_ ?_
  · refine T_iconst C.1 dX4_worthFor_48 ?_
    exact T_iret C.1 C.2.1 C.2.2 dX4_worthFor_49
  · refine T_aload_n C.1 dX4_worthFor_34 1 rfl ?_
    refine T_getR (x := 3) C.1 fd_X4_15 (fun _ _ _ _ => rfl) sh2 (Nat.le_trans le2 hn) (fun _ h => h) rfl (by decide) dX4_worthFor_35 ?_
    refine T_bipush C.1 dX4_worthFor_38 rfl ?_
    refine T_iload_n C.1 dX4_worthFor_40 2 rfl ?_
    refine T_imul C.1 dX4_worthFor_41 ?_
    refine T_iload_n C.1 dX4_worthFor_42 3 rfl ?_
    refine T_iadd C.1 dX4_worthFor_43 ?_
    refine T_iald C.1 dX4_worthFor_44 sh3 (Nat.le_trans le3 hn) (fun j1 => ?_)
    refine T_goto (tgt := 49) C.1 dX4_worthFor_45 (by decide) ?_
    exact T_iret C.1 C.2.1 C.2.2 dX4_worthFor_49
def F_X4_worthFor_28  (a1 : Int32) (a2 : Int32) (m : Mm) : Option (Int32 × Mm) :=
  F_X4_worthFor_29 a1 a2 (iI 0) m
set_option maxRecDepth 100000 in
set_option maxHeartbeats 4000000 in
theorem t_X4_worthFor_28 {wn : Nat} (hn : NN ≤ wn) {pp : Program} {ll : Launch} {ee : Env} {ss : State} {mm : MethodId} {aa : Array Value} {bb : List Frame} {me : Method} {co : Code} {cx : CX}     (C : CM pp ss mm aa me co cX4_worthFor 4 RX4 cx ((some .int)))    (a1 : Int32) (a2 : Int32) (m : Mm) : TI pp ll ee rm_X4_worthFor ss mm aa bb me co 4 cx wn 28 [(0, .ref (cx.2.2.1 + 2)), (1, .int a1), (2, .int a2)] [] m (F_X4_worthFor_28  a1 a2 m) := by
  unfold F_X4_worthFor_28
  refine T_iconst C.1 dX4_worthFor_28 ?_
  exact T_sub [0, 1, 2] rfl (t_X4_worthFor_29 hn C a1 a2 (iI 0) m)
def F_X4_worthFor  (x1 : Int32) (x2 : Int32) (m : Mm) : Option (Int32 × Mm) :=
  (if x1 < iI 0 then
    F_X4_worthFor_28 x1 x2 m
  else
    (if (gI m 2 0) ≤ x1 then
      F_X4_worthFor_28 x1 x2 m
    else
      (if x2 < iI 0 then
        F_X4_worthFor_28 x1 x2 m
      else
        (if (gI m 2 0) ≤ x2 then
          F_X4_worthFor_28 x1 x2 m
        else
          F_X4_worthFor_29 x1 x2 (iI 1) m))))
set_option maxRecDepth 100000 in
set_option maxHeartbeats 4000000 in
theorem c_X4_worthFor {wn : Nat} (hn : NN ≤ wn) (ll : Launch) (cx : CX) (x1 : Int32) (x2 : Int32) (m : Mm) : MT ll yX4_worthFor cX4_worthFor 4 ((some .int)) rm_X4_worthFor cx wn wn Lay cvI 0 0 [.ref (cx.2.2.1 + 2), .int x1, .int x2] m (F_X4_worthFor x1 x2 m) := by
  refine MT_of (by decide) (Nat.le_of_ble_eq_true rfl) ?_
  intro pp ee ss mm aa bb me co hK hr hk hn0
  have C : CM pp ss mm aa me co cX4_worthFor 4 RX4 cx ((some .int)) := ⟨hK, hr, hk⟩
  show TI pp ll ee rm_X4_worthFor ss mm aa bb me co 4 cx wn 0 [(0, .ref (cx.2.2.1 + 2)), (1, .int x1), (2, .int x2)] [] m (F_X4_worthFor x1 x2 m)
  unfold F_X4_worthFor
  refine T_iload_n C.1 dX4_worthFor_0 1 rfl ?_
  refine T_if_lt (tgt := 28) C.1 dX4_worthFor_1 (by decide) ?_ ?_
  · exact T_sub [0, 1, 2] rfl (t_X4_worthFor_28 hn C x1 x2 m)
  · refine T_iload_n C.1 dX4_worthFor_4 1 rfl ?_
    refine T_aload_n C.1 dX4_worthFor_5 0 rfl ?_
    refine T_getI C.1 fd_X4_9 (fun _ _ _ _ => rfl) sh2 (Nat.le_trans le2 hn) dX4_worthFor_6 ?_
    refine T_icmp_ge (tgt := 28) C.1 dX4_worthFor_9 (by decide) ?_ ?_
    · exact T_sub [0, 1, 2] rfl (t_X4_worthFor_28 hn C x1 x2 m)
    · refine T_iload_n C.1 dX4_worthFor_12 2 rfl ?_
      refine T_if_lt (tgt := 28) C.1 dX4_worthFor_13 (by decide) ?_ ?_
      · exact T_sub [0, 1, 2] rfl (t_X4_worthFor_28 hn C x1 x2 m)
      · refine T_iload_n C.1 dX4_worthFor_16 2 rfl ?_
        refine T_aload_n C.1 dX4_worthFor_17 0 rfl ?_
        refine T_getI C.1 fd_X4_9 (fun _ _ _ _ => rfl) sh2 (Nat.le_trans le2 hn) dX4_worthFor_18 ?_
        refine T_icmp_ge (tgt := 28) C.1 dX4_worthFor_21 (by decide) ?_ ?_
        · exact T_sub [0, 1, 2] rfl (t_X4_worthFor_28 hn C x1 x2 m)
        · refine T_iconst C.1 dX4_worthFor_24 ?_
          refine T_goto (tgt := 29) C.1 dX4_worthFor_25 (by decide) ?_
          exact T_sub [0, 1, 2] rfl (t_X4_worthFor_29 hn C x1 x2 (iI 1) m)
