def rm_X4_isPair : Room := { frames := 2, cells := 0, slots := 0, locals := 61 }
def F_X4_isPair  (x1 : Int32) (m : Mm) : Option (Int32 × Mm) :=
  (if x1 < iI 0 then
    rz (iI 0) m
  else
    (if (iI 70) ≤ x1 then
      rz (iI 0) m
    else
      dvI x1 (iI 10) fun v1 =>
      bnd (F_X4_isOne v1 m) fun v2 m3 =>
      (if v2 = iI 0 then
        rz (iI 0) m3
      else
        rmI x1 (iI 10) fun v4 =>
        bnd (F_X4_isOne v4 m3) fun v5 m6 =>
        (if v5 = iI 0 then
          rz (iI 0) m6
        else
          rz (iI 1) m6))))
set_option maxRecDepth 100000 in
set_option maxHeartbeats 4000000 in
theorem c_X4_isPair (ll : Launch) (cx : CX) (x1 : Int32) (m : Mm) : MT ll yX4_isPair cX4_isPair 2 ((some .boolean)) rm_X4_isPair cx NN NN Lay cvI 0 0 [.ref (cx.2.2.1 + 2), .int x1] m (F_X4_isPair x1 m) := by
  refine MT_of (by decide) (Nat.le_of_ble_eq_true rfl) ?_
  intro pp ee ss mm aa bb me co hK hr hk hn
  have C : CM pp ss mm aa me co cX4_isPair 2 RX4 cx ((some .boolean)) := ⟨hK, hr, hk⟩
  show TI pp ll ee rm_X4_isPair ss mm aa bb me co 2 cx 0 [(0, .ref (cx.2.2.1 + 2)), (1, .int x1)] [] m (F_X4_isPair x1 m)
  unfold F_X4_isPair
  refine T_iload_n C.1 dX4_isPair_0 1 rfl ?_
  refine T_if_lt (tgt := 36) C.1 dX4_isPair_1 (by decide) ?_ ?_
  · refine T_iconst C.1 dX4_isPair_36 ?_
    exact T_zret C.1 C.2.1 C.2.2 dX4_isPair_37
  · refine T_iload_n C.1 dX4_isPair_4 1 rfl ?_
    refine T_bipush C.1 dX4_isPair_5 rfl ?_
    refine T_icmp_ge (tgt := 36) C.1 dX4_isPair_7 (by decide) ?_ ?_
    · refine T_iconst C.1 dX4_isPair_36 ?_
      exact T_zret C.1 C.2.1 C.2.2 dX4_isPair_37
    · refine T_aload_n C.1 dX4_isPair_10 0 rfl ?_
      refine T_iload_n C.1 dX4_isPair_11 1 rfl ?_
      refine T_bipush C.1 dX4_isPair_12 rfl ?_
      refine T_idiv C.1 dX4_isPair_14 (fun v1 => ?_)
      refine T_callVI (rm := rm_X4_isOne) [.int v1] [] C.1 dX4_isPair_15 mw_X4_isOne wm_2_127 wm_2_128 wm_2_129 ⟨Nat.le_of_ble_eq_true rfl, Nat.le_of_ble_eq_true rfl⟩ ⟨rfl, rfl⟩ ⟨Nat.zero_le _, Nat.zero_le _⟩ rfl rfl (Nat.le_of_ble_eq_true rfl) sh2 le2 ⟨rfl, rfl⟩ (c_X4_isOne ll cx v1 m) (fun v2 m3 => ?_)
      refine T_if_eq (tgt := 36) C.1 dX4_isPair_18 (by decide) ?_ ?_
      · refine T_iconst C.1 dX4_isPair_36 ?_
        exact T_zret C.1 C.2.1 C.2.2 dX4_isPair_37
      · refine T_aload_n C.1 dX4_isPair_21 0 rfl ?_
        refine T_iload_n C.1 dX4_isPair_22 1 rfl ?_
        refine T_bipush C.1 dX4_isPair_23 rfl ?_
        refine T_irem C.1 dX4_isPair_25 (fun v4 => ?_)
        refine T_callVI (rm := rm_X4_isOne) [.int v4] [] C.1 dX4_isPair_26 mw_X4_isOne wm_2_127 wm_2_128 wm_2_129 ⟨Nat.le_of_ble_eq_true rfl, Nat.le_of_ble_eq_true rfl⟩ ⟨rfl, rfl⟩ ⟨Nat.zero_le _, Nat.zero_le _⟩ rfl rfl (Nat.le_of_ble_eq_true rfl) sh2 le2 ⟨rfl, rfl⟩ (c_X4_isOne ll cx v4 m3) (fun v5 m6 => ?_)
        refine T_if_eq (tgt := 36) C.1 dX4_isPair_29 (by decide) ?_ ?_
        · refine T_iconst C.1 dX4_isPair_36 ?_
          exact T_zret C.1 C.2.1 C.2.2 dX4_isPair_37
        · refine T_iconst C.1 dX4_isPair_32 ?_
          refine T_goto (tgt := 37) C.1 dX4_isPair_33 (by decide) ?_
          exact T_zret C.1 C.2.1 C.2.2 dX4_isPair_37
def rm_X4_knows : Room := { frames := 3, cells := 0, slots := 0, locals := 82 }
def F_X4_knows_73  (a1 : Int32) (m : Mm) : Option (Int32 × Mm) :=
  (if a1 = iI 0 then
    rz (iI 1) m
  else
    rz (iI 0) m)
set_option maxRecDepth 100000 in
set_option maxHeartbeats 4000000 in
theorem t_X4_knows_73 {pp : Program} {ll : Launch} {ee : Env} {ss : State} {mm : MethodId} {aa : Array Value} {bb : List Frame} {me : Method} {co : Code} {cx : CX}     (C : CM pp ss mm aa me co cX4_knows 3 RX4 cx ((some .boolean)))    (a1 : Int32) (m : Mm) : TI pp ll ee rm_X4_knows ss mm aa bb me co 3 cx 73 [(1, .int a1)] [] m (F_X4_knows_73  a1 m) := by
  unfold F_X4_knows_73
  refine T_iload_n C.1 dX4_knows_73 0 rfl ?_
  refine T_if_ne (tgt := 81) C.1 dX4_knows_74 (by decide) ?_ ?_
  · refine T_iconst C.1 dX4_knows_81 ?_
    exact T_zret C.1 C.2.1 C.2.2 dX4_knows_82
  · refine T_iconst C.1 dX4_knows_77 ?_
    refine T_goto (tgt := 82) C.1 dX4_knows_78 (by decide) ?_
    exact T_zret C.1 C.2.1 C.2.2 dX4_knows_82
def F_X4_knows  (x1 : Int32) (x2 : Int32) (m : Mm) : Option (Int32 × Mm) :=
  tsw x2 (0) [(bnd (F_X4_isPair x1 m) fun v1 m2 =>
  rz v1 m2),
   (bnd (F_X4_isPair x1 m) fun v3 m4 =>
  (if v3 = iI 0 then
    rz (iI 0) m4
  else
    dvI x1 (iI 10) fun v5 =>
    rmI x1 (iI 10) fun v6 =>
    (if v5 = v6 then
      rz (iI 0) m4
    else
      rz (iI 1) m4))),
   (bnd (F_X4_isOne x1 m) fun v7 m8 =>
  rz v7 m8),
   (F_X4_knows_73 x1 m),
   (F_X4_knows_73 x1 m)] (rz (iI 0) m)
set_option maxRecDepth 100000 in
set_option maxHeartbeats 4000000 in
theorem c_X4_knows (ll : Launch) (cx : CX) (x1 : Int32) (x2 : Int32) (m : Mm) : MT ll yX4_knows cX4_knows 3 ((some .boolean)) rm_X4_knows cx NN NN Lay cvI 0 0 [.ref (cx.2.2.1 + 2), .int x1, .int x2] m (F_X4_knows x1 x2 m) := by
  refine MT_of (by decide) (Nat.le_of_ble_eq_true rfl) ?_
  intro pp ee ss mm aa bb me co hK hr hk hn
  have C : CM pp ss mm aa me co cX4_knows 3 RX4 cx ((some .boolean)) := ⟨hK, hr, hk⟩
  show TI pp ll ee rm_X4_knows ss mm aa bb me co 3 cx 0 [(0, .ref (cx.2.2.1 + 2)), (1, .int x1), (2, .int x2)] [] m (F_X4_knows x1 x2 m)
  unfold F_X4_knows
  refine T_iload_n C.1 dX4_knows_0 2 rfl ?_
  refine T_tsw (lo := (0)) (os := [35, 41, 66, 72, 72]) C.1 dX4_knows_1 rfl (by decide) (tgd := 83) (by decide) ⟨⟨36, by decide, ?_⟩, ⟨42, by decide, ?_⟩, ⟨67, by decide, ?_⟩, ⟨73, by decide, ?_⟩, ⟨73, by decide, ?_⟩, trivial⟩ ?_
  · show TI pp ll ee rm_X4_knows ss mm aa bb me co 3 cx _ _ _ _ _
    refine T_aload_n C.1 dX4_knows_36 0 rfl ?_
    refine T_iload_n C.1 dX4_knows_37 1 rfl ?_
    refine T_callVI (rm := rm_X4_isPair) [.int x1] [] C.1 dX4_knows_38 mw_X4_isPair wm_2_123 wm_2_124 wm_2_125 ⟨Nat.le_of_ble_eq_true rfl, Nat.le_of_ble_eq_true rfl⟩ ⟨rfl, rfl⟩ ⟨Nat.zero_le _, Nat.zero_le _⟩ rfl rfl (Nat.le_of_ble_eq_true rfl) sh2 le2 ⟨rfl, rfl⟩ (c_X4_isPair ll cx x1 m) (fun v1 m2 => ?_)
    exact T_zret C.1 C.2.1 C.2.2 dX4_knows_41
  · show TI pp ll ee rm_X4_knows ss mm aa bb me co 3 cx _ _ _ _ _
    refine T_aload_n C.1 dX4_knows_42 0 rfl ?_
    refine T_iload_n C.1 dX4_knows_43 1 rfl ?_
    refine T_callVI (rm := rm_X4_isPair) [.int x1] [] C.1 dX4_knows_44 mw_X4_isPair wm_2_123 wm_2_124 wm_2_125 ⟨Nat.le_of_ble_eq_true rfl, Nat.le_of_ble_eq_true rfl⟩ ⟨rfl, rfl⟩ ⟨Nat.zero_le _, Nat.zero_le _⟩ rfl rfl (Nat.le_of_ble_eq_true rfl) sh2 le2 ⟨rfl, rfl⟩ (c_X4_isPair ll cx x1 m) (fun v3 m4 => ?_)
    refine T_if_eq (tgt := 65) C.1 dX4_knows_47 (by decide) ?_ ?_
    · refine T_iconst C.1 dX4_knows_65 ?_
      exact T_zret C.1 C.2.1 C.2.2 dX4_knows_66
    · refine T_iload_n C.1 dX4_knows_50 1 rfl ?_
      refine T_bipush C.1 dX4_knows_51 rfl ?_
      refine T_idiv C.1 dX4_knows_53 (fun v5 => ?_)
      refine T_iload_n C.1 dX4_knows_54 1 rfl ?_
      refine T_bipush C.1 dX4_knows_55 rfl ?_
      refine T_irem C.1 dX4_knows_57 (fun v6 => ?_)
      refine T_icmp_eq (tgt := 65) C.1 dX4_knows_58 (by decide) ?_ ?_
      · refine T_iconst C.1 dX4_knows_65 ?_
        exact T_zret C.1 C.2.1 C.2.2 dX4_knows_66
      · refine T_iconst C.1 dX4_knows_61 ?_
        refine T_goto (tgt := 66) C.1 dX4_knows_62 (by decide) ?_
        exact T_zret C.1 C.2.1 C.2.2 dX4_knows_66
  · show TI pp ll ee rm_X4_knows ss mm aa bb me co 3 cx _ _ _ _ _
    refine T_aload_n C.1 dX4_knows_67 0 rfl ?_
    refine T_iload_n C.1 dX4_knows_68 1 rfl ?_
    refine T_callVI (rm := rm_X4_isOne) [.int x1] [] C.1 dX4_knows_69 mw_X4_isOne wm_2_127 wm_2_128 wm_2_129 ⟨Nat.le_of_ble_eq_true rfl, Nat.le_of_ble_eq_true rfl⟩ ⟨rfl, rfl⟩ ⟨Nat.zero_le _, Nat.zero_le _⟩ rfl rfl (Nat.le_of_ble_eq_true rfl) sh2 le2 ⟨rfl, rfl⟩ (c_X4_isOne ll cx x1 m) (fun v7 m8 => ?_)
    exact T_zret C.1 C.2.1 C.2.2 dX4_knows_72
  · show TI pp ll ee rm_X4_knows ss mm aa bb me co 3 cx _ _ _ _ _
    exact T_sub [1] rfl (t_X4_knows_73 C x1 m)
  · show TI pp ll ee rm_X4_knows ss mm aa bb me co 3 cx _ _ _ _ _
    exact T_sub [1] rfl (t_X4_knows_73 C x1 m)
  · show TI pp ll ee rm_X4_knows ss mm aa bb me co 3 cx _ _ _ _ _
    refine T_iconst C.1 dX4_knows_83 ?_
    exact T_zret C.1 C.2.1 C.2.2 dX4_knows_84
def rm_X4_become : Room := { frames := 4, cells := 0, slots := 0, locals := 104 }
def F_X4_become  (x1 : Int32) (x2 : Int32) (x3 : Int32) (m : Mm) : Option (Unit × Mm) :=
  bnd (F_X4_knows x1 x2 m) fun v1 m2 =>
  (if v1 = iI 0 then
    some ((), m2)
  else
    tsw x2 (0) [(wrI 70 m2 3 x1 x3 fun m3 =>
    some ((), m3)),
     (wrI 70 m2 4 x1 x3 fun m4 =>
    some ((), m4)),
     (wrI 7 m2 5 x1 x3 fun m5 =>
    some ((), m5)),
     (nm (pI m2 2 4 x3) fun m6 =>
    some ((), m6))] (nm (pI m2 2 5 x3) fun m7 =>
    some ((), m7)))
set_option maxRecDepth 100000 in
set_option maxHeartbeats 4000000 in
theorem c_X4_become (ll : Launch) (cx : CX) (x1 : Int32) (x2 : Int32) (x3 : Int32) (m : Mm) : MT ll yX4_become cX4_become 4 (none) rm_X4_become cx NN NN Lay cvV 0 0 [.ref (cx.2.2.1 + 2), .int x1, .int x2, .int x3] m (F_X4_become x1 x2 x3 m) := by
  refine MT_of (by decide) (Nat.le_of_ble_eq_true rfl) ?_
  intro pp ee ss mm aa bb me co hK hr hk hn
  have C : CM pp ss mm aa me co cX4_become 4 RX4 cx (none) := ⟨hK, hr, hk⟩
  show TV pp ll ee rm_X4_become ss mm aa bb me co 4 cx 0 [(0, .ref (cx.2.2.1 + 2)), (1, .int x1), (2, .int x2), (3, .int x3)] [] m (F_X4_become x1 x2 x3 m)
  unfold F_X4_become
  refine T_aload_n C.1 dX4_become_0 0 rfl ?_
  refine T_iload_n C.1 dX4_become_1 1 rfl ?_
  refine T_iload_n C.1 dX4_become_2 2 rfl ?_
  refine T_callVI (rm := rm_X4_knows) [.int x1, .int x2] [] C.1 dX4_become_3 mw_X4_knows wm_2_138 wm_2_120 wm_2_121 ⟨Nat.le_of_ble_eq_true rfl, Nat.le_of_ble_eq_true rfl⟩ ⟨rfl, rfl⟩ ⟨Nat.zero_le _, Nat.zero_le _⟩ rfl rfl (Nat.le_of_ble_eq_true rfl) sh2 le2 ⟨rfl, rfl⟩ (c_X4_knows ll cx x1 x2 m) (fun v1 m2 => ?_)
  refine T_if_ne (tgt := 10) C.1 dX4_become_6 (by decide) ?_ ?_
  · refine T_iload_n C.1 dX4_become_10 2 rfl ?_
    refine T_tsw (lo := (0)) (os := [29, 39, 49, 59]) C.1 dX4_become_11 rfl (by decide) (tgd := 78) (by decide) ⟨⟨40, by decide, ?_⟩, ⟨50, by decide, ?_⟩, ⟨60, by decide, ?_⟩, ⟨70, by decide, ?_⟩, trivial⟩ ?_
    · show TV pp ll ee rm_X4_become ss mm aa bb me co 4 cx _ _ _ _ _
      refine T_aload_n C.1 dX4_become_40 0 rfl ?_
      refine T_getR (x := 3) C.1 fd_X4_15 (fun _ _ _ _ => rfl) sh2 le2 (fun _ h => h) rfl (by decide) dX4_become_41 ?_
      refine T_iload_n C.1 dX4_become_44 1 rfl ?_
      refine T_iload_n C.1 dX4_become_45 3 rfl ?_
      refine T_iast C.1 LyI_Lay sh3 le3 dX4_become_46 (fun m3 => ?_)
      refine T_goto (tgt := 83) C.1 dX4_become_47 (by decide) ?_
      exact T_vret C.1 C.2.1 C.2.2 dX4_become_83
    · show TV pp ll ee rm_X4_become ss mm aa bb me co 4 cx _ _ _ _ _
      refine T_aload_n C.1 dX4_become_50 0 rfl ?_
      refine T_getR (x := 4) C.1 fd_X4_19 (fun _ _ _ _ => rfl) sh2 le2 (fun _ h => h) rfl (by decide) dX4_become_51 ?_
      refine T_iload_n C.1 dX4_become_54 1 rfl ?_
      refine T_iload_n C.1 dX4_become_55 3 rfl ?_
      refine T_iast C.1 LyI_Lay sh4 le4 dX4_become_56 (fun m4 => ?_)
      refine T_goto (tgt := 83) C.1 dX4_become_57 (by decide) ?_
      exact T_vret C.1 C.2.1 C.2.2 dX4_become_83
    · show TV pp ll ee rm_X4_become ss mm aa bb me co 4 cx _ _ _ _ _
      refine T_aload_n C.1 dX4_become_60 0 rfl ?_
      refine T_getR (x := 5) C.1 fd_X4_22 (fun _ _ _ _ => rfl) sh2 le2 (fun _ h => h) rfl (by decide) dX4_become_61 ?_
      refine T_iload_n C.1 dX4_become_64 1 rfl ?_
      refine T_iload_n C.1 dX4_become_65 3 rfl ?_
      refine T_iast C.1 LyI_Lay sh5 le5 dX4_become_66 (fun m5 => ?_)
      refine T_goto (tgt := 83) C.1 dX4_become_67 (by decide) ?_
      exact T_vret C.1 C.2.1 C.2.2 dX4_become_83
    · show TV pp ll ee rm_X4_become ss mm aa bb me co 4 cx _ _ _ _ _
      refine T_aload_n C.1 dX4_become_70 0 rfl ?_
      refine T_iload_n C.1 dX4_become_71 3 rfl ?_
      refine T_putI C.1 LyI_Lay fd_X4_25 sh2 le2 dX4_become_72 (fun m6 => ?_)
      refine T_goto (tgt := 83) C.1 dX4_become_75 (by decide) ?_
      exact T_vret C.1 C.2.1 C.2.2 dX4_become_83
    · show TV pp ll ee rm_X4_become ss mm aa bb me co 4 cx _ _ _ _ _
      refine T_aload_n C.1 dX4_become_78 0 rfl ?_
      refine T_iload_n C.1 dX4_become_79 3 rfl ?_
      refine T_putI C.1 LyI_Lay fd_X4_28 sh2 le2 dX4_become_80 (fun m7 => ?_)
      exact T_vret C.1 C.2.1 C.2.2 dX4_become_83
  · exact T_vret C.1 C.2.1 C.2.2 dX4_become_9
def rm_X1_stepBack : Room := { frames := 5, cells := 0, slots := 0, locals := 127 }
def F_X1_stepBack   (m : Mm) : Option (Unit × Mm) :=
  (if (gI m 11 4) ≤ iI 0 then
    some ((), m)
  else
    (if (iI 40) < (gI m 11 4) then
      some ((), m)
    else
      nm (pI m 11 4 ((gI m 11 4) - (iI 1))) fun m1 =>
      rd 40 (gI m1 11 4) fun j2 =>
      rd 40 (gI m1 11 4) fun j3 =>
      rd 40 (gI m1 11 4) fun j4 =>
      bnd (F_X4_become (gI m1 12 j2) (gI m1 13 j3) (gI m1 14 j4) m1) fun _ m6 =>
      some ((), m6)))
set_option maxRecDepth 100000 in
set_option maxHeartbeats 4000000 in
theorem c_X1_stepBack (ll : Launch) (cx : CX)  (m : Mm) : MT ll yX1_stepBack cX1_stepBack 2 (none) rm_X1_stepBack cx NN NN Lay cvV 0 0 [.ref (cx.2.2.1 + 11), .ref (cx.2.2.1 + 2)] m (F_X1_stepBack  m) := by
  refine MT_of (by decide) (Nat.le_of_ble_eq_true rfl) ?_
  intro pp ee ss mm aa bb me co hK hr hk hn
  have C : CM pp ss mm aa me co cX1_stepBack 2 RX1 cx (none) := ⟨hK, hr, hk⟩
  show TV pp ll ee rm_X1_stepBack ss mm aa bb me co 2 cx 0 [(0, .ref (cx.2.2.1 + 11)), (1, .ref (cx.2.2.1 + 2))] [] m (F_X1_stepBack  m)
  unfold F_X1_stepBack
  refine T_aload_n C.1 dX1_stepBack_0 0 rfl ?_
  refine T_getI C.1 fd_X1_22 (fun _ _ _ _ => rfl) sh11 le11 dX1_stepBack_1 ?_
  refine T_if_le (tgt := 57) C.1 dX1_stepBack_4 (by decide) ?_ ?_
  · exact T_vret C.1 C.2.1 C.2.2 dX1_stepBack_57
  · refine T_aload_n C.1 dX1_stepBack_7 0 rfl ?_
    refine T_getI C.1 fd_X1_22 (fun _ _ _ _ => rfl) sh11 le11 dX1_stepBack_8 ?_
    refine T_bipush C.1 dX1_stepBack_11 rfl ?_
    refine T_icmp_gt (tgt := 57) C.1 dX1_stepBack_13 (by decide) ?_ ?_
    · exact T_vret C.1 C.2.1 C.2.2 dX1_stepBack_57
    · refine T_aload_n C.1 dX1_stepBack_16 0 rfl ?_
      refine T_dup C.1 dX1_stepBack_17 rfl ?_
      refine T_getI C.1 fd_X1_22 (fun _ _ _ _ => rfl) sh11 le11 dX1_stepBack_18 ?_
      refine T_iconst C.1 dX1_stepBack_21 ?_
      refine T_isub C.1 dX1_stepBack_22 ?_
      refine T_putI C.1 LyI_Lay fd_X1_22 sh11 le11 dX1_stepBack_23 (fun m1 => ?_)
      refine T_aload_n C.1 dX1_stepBack_26 1 rfl ?_
      refine T_aload_n C.1 dX1_stepBack_27 0 rfl ?_
      refine T_getR (x := 12) C.1 fd_X1_9 (fun _ _ _ _ => rfl) sh11 le11 (fun _ h => h) rfl (by decide) dX1_stepBack_28 ?_
      refine T_aload_n C.1 dX1_stepBack_31 0 rfl ?_
      refine T_getI C.1 fd_X1_22 (fun _ _ _ _ => rfl) sh11 le11 dX1_stepBack_32 ?_
      refine T_iald C.1 dX1_stepBack_35 sh12 le12 (fun j2 => ?_)
      refine T_aload_n C.1 dX1_stepBack_36 0 rfl ?_
      refine T_getR (x := 13) C.1 fd_X1_13 (fun _ _ _ _ => rfl) sh11 le11 (fun _ h => h) rfl (by decide) dX1_stepBack_37 ?_
      refine T_aload_n C.1 dX1_stepBack_40 0 rfl ?_
      refine T_getI C.1 fd_X1_22 (fun _ _ _ _ => rfl) sh11 le11 dX1_stepBack_41 ?_
      refine T_iald C.1 dX1_stepBack_44 sh13 le13 (fun j3 => ?_)
      refine T_aload_n C.1 dX1_stepBack_45 0 rfl ?_
      refine T_getR (x := 14) C.1 fd_X1_16 (fun _ _ _ _ => rfl) sh11 le11 (fun _ h => h) rfl (by decide) dX1_stepBack_46 ?_
      refine T_aload_n C.1 dX1_stepBack_49 0 rfl ?_
      refine T_getI C.1 fd_X1_22 (fun _ _ _ _ => rfl) sh11 le11 dX1_stepBack_50 ?_
      refine T_iald C.1 dX1_stepBack_53 sh14 le14 (fun j4 => ?_)
      refine T_callVV (rm := rm_X4_become) [.int (gI m1 12 j2), .int (gI m1 13 j3), .int (gI m1 14 j4)] [] C.1 dX1_stepBack_54 mw_X4_become wm_4_57 wm_2_151 wm_2_152 ⟨Nat.le_of_ble_eq_true rfl, Nat.le_of_ble_eq_true rfl⟩ ⟨rfl, rfl⟩ ⟨Nat.zero_le _, Nat.zero_le _⟩ rfl rfl (Nat.le_of_ble_eq_true rfl) sh2 le2 ⟨rfl, rfl⟩ (c_X4_become ll cx (gI m1 12 j2) (gI m1 13 j3) (gI m1 14 j4) m1) (fun u5 m6 => ?_)
      exact T_vret C.1 C.2.1 C.2.2 dX1_stepBack_57
def rm_X1_stepOn : Room := { frames := 5, cells := 0, slots := 0, locals := 127 }
def F_X1_stepOn   (m : Mm) : Option (Unit × Mm) :=
  (if (gI m 11 4) < iI 0 then
    some ((), m)
  else
    (if (gI m 11 5) ≤ (gI m 11 4) then
      some ((), m)
    else
      (if (iI 40) ≤ (gI m 11 4) then
        some ((), m)
      else
        rd 40 (gI m 11 4) fun j1 =>
        rd 40 (gI m 11 4) fun j2 =>
        rd 40 (gI m 11 4) fun j3 =>
        bnd (F_X4_become (gI m 12 j1) (gI m 13 j2) (gI m 15 j3) m) fun _ m5 =>
        nm (pI m5 11 4 ((gI m5 11 4) + (iI 1))) fun m6 =>
        some ((), m6))))
set_option maxRecDepth 100000 in
set_option maxHeartbeats 4000000 in
theorem c_X1_stepOn (ll : Launch) (cx : CX)  (m : Mm) : MT ll yX1_stepOn cX1_stepOn 2 (none) rm_X1_stepOn cx NN NN Lay cvV 0 0 [.ref (cx.2.2.1 + 11), .ref (cx.2.2.1 + 2)] m (F_X1_stepOn  m) := by
  refine MT_of (by decide) (Nat.le_of_ble_eq_true rfl) ?_
  intro pp ee ss mm aa bb me co hK hr hk hn
  have C : CM pp ss mm aa me co cX1_stepOn 2 RX1 cx (none) := ⟨hK, hr, hk⟩
  show TV pp ll ee rm_X1_stepOn ss mm aa bb me co 2 cx 0 [(0, .ref (cx.2.2.1 + 11)), (1, .ref (cx.2.2.1 + 2))] [] m (F_X1_stepOn  m)
  unfold F_X1_stepOn
  refine T_aload_n C.1 dX1_stepOn_0 0 rfl ?_
  refine T_getI C.1 fd_X1_22 (fun _ _ _ _ => rfl) sh11 le11 dX1_stepOn_1 ?_
  refine T_if_lt (tgt := 68) C.1 dX1_stepOn_4 (by decide) ?_ ?_
  · exact T_vret C.1 C.2.1 C.2.2 dX1_stepOn_68
  · refine T_aload_n C.1 dX1_stepOn_7 0 rfl ?_
    refine T_getI C.1 fd_X1_22 (fun _ _ _ _ => rfl) sh11 le11 dX1_stepOn_8 ?_
    refine T_aload_n C.1 dX1_stepOn_11 0 rfl ?_
    refine T_getI C.1 fd_X1_26 (fun _ _ _ _ => rfl) sh11 le11 dX1_stepOn_12 ?_
    refine T_icmp_ge (tgt := 68) C.1 dX1_stepOn_15 (by decide) ?_ ?_
    · exact T_vret C.1 C.2.1 C.2.2 dX1_stepOn_68
    · refine T_aload_n C.1 dX1_stepOn_18 0 rfl ?_
      refine T_getI C.1 fd_X1_22 (fun _ _ _ _ => rfl) sh11 le11 dX1_stepOn_19 ?_
      refine T_bipush C.1 dX1_stepOn_22 rfl ?_
      refine T_icmp_ge (tgt := 68) C.1 dX1_stepOn_24 (by decide) ?_ ?_
      · exact T_vret C.1 C.2.1 C.2.2 dX1_stepOn_68
      · refine T_aload_n C.1 dX1_stepOn_27 1 rfl ?_
        refine T_aload_n C.1 dX1_stepOn_28 0 rfl ?_
        refine T_getR (x := 12) C.1 fd_X1_9 (fun _ _ _ _ => rfl) sh11 le11 (fun _ h => h) rfl (by decide) dX1_stepOn_29 ?_
        refine T_aload_n C.1 dX1_stepOn_32 0 rfl ?_
        refine T_getI C.1 fd_X1_22 (fun _ _ _ _ => rfl) sh11 le11 dX1_stepOn_33 ?_
        refine T_iald C.1 dX1_stepOn_36 sh12 le12 (fun j1 => ?_)
        refine T_aload_n C.1 dX1_stepOn_37 0 rfl ?_
        refine T_getR (x := 13) C.1 fd_X1_13 (fun _ _ _ _ => rfl) sh11 le11 (fun _ h => h) rfl (by decide) dX1_stepOn_38 ?_
        refine T_aload_n C.1 dX1_stepOn_41 0 rfl ?_
        refine T_getI C.1 fd_X1_22 (fun _ _ _ _ => rfl) sh11 le11 dX1_stepOn_42 ?_
        refine T_iald C.1 dX1_stepOn_45 sh13 le13 (fun j2 => ?_)
        refine T_aload_n C.1 dX1_stepOn_46 0 rfl ?_
        refine T_getR (x := 15) C.1 fd_X1_19 (fun _ _ _ _ => rfl) sh11 le11 (fun _ h => h) rfl (by decide) dX1_stepOn_47 ?_
        refine T_aload_n C.1 dX1_stepOn_50 0 rfl ?_
        refine T_getI C.1 fd_X1_22 (fun _ _ _ _ => rfl) sh11 le11 dX1_stepOn_51 ?_
        refine T_iald C.1 dX1_stepOn_54 sh15 le15 (fun j3 => ?_)
        refine T_callVV (rm := rm_X4_become) [.int (gI m 12 j1), .int (gI m 13 j2), .int (gI m 15 j3)] [] C.1 dX1_stepOn_55 mw_X4_become wm_4_57 wm_2_151 wm_2_152 ⟨Nat.le_of_ble_eq_true rfl, Nat.le_of_ble_eq_true rfl⟩ ⟨rfl, rfl⟩ ⟨Nat.zero_le _, Nat.zero_le _⟩ rfl rfl (Nat.le_of_ble_eq_true rfl) sh2 le2 ⟨rfl, rfl⟩ (c_X4_become ll cx (gI m 12 j1) (gI m 13 j2) (gI m 15 j3) m) (fun u4 m5 => ?_)
        refine T_aload_n C.1 dX1_stepOn_58 0 rfl ?_
        refine T_dup C.1 dX1_stepOn_59 rfl ?_
        refine T_getI C.1 fd_X1_22 (fun _ _ _ _ => rfl) sh11 le11 dX1_stepOn_60 ?_
        refine T_iconst C.1 dX1_stepOn_63 ?_
        refine T_iadd C.1 dX1_stepOn_64 ?_
        refine T_putI C.1 LyI_Lay fd_X1_22 sh11 le11 dX1_stepOn_65 (fun m6 => ?_)
        exact T_vret C.1 C.2.1 C.2.2 dX1_stepOn_68
def rm_X2_hasBegun : Room := { frames := 1, cells := 0, slots := 0, locals := 40 }
def F_X2_hasBegun  (t : Nat) (m : Mm) : Option (Int32 × Mm) :=
  (if shp t = (9, 2) then
    (if (gI m t 4) ≤ iI 0 then
      rz (iI 0) m
    else
      rz (iI 1) m)
  else none)
set_option maxRecDepth 100000 in
set_option maxHeartbeats 4000000 in
theorem c_X2_hasBegun (ll : Launch) (cx : CX) (t : Nat) (m : Mm) : MT ll yX2_hasBegun cX2_hasBegun 1 ((some .boolean)) rm_X2_hasBegun cx NN NN Lay cvI 0 0 [.ref (cx.2.2.1 + t)] m (F_X2_hasBegun t m) := by
  refine MT_of (by decide) (Nat.le_of_ble_eq_true rfl) ?_
  intro pp ee ss mm aa bb me co hK hr hk hn
  have C : CM pp ss mm aa me co cX2_hasBegun 1 RX2 cx ((some .boolean)) := ⟨hK, hr, hk⟩
  show TI pp ll ee rm_X2_hasBegun ss mm aa bb me co 1 cx 0 [(0, .ref (cx.2.2.1 + t))] [] m (F_X2_hasBegun t m)
  unfold F_X2_hasBegun
  refine T_if (fun ht => ?_) (fun _ => T_none)
  refine T_aload_n C.1 dX2_hasBegun_0 0 rfl ?_
  refine T_getI C.1 fd_X2_24 (fun _ _ _ _ => rfl) ht (shp_le ht (by decide)) dX2_hasBegun_1 ?_
  refine T_if_le (tgt := 11) C.1 dX2_hasBegun_4 (by decide) ?_ ?_
  · refine T_iconst C.1 dX2_hasBegun_11 ?_
    exact T_zret C.1 C.2.1 C.2.2 dX2_hasBegun_12
  · refine T_iconst C.1 dX2_hasBegun_7 ?_
    refine T_goto (tgt := 12) C.1 dX2_hasBegun_8 (by decide) ?_
    exact T_zret C.1 C.2.1 C.2.2 dX2_hasBegun_12
def rm_X2_hasEnded : Room := { frames := 2, cells := 0, slots := 0, locals := 60 }
def F_X2_hasEnded  (t : Nat) (m : Mm) : Option (Int32 × Mm) :=
  (if shp t = (9, 2) then
    bnd (F_X2_hasBegun t m) fun v1 m2 =>
    (if v1 = iI 0 then
      rz (iI 0) m2
    else
      (if (gI m2 t 4) < (gI m2 2 0) then
        rz (iI 0) m2
      else
        rz (iI 1) m2))
  else none)
set_option maxRecDepth 100000 in
set_option maxHeartbeats 4000000 in
theorem c_X2_hasEnded (ll : Launch) (cx : CX) (t : Nat) (m : Mm) : MT ll yX2_hasEnded cX2_hasEnded 2 ((some .boolean)) rm_X2_hasEnded cx NN NN Lay cvI 0 0 [.ref (cx.2.2.1 + t), .ref (cx.2.2.1 + 2)] m (F_X2_hasEnded t m) := by
  refine MT_of (by decide) (Nat.le_of_ble_eq_true rfl) ?_
  intro pp ee ss mm aa bb me co hK hr hk hn
  have C : CM pp ss mm aa me co cX2_hasEnded 2 RX2 cx ((some .boolean)) := ⟨hK, hr, hk⟩
  show TI pp ll ee rm_X2_hasEnded ss mm aa bb me co 2 cx 0 [(0, .ref (cx.2.2.1 + t)), (1, .ref (cx.2.2.1 + 2))] [] m (F_X2_hasEnded t m)
  unfold F_X2_hasEnded
  refine T_if (fun ht => ?_) (fun _ => T_none)
  refine T_aload_n C.1 dX2_hasEnded_0 0 rfl ?_
  refine T_callVI (rm := rm_X2_hasBegun) [] [] C.1 dX2_hasEnded_1 mw_X2_hasBegun wm_3_109 wm_2_79 wm_2_80 ⟨Nat.le_of_ble_eq_true rfl, Nat.le_of_ble_eq_true rfl⟩ ⟨rfl, rfl⟩ ⟨Nat.zero_le _, Nat.zero_le _⟩ rfl rfl (Nat.le_of_ble_eq_true rfl) ht (shp_le ht (by decide)) ⟨rfl, rfl⟩ (c_X2_hasBegun ll cx t m) (fun v1 m2 => ?_)
  refine T_if_eq (tgt := 22) C.1 dX2_hasEnded_4 (by decide) ?_ ?_
  · refine T_iconst C.1 dX2_hasEnded_22 ?_
    exact T_zret C.1 C.2.1 C.2.2 dX2_hasEnded_23
  · refine T_aload_n C.1 dX2_hasEnded_7 0 rfl ?_
    refine T_getI C.1 fd_X2_24 (fun _ _ _ _ => rfl) ht (shp_le ht (by decide)) dX2_hasEnded_8 ?_
    refine T_aload_n C.1 dX2_hasEnded_11 1 rfl ?_
    refine T_getI C.1 fd_X2_57 (fun _ _ _ _ => rfl) sh2 le2 dX2_hasEnded_12 ?_
    refine T_icmp_lt (tgt := 22) C.1 dX2_hasEnded_15 (by decide) ?_ ?_
    · refine T_iconst C.1 dX2_hasEnded_22 ?_
      exact T_zret C.1 C.2.1 C.2.2 dX2_hasEnded_23
    · refine T_iconst C.1 dX2_hasEnded_18 ?_
      refine T_goto (tgt := 23) C.1 dX2_hasEnded_19 (by decide) ?_
      exact T_zret C.1 C.2.1 C.2.2 dX2_hasEnded_23
def rm_J7_fill_53178 : Room := { frames := 1, cells := 0, slots := 0, locals := 40 }
def F_J7_fill_53178_5 (r1 : Nat) : Nat → Int32 → Int32 → Int32 → Mm → Option (Unit × Mm)
  | 0, _, _, _, _ => none
  | f + 1, a1, a2, a3, m =>
    (if a3 ≤ a2 then
      some ((), m)
    else
      wrI (shp r1).2 m r1 a2 a1 fun m1 =>
      nm (a2 + (iI 1)) fun v2 =>
      F_J7_fill_53178_5 r1 f a1 v2 a3 m1)
set_option maxRecDepth 100000 in
set_option maxHeartbeats 4000000 in
theorem t_J7_fill_53178_5 {pp : Program} {ll : Launch} {ee : Env} {ss : State} {mm : MethodId} {aa : Array Value} {bb : List Frame} {me : Method} {co : Code} {cx : CX}    {r1 : Nat} (C : CM pp ss mm aa me co cJ7_fill_53178 4 RJ7 cx (none)) (hr1 : shp r1 = (1, (shp r1).2))   : ∀ (f : Nat) (a1 : Int32) (a2 : Int32) (a3 : Int32) (m : Mm), TV pp ll ee rm_J7_fill_53178 ss mm aa bb me co 4 cx 5 [(0, .ref (cx.2.2.1 + r1)), (1, .int a1), (2, .int a2), (3, .int a3)] [] m (F_J7_fill_53178_5 r1 f a1 a2 a3 m) := by
  intro f
  induction f with
  | zero => exact fun _ _ _ _ => T_none
  | succ f ih =>
    intro a1 a2 a3 m
    unfold F_J7_fill_53178_5
    refine T_iload_n C.1 dJ7_fill_53178_5 2 rfl ?_
    refine T_iload_n C.1 dJ7_fill_53178_6 3 rfl ?_
    refine T_icmp_ge (tgt := 20) C.1 dJ7_fill_53178_7 (by decide) ?_ ?_
    · exact T_vret C.1 C.2.1 C.2.2 dJ7_fill_53178_20
    · refine T_aload_n C.1 dJ7_fill_53178_10 0 rfl ?_
      refine T_iload_n C.1 dJ7_fill_53178_11 2 rfl ?_
      refine T_iload_n C.1 dJ7_fill_53178_12 1 rfl ?_
      refine T_iast C.1 LyI_Lay hr1 (shp_le hr1 (by decide)) dJ7_fill_53178_13 (fun m1 => ?_)
      refine T_iincN C.1 (fun v2 => [(2, .int v2), (0, .ref (cx.2.2.1 + r1)), (1, .int a1), (3, .int a3)]) dJ7_fill_53178_14 2 rfl (by decide) (fun _ => rfl) (fun v2 => ?_)
      refine T_goto (tgt := 5) C.1 dJ7_fill_53178_17 (by decide) ?_
      exact T_sub [1, 2, 0, 3] rfl (ih a1 v2 a3 m1)
def F_J7_fill_53178  (r1 : Nat) (x2 : Int32) (m : Mm) : Option (Unit × Mm) :=
  (if (shp r1).1 = 1 then
    nm (iI (shp r1).2) fun v1 =>
    F_J7_fill_53178_5 r1 FU x2 (iI 0) v1 m
  else none)
set_option maxRecDepth 100000 in
set_option maxHeartbeats 4000000 in
theorem c_J7_fill_53178 (ll : Launch) (cx : CX) (r1 : Nat) (x2 : Int32) (m : Mm) : MT ll yJ7_fill_53178 cJ7_fill_53178 4 (none) rm_J7_fill_53178 cx NN NN Lay cvV 0 0 [.ref (cx.2.2.1 + r1), .int x2] m (F_J7_fill_53178 r1 x2 m) := by
  refine MT_of (by decide) (Nat.le_of_ble_eq_true rfl) ?_
  intro pp ee ss mm aa bb me co hK hr hk hn
  have C : CM pp ss mm aa me co cJ7_fill_53178 4 RJ7 cx (none) := ⟨hK, hr, hk⟩
  show TV pp ll ee rm_J7_fill_53178 ss mm aa bb me co 4 cx 0 [(0, .ref (cx.2.2.1 + r1)), (1, .int x2)] [] m (F_J7_fill_53178 r1 x2 m)
  unfold F_J7_fill_53178
  refine T_if (fun hr1 => ?_) (fun _ => T_none)
  have hr1 := shp_any hr1
  refine T_iconst C.1 dJ7_fill_53178_0 ?_
  refine T_istore_n (lv' := [(2, .int (iI 0)), (0, .ref (cx.2.2.1 + r1)), (1, .int x2)]) C.1 dJ7_fill_53178_1 (by decide) rfl ?_
  refine T_aload_n C.1 dJ7_fill_53178_2 1 rfl ?_
  refine T_alen C.1 dJ7_fill_53178_3 hr1 (shp_le hr1 (by decide)) ?_
  refine T_istore_nN C.1 (fun v1 => [(3, .int v1), (2, .int (iI 0)), (0, .ref (cx.2.2.1 + r1)), (1, .int x2)]) dJ7_fill_53178_4 (by decide) (fun _ => rfl) (fun v1 => ?_)
  exact T_sub [2, 3, 1, 0] rfl (t_J7_fill_53178_5 C hr1 FU x2 (iI 0) v1 m)
def rm_X2_wrapAll : Room := { frames := 2, cells := 0, slots := 0, locals := 63 }
def F_X2_wrapAll  (t : Nat) (m : Mm) : Option (Unit × Mm) :=
  (if shp t = (9, 2) then
    bnd (F_J7_fill_53178 (t + 2) (iI (-1)) m) fun _ m2 =>
    bnd (F_J7_fill_53178 (t + 3) (iI (-1)) m2) fun _ m4 =>
    bnd (F_J7_fill_53178 (t + 4) (iI 0) m4) fun _ m6 =>
    nm (pI m6 t 4 (iI 0)) fun m7 =>
    nm (pI m7 t 5 (iI (-1))) fun m8 =>
    nm (pI m8 t 6 (iI (-1))) fun m9 =>
    zb (iI 0) (nm (pI m9 t 7 (iI 0)) fun m10 =>
    some ((), m10))
  else none)
set_option maxRecDepth 100000 in
set_option maxHeartbeats 4000000 in
theorem c_X2_wrapAll (ll : Launch) (cx : CX) (t : Nat) (m : Mm) : MT ll yX2_wrapAll cX2_wrapAll 1 (none) rm_X2_wrapAll cx NN NN Lay cvV 0 0 [.ref (cx.2.2.1 + t)] m (F_X2_wrapAll t m) := by
  refine MT_of (by decide) (Nat.le_of_ble_eq_true rfl) ?_
  intro pp ee ss mm aa bb me co hK hr hk hn
  have C : CM pp ss mm aa me co cX2_wrapAll 1 RX2 cx (none) := ⟨hK, hr, hk⟩
  show TV pp ll ee rm_X2_wrapAll ss mm aa bb me co 1 cx 0 [(0, .ref (cx.2.2.1 + t))] [] m (F_X2_wrapAll t m)
  unfold F_X2_wrapAll
  refine T_if (fun ht => ?_) (fun _ => T_none)
  refine T_aload_n C.1 dX2_wrapAll_0 0 rfl ?_
  refine T_getR (x := (t + 2)) C.1 fd_X2_15 (fun _ _ _ _ => rfl) ht (shp_le ht (by decide)) (fun _ h => h) rfl (Nat.succ_ne_zero _) dX2_wrapAll_1 ?_
  refine T_iconst C.1 dX2_wrapAll_4 ?_
  refine T_callSV (rm := rm_J7_fill_53178) [.ref (cx.2.2.1 + (t + 2)), .int (iI (-1))] [] C.1 dX2_wrapAll_5 mw_J7_fill_53178 wm_1_151 wm_1_57 ⟨Nat.le_of_ble_eq_true rfl, Nat.le_of_ble_eq_true rfl⟩ ⟨rfl, rfl⟩ ⟨Nat.zero_le _, Nat.zero_le _⟩ rfl rfl (Nat.le_of_ble_eq_true rfl) (c_J7_fill_53178 ll cx (t + 2) (iI (-1)) m) (fun u1 m2 => ?_)
  refine T_aload_n C.1 dX2_wrapAll_8 0 rfl ?_
  refine T_getR (x := (t + 3)) C.1 fd_X2_18 (fun _ _ _ _ => rfl) ht (shp_le ht (by decide)) (fun _ h => h) rfl (Nat.succ_ne_zero _) dX2_wrapAll_9 ?_
  refine T_iconst C.1 dX2_wrapAll_12 ?_
  refine T_callSV (rm := rm_J7_fill_53178) [.ref (cx.2.2.1 + (t + 3)), .int (iI (-1))] [] C.1 dX2_wrapAll_13 mw_J7_fill_53178 wm_1_151 wm_1_57 ⟨Nat.le_of_ble_eq_true rfl, Nat.le_of_ble_eq_true rfl⟩ ⟨rfl, rfl⟩ ⟨Nat.zero_le _, Nat.zero_le _⟩ rfl rfl (Nat.le_of_ble_eq_true rfl) (c_J7_fill_53178 ll cx (t + 3) (iI (-1)) m2) (fun u3 m4 => ?_)
  refine T_aload_n C.1 dX2_wrapAll_16 0 rfl ?_
  refine T_getR (x := (t + 4)) C.1 fd_X2_21 (fun _ _ _ _ => rfl) ht (shp_le ht (by decide)) (fun _ h => h) rfl (Nat.succ_ne_zero _) dX2_wrapAll_17 ?_
  refine T_iconst C.1 dX2_wrapAll_20 ?_
  refine T_callSV (rm := rm_J7_fill_53178) [.ref (cx.2.2.1 + (t + 4)), .int (iI 0)] [] C.1 dX2_wrapAll_21 mw_J7_fill_53178 wm_1_151 wm_1_57 ⟨Nat.le_of_ble_eq_true rfl, Nat.le_of_ble_eq_true rfl⟩ ⟨rfl, rfl⟩ ⟨Nat.zero_le _, Nat.zero_le _⟩ rfl rfl (Nat.le_of_ble_eq_true rfl) (c_J7_fill_53178 ll cx (t + 4) (iI 0) m4) (fun u5 m6 => ?_)
  refine T_aload_n C.1 dX2_wrapAll_24 0 rfl ?_
  refine T_iconst C.1 dX2_wrapAll_25 ?_
  refine T_putI C.1 LyI_Lay fd_X2_24 ht (shp_le ht (by decide)) dX2_wrapAll_26 (fun m7 => ?_)
  refine T_aload_n C.1 dX2_wrapAll_29 0 rfl ?_
  refine T_iconst C.1 dX2_wrapAll_30 ?_
  refine T_putI C.1 LyI_Lay fd_X2_28 ht (shp_le ht (by decide)) dX2_wrapAll_31 (fun m8 => ?_)
  refine T_aload_n C.1 dX2_wrapAll_34 0 rfl ?_
  refine T_iconst C.1 dX2_wrapAll_35 ?_
  refine T_putI C.1 LyI_Lay fd_X2_31 ht (shp_le ht (by decide)) dX2_wrapAll_36 (fun m9 => ?_)
  refine T_aload_n C.1 dX2_wrapAll_39 0 rfl ?_
  refine T_iconst C.1 dX2_wrapAll_40 ?_
  refine T_putZ C.1 LyI_Lay fd_X2_34 ht (shp_le ht (by decide)) dX2_wrapAll_41 (fun m10 => ?_)
  exact T_vret C.1 C.2.1 C.2.2 dX2_wrapAll_44
def rm_X2_become : Room := { frames := 1, cells := 0, slots := 0, locals := 40 }
def F_X2_become  (t : Nat) (r1 : Nat) (m : Mm) : Option (Unit × Mm) :=
  (if shp t = (9, 2) then
    (if shp r1 = (9, 2) then
      cpI 7 7 m (r1 + 1) (iI 0) (t + 1) (iI 0) (iI 7) fun m1 =>
      cpI 7 7 m1 (r1 + 2) (iI 0) (t + 2) (iI 0) (iI 7) fun m2 =>
      cpI 7 7 m2 (r1 + 3) (iI 0) (t + 3) (iI 0) (iI 7) fun m3 =>
      cpI 7 7 m3 (r1 + 4) (iI 0) (t + 4) (iI 0) (iI 7) fun m4 =>
      nm (pI m4 t 4 (gI m4 r1 4)) fun m5 =>
      nm (pI m5 t 5 (gI m5 r1 5)) fun m6 =>
      nm (pI m6 t 6 (gI m6 r1 6)) fun m7 =>
      zb (gI m7 r1 7) (nm (pI m7 t 7 (gI m7 r1 7)) fun m8 =>
      nm (pI m8 t 8 (gI m8 r1 8)) fun m9 =>
      nm (pI m9 t 9 (gI m9 r1 9)) fun m10 =>
      nm (pI m10 t 10 (gI m10 r1 10)) fun m11 =>
      some ((), m11))
    else none)
  else none)
set_option maxRecDepth 100000 in
set_option maxHeartbeats 4000000 in
theorem c_X2_become (ll : Launch) (cx : CX) (t : Nat) (r1 : Nat) (m : Mm) : MT ll yX2_become cX2_become 2 (none) rm_X2_become cx NN NN Lay cvV 0 0 [.ref (cx.2.2.1 + t), .ref (cx.2.2.1 + r1)] m (F_X2_become t r1 m) := by
  refine MT_of (by decide) (Nat.le_of_ble_eq_true rfl) ?_
  intro pp ee ss mm aa bb me co hK hr hk hn
  have C : CM pp ss mm aa me co cX2_become 2 RX2 cx (none) := ⟨hK, hr, hk⟩
  show TV pp ll ee rm_X2_become ss mm aa bb me co 2 cx 0 [(0, .ref (cx.2.2.1 + t)), (1, .ref (cx.2.2.1 + r1))] [] m (F_X2_become t r1 m)
  unfold F_X2_become
  refine T_if (fun ht => ?_) (fun _ => T_none)
  refine T_if (fun hr1 => ?_) (fun _ => T_none)
  refine T_aload_n C.1 dX2_become_0 1 rfl ?_
  refine T_getR (x := (r1 + 1)) C.1 fd_X2_9 (fun _ _ _ _ => rfl) hr1 (shp_le hr1 (by decide)) (fun _ h => h) rfl (Nat.succ_ne_zero _) dX2_become_1 ?_
  refine T_iconst C.1 dX2_become_4 ?_
  refine T_aload_n C.1 dX2_become_5 0 rfl ?_
  refine T_getR (x := (t + 1)) C.1 fd_X2_9 (fun _ _ _ _ => rfl) ht (shp_le ht (by decide)) (fun _ h => h) rfl (Nat.succ_ne_zero _) dX2_become_6 ?_
  refine T_iconst C.1 dX2_become_9 ?_
  refine T_bipush C.1 dX2_become_10 rfl ?_
  refine T_cpI C.1 (fun _ _ _ h => h) dX2_become_12 wm_3_142 wx_ac_1 wx_ac_2 wx_sys (shr_2_1 hr1) (shp_le (shr_2_1 hr1) (by decide)) (shr_2_1 ht) (shp_le (shr_2_1 ht) (by decide)) (Nat.le_of_ble_eq_true rfl) (Nat.le_of_ble_eq_true rfl) (fun m1 => ?_)
  refine T_aload_n C.1 dX2_become_15 1 rfl ?_
  refine T_getR (x := (r1 + 2)) C.1 fd_X2_15 (fun _ _ _ _ => rfl) hr1 (shp_le hr1 (by decide)) (fun _ h => h) rfl (Nat.succ_ne_zero _) dX2_become_16 ?_
  refine T_iconst C.1 dX2_become_19 ?_
  refine T_aload_n C.1 dX2_become_20 0 rfl ?_
  refine T_getR (x := (t + 2)) C.1 fd_X2_15 (fun _ _ _ _ => rfl) ht (shp_le ht (by decide)) (fun _ h => h) rfl (Nat.succ_ne_zero _) dX2_become_21 ?_
  refine T_iconst C.1 dX2_become_24 ?_
  refine T_bipush C.1 dX2_become_25 rfl ?_
  refine T_cpI C.1 (fun _ _ _ h => h) dX2_become_27 wm_3_142 wx_ac_1 wx_ac_2 wx_sys (shr_2_2 hr1) (shp_le (shr_2_2 hr1) (by decide)) (shr_2_2 ht) (shp_le (shr_2_2 ht) (by decide)) (Nat.le_of_ble_eq_true rfl) (Nat.le_of_ble_eq_true rfl) (fun m2 => ?_)
  refine T_aload_n C.1 dX2_become_30 1 rfl ?_
  refine T_getR (x := (r1 + 3)) C.1 fd_X2_18 (fun _ _ _ _ => rfl) hr1 (shp_le hr1 (by decide)) (fun _ h => h) rfl (Nat.succ_ne_zero _) dX2_become_31 ?_
  refine T_iconst C.1 dX2_become_34 ?_
  refine T_aload_n C.1 dX2_become_35 0 rfl ?_
  refine T_getR (x := (t + 3)) C.1 fd_X2_18 (fun _ _ _ _ => rfl) ht (shp_le ht (by decide)) (fun _ h => h) rfl (Nat.succ_ne_zero _) dX2_become_36 ?_
  refine T_iconst C.1 dX2_become_39 ?_
  refine T_bipush C.1 dX2_become_40 rfl ?_
  refine T_cpI C.1 (fun _ _ _ h => h) dX2_become_42 wm_3_142 wx_ac_1 wx_ac_2 wx_sys (shr_2_3 hr1) (shp_le (shr_2_3 hr1) (by decide)) (shr_2_3 ht) (shp_le (shr_2_3 ht) (by decide)) (Nat.le_of_ble_eq_true rfl) (Nat.le_of_ble_eq_true rfl) (fun m3 => ?_)
  refine T_aload_n C.1 dX2_become_45 1 rfl ?_
  refine T_getR (x := (r1 + 4)) C.1 fd_X2_21 (fun _ _ _ _ => rfl) hr1 (shp_le hr1 (by decide)) (fun _ h => h) rfl (Nat.succ_ne_zero _) dX2_become_46 ?_
  refine T_iconst C.1 dX2_become_49 ?_
  refine T_aload_n C.1 dX2_become_50 0 rfl ?_
  refine T_getR (x := (t + 4)) C.1 fd_X2_21 (fun _ _ _ _ => rfl) ht (shp_le ht (by decide)) (fun _ h => h) rfl (Nat.succ_ne_zero _) dX2_become_51 ?_
  refine T_iconst C.1 dX2_become_54 ?_
  refine T_bipush C.1 dX2_become_55 rfl ?_
  refine T_cpI C.1 (fun _ _ _ h => h) dX2_become_57 wm_3_142 wx_ac_1 wx_ac_2 wx_sys (shr_2_4 hr1) (shp_le (shr_2_4 hr1) (by decide)) (shr_2_4 ht) (shp_le (shr_2_4 ht) (by decide)) (Nat.le_of_ble_eq_true rfl) (Nat.le_of_ble_eq_true rfl) (fun m4 => ?_)
  refine T_aload_n C.1 dX2_become_60 0 rfl ?_
  refine T_aload_n C.1 dX2_become_61 1 rfl ?_
  refine T_getI C.1 fd_X2_24 (fun _ _ _ _ => rfl) hr1 (shp_le hr1 (by decide)) dX2_become_62 ?_
  refine T_putI C.1 LyI_Lay fd_X2_24 ht (shp_le ht (by decide)) dX2_become_65 (fun m5 => ?_)
  refine T_aload_n C.1 dX2_become_68 0 rfl ?_
  refine T_aload_n C.1 dX2_become_69 1 rfl ?_
  refine T_getI C.1 fd_X2_28 (fun _ _ _ _ => rfl) hr1 (shp_le hr1 (by decide)) dX2_become_70 ?_
  refine T_putI C.1 LyI_Lay fd_X2_28 ht (shp_le ht (by decide)) dX2_become_73 (fun m6 => ?_)
  refine T_aload_n C.1 dX2_become_76 0 rfl ?_
  refine T_aload_n C.1 dX2_become_77 1 rfl ?_
  refine T_getI C.1 fd_X2_31 (fun _ _ _ _ => rfl) hr1 (shp_le hr1 (by decide)) dX2_become_78 ?_
  refine T_putI C.1 LyI_Lay fd_X2_31 ht (shp_le ht (by decide)) dX2_become_81 (fun m7 => ?_)
  refine T_aload_n C.1 dX2_become_84 0 rfl ?_
  refine T_aload_n C.1 dX2_become_85 1 rfl ?_
  refine T_getI C.1 fd_X2_34 (fun _ _ _ _ => rfl) hr1 (shp_le hr1 (by decide)) dX2_become_86 ?_
  refine T_putZ C.1 LyI_Lay fd_X2_34 ht (shp_le ht (by decide)) dX2_become_89 (fun m8 => ?_)
  refine T_aload_n C.1 dX2_become_92 0 rfl ?_
  refine T_aload_n C.1 dX2_become_93 1 rfl ?_
  refine T_getI C.1 fd_X2_38 (fun _ _ _ _ => rfl) hr1 (shp_le hr1 (by decide)) dX2_become_94 ?_
  refine T_putI C.1 LyI_Lay fd_X2_38 ht (shp_le ht (by decide)) dX2_become_97 (fun m9 => ?_)
  refine T_aload_n C.1 dX2_become_100 0 rfl ?_
  refine T_aload_n C.1 dX2_become_101 1 rfl ?_
  refine T_getI C.1 fd_X2_41 (fun _ _ _ _ => rfl) hr1 (shp_le hr1 (by decide)) dX2_become_102 ?_
  refine T_putI C.1 LyI_Lay fd_X2_41 ht (shp_le ht (by decide)) dX2_become_105 (fun m10 => ?_)
  refine T_aload_n C.1 dX2_become_108 0 rfl ?_
  refine T_aload_n C.1 dX2_become_109 1 rfl ?_
  refine T_getI C.1 fd_X2_44 (fun _ _ _ _ => rfl) hr1 (shp_le hr1 (by decide)) dX2_become_110 ?_
  refine T_putI C.1 LyI_Lay fd_X2_44 ht (shp_le ht (by decide)) dX2_become_113 (fun m11 => ?_)
  exact T_vret C.1 C.2.1 C.2.2 dX2_become_116
def rm_X2_beginBy : Room := { frames := 3, cells := 0, slots := 0, locals := 83 }
def F_X2_beginBy  (t : Nat) (r1 : Nat) (m : Mm) : Option (Unit × Mm) :=
  (if shp t = (9, 2) then
    (if shp r1 = (1, 7) then
      cpI 7 7 m r1 (iI 0) (t + 1) (iI 0) (iI 7) fun m1 =>
      bnd (F_X2_wrapAll t m1) fun _ m3 =>
      nm (pI m3 t 10 (iI 0)) fun m4 =>
      some ((), m4)
    else none)
  else none)
set_option maxRecDepth 100000 in
set_option maxHeartbeats 4000000 in
theorem c_X2_beginBy (ll : Launch) (cx : CX) (t : Nat) (r1 : Nat) (m : Mm) : MT ll yX2_beginBy cX2_beginBy 2 (none) rm_X2_beginBy cx NN NN Lay cvV 0 0 [.ref (cx.2.2.1 + t), .ref (cx.2.2.1 + r1)] m (F_X2_beginBy t r1 m) := by
  refine MT_of (by decide) (Nat.le_of_ble_eq_true rfl) ?_
  intro pp ee ss mm aa bb me co hK hr hk hn
  have C : CM pp ss mm aa me co cX2_beginBy 2 RX2 cx (none) := ⟨hK, hr, hk⟩
  show TV pp ll ee rm_X2_beginBy ss mm aa bb me co 2 cx 0 [(0, .ref (cx.2.2.1 + t)), (1, .ref (cx.2.2.1 + r1))] [] m (F_X2_beginBy t r1 m)
  unfold F_X2_beginBy
  refine T_if (fun ht => ?_) (fun _ => T_none)
  refine T_if (fun hr1 => ?_) (fun _ => T_none)
  refine T_aload_n C.1 dX2_beginBy_0 1 rfl ?_
  refine T_iconst C.1 dX2_beginBy_1 ?_
  refine T_aload_n C.1 dX2_beginBy_2 0 rfl ?_
  refine T_getR (x := (t + 1)) C.1 fd_X2_9 (fun _ _ _ _ => rfl) ht (shp_le ht (by decide)) (fun _ h => h) rfl (Nat.succ_ne_zero _) dX2_beginBy_3 ?_
  refine T_iconst C.1 dX2_beginBy_6 ?_
  refine T_bipush C.1 dX2_beginBy_7 rfl ?_
  refine T_cpI C.1 (fun _ _ _ h => h) dX2_beginBy_9 wm_3_142 wx_ac_1 wx_ac_2 wx_sys hr1 (shp_le hr1 (by decide)) (shr_2_1 ht) (shp_le (shr_2_1 ht) (by decide)) (Nat.le_of_ble_eq_true rfl) (Nat.le_of_ble_eq_true rfl) (fun m1 => ?_)
  refine T_aload_n C.1 dX2_beginBy_12 0 rfl ?_
  refine T_callVV (rm := rm_X2_wrapAll) [] [] C.1 dX2_beginBy_13 mw_X2_wrapAll wm_3_143 wm_3_123 wm_3_124 ⟨Nat.le_of_ble_eq_true rfl, Nat.le_of_ble_eq_true rfl⟩ ⟨rfl, rfl⟩ ⟨Nat.zero_le _, Nat.zero_le _⟩ rfl rfl (Nat.le_of_ble_eq_true rfl) ht (shp_le ht (by decide)) ⟨rfl, rfl⟩ (c_X2_wrapAll ll cx t m1) (fun u2 m3 => ?_)
  refine T_aload_n C.1 dX2_beginBy_16 0 rfl ?_
  refine T_iconst C.1 dX2_beginBy_17 ?_
  refine T_putI C.1 LyI_Lay fd_X2_44 ht (shp_le ht (by decide)) dX2_beginBy_18 (fun m4 => ?_)
  exact T_vret C.1 C.2.1 C.2.2 dX2_beginBy_21
def rm_X2_changePlaces : Room := { frames := 1, cells := 0, slots := 0, locals := 40 }
def F_X2_changePlaces  (t : Nat) (x1 : Int32) (x2 : Int32) (m : Mm) : Option (Unit × Mm) :=
  (if shp t = (9, 2) then
    rd 7 x1 fun j1 =>
    nm (gI m (t + 1) j1) fun v2 =>
    rd 7 x2 fun j3 =>
    wrI 7 m (t + 1) x1 (gI m (t + 1) j3) fun m4 =>
    wrI 7 m4 (t + 1) x2 v2 fun m5 =>
    some ((), m5)
  else none)
set_option maxRecDepth 100000 in
set_option maxHeartbeats 4000000 in
theorem c_X2_changePlaces (ll : Launch) (cx : CX) (t : Nat) (x1 : Int32) (x2 : Int32) (m : Mm) : MT ll yX2_changePlaces cX2_changePlaces 4 (none) rm_X2_changePlaces cx NN NN Lay cvV 0 0 [.ref (cx.2.2.1 + t), .int x1, .int x2] m (F_X2_changePlaces t x1 x2 m) := by
  refine MT_of (by decide) (Nat.le_of_ble_eq_true rfl) ?_
  intro pp ee ss mm aa bb me co hK hr hk hn
  have C : CM pp ss mm aa me co cX2_changePlaces 4 RX2 cx (none) := ⟨hK, hr, hk⟩
  show TV pp ll ee rm_X2_changePlaces ss mm aa bb me co 4 cx 0 [(0, .ref (cx.2.2.1 + t)), (1, .int x1), (2, .int x2)] [] m (F_X2_changePlaces t x1 x2 m)
  unfold F_X2_changePlaces
  refine T_if (fun ht => ?_) (fun _ => T_none)
  refine T_aload_n C.1 dX2_changePlaces_0 0 rfl ?_
  refine T_getR (x := (t + 1)) C.1 fd_X2_9 (fun _ _ _ _ => rfl) ht (shp_le ht (by decide)) (fun _ h => h) rfl (Nat.succ_ne_zero _) dX2_changePlaces_1 ?_
  refine T_iload_n C.1 dX2_changePlaces_4 1 rfl ?_
  refine T_iald C.1 dX2_changePlaces_5 (shr_2_1 ht) (shp_le (shr_2_1 ht) (by decide)) (fun j1 => ?_)
  refine T_istore_nN C.1 (fun v2 => [(3, .int v2), (0, .ref (cx.2.2.1 + t)), (1, .int x1), (2, .int x2)]) dX2_changePlaces_6 (by decide) (fun _ => rfl) (fun v2 => ?_)
  refine T_aload_n C.1 dX2_changePlaces_7 1 rfl ?_
  refine T_getR (x := (t + 1)) C.1 fd_X2_9 (fun _ _ _ _ => rfl) ht (shp_le ht (by decide)) (fun _ h => h) rfl (Nat.succ_ne_zero _) dX2_changePlaces_8 ?_
  refine T_iload_n C.1 dX2_changePlaces_11 2 rfl ?_
  refine T_aload_n C.1 dX2_changePlaces_12 1 rfl ?_
  refine T_getR (x := (t + 1)) C.1 fd_X2_9 (fun _ _ _ _ => rfl) ht (shp_le ht (by decide)) (fun _ h => h) rfl (Nat.succ_ne_zero _) dX2_changePlaces_13 ?_
  refine T_iload_n C.1 dX2_changePlaces_16 3 rfl ?_
  refine T_iald C.1 dX2_changePlaces_17 (shr_2_1 ht) (shp_le (shr_2_1 ht) (by decide)) (fun j3 => ?_)
  refine T_iast C.1 LyI_Lay (shr_2_1 ht) (shp_le (shr_2_1 ht) (by decide)) dX2_changePlaces_18 (fun m4 => ?_)
  refine T_aload_n C.1 dX2_changePlaces_19 1 rfl ?_
  refine T_getR (x := (t + 1)) C.1 fd_X2_9 (fun _ _ _ _ => rfl) ht (shp_le ht (by decide)) (fun _ h => h) rfl (Nat.succ_ne_zero _) dX2_changePlaces_20 ?_
  refine T_iload_n C.1 dX2_changePlaces_23 3 rfl ?_
  refine T_iload_n C.1 dX2_changePlaces_24 0 rfl ?_
  refine T_iast C.1 LyI_Lay (shr_2_1 ht) (shp_le (shr_2_1 ht) (by decide)) dX2_changePlaces_25 (fun m5 => ?_)
  exact T_vret C.1 C.2.1 C.2.2 dX2_changePlaces_26
def rm_X2_whoseTurn : Room := { frames := 1, cells := 0, slots := 0, locals := 40 }
def F_X2_whoseTurn  (t : Nat) (m : Mm) : Option (Int32 × Mm) :=
  (if shp t = (9, 2) then
    (if (gI m t 5) = (iI (-1)) then
      (if (gI m 2 0) ≤ (gI m t 4) then
        some ((iI (-2)), m)
      else
        (if (iI 7) ≤ (gI m t 4) then
          some ((iI (-2)), m)
        else
          rd 7 (gI m t 4) fun j1 =>
          some ((gI m (t + 1) j1), m)))
    else
      some ((gI m t 5), m))
  else none)
set_option maxRecDepth 100000 in
set_option maxHeartbeats 4000000 in
theorem c_X2_whoseTurn (ll : Launch) (cx : CX) (t : Nat) (m : Mm) : MT ll yX2_whoseTurn cX2_whoseTurn 2 ((some .int)) rm_X2_whoseTurn cx NN NN Lay cvI 0 0 [.ref (cx.2.2.1 + t), .ref (cx.2.2.1 + 2)] m (F_X2_whoseTurn t m) := by
  refine MT_of (by decide) (Nat.le_of_ble_eq_true rfl) ?_
  intro pp ee ss mm aa bb me co hK hr hk hn
  have C : CM pp ss mm aa me co cX2_whoseTurn 2 RX2 cx ((some .int)) := ⟨hK, hr, hk⟩
  show TI pp ll ee rm_X2_whoseTurn ss mm aa bb me co 2 cx 0 [(0, .ref (cx.2.2.1 + t)), (1, .ref (cx.2.2.1 + 2))] [] m (F_X2_whoseTurn t m)
  unfold F_X2_whoseTurn
  refine T_if (fun ht => ?_) (fun _ => T_none)
  refine T_aload_n C.1 dX2_whoseTurn_0 0 rfl ?_
  refine T_getI C.1 fd_X2_28 (fun _ _ _ _ => rfl) ht (shp_le ht (by decide)) dX2_whoseTurn_1 ?_
  refine T_iconst C.1 dX2_whoseTurn_4 ?_
  refine T_icmp_eq (tgt := 13) C.1 dX2_whoseTurn_5 (by decide) ?_ ?_
  · refine T_aload_n C.1 dX2_whoseTurn_13 0 rfl ?_
    refine T_getI C.1 fd_X2_24 (fun _ _ _ _ => rfl) ht (shp_le ht (by decide)) dX2_whoseTurn_14 ?_
    refine T_aload_n C.1 dX2_whoseTurn_17 1 rfl ?_
    refine T_getI C.1 fd_X2_57 (fun _ _ _ _ => rfl) sh2 le2 dX2_whoseTurn_18 ?_
    refine T_icmp_ge (tgt := 45) C.1 dX2_whoseTurn_21 (by decide) ?_ ?_
    · refine T_bipush C.1 dX2_whoseTurn_45 rfl ?_
      exact T_iret C.1 C.2.1 C.2.2 dX2_whoseTurn_47
    · refine T_aload_n C.1 dX2_whoseTurn_24 0 rfl ?_
      refine T_getI C.1 fd_X2_24 (fun _ _ _ _ => rfl) ht (shp_le ht (by decide)) dX2_whoseTurn_25 ?_
      refine T_bipush C.1 dX2_whoseTurn_28 rfl ?_
      refine T_icmp_ge (tgt := 45) C.1 dX2_whoseTurn_30 (by decide) ?_ ?_
      · refine T_bipush C.1 dX2_whoseTurn_45 rfl ?_
        exact T_iret C.1 C.2.1 C.2.2 dX2_whoseTurn_47
      · refine T_aload_n C.1 dX2_whoseTurn_33 0 rfl ?_
        refine T_getR (x := (t + 1)) C.1 fd_X2_9 (fun _ _ _ _ => rfl) ht (shp_le ht (by decide)) (fun _ h => h) rfl (Nat.succ_ne_zero _) dX2_whoseTurn_34 ?_
        refine T_aload_n C.1 dX2_whoseTurn_37 0 rfl ?_
        refine T_getI C.1 fd_X2_24 (fun _ _ _ _ => rfl) ht (shp_le ht (by decide)) dX2_whoseTurn_38 ?_
        refine T_iald C.1 dX2_whoseTurn_41 (shr_2_1 ht) (shp_le (shr_2_1 ht) (by decide)) (fun j1 => ?_)
        refine T_goto (tgt := 47) C.1 dX2_whoseTurn_42 (by decide) ?_
        exact T_iret C.1 C.2.1 C.2.2 dX2_whoseTurn_47
  · refine T_aload_n C.1 dX2_whoseTurn_8 0 rfl ?_
    refine T_getI C.1 fd_X2_28 (fun _ _ _ _ => rfl) ht (shp_le ht (by decide)) dX2_whoseTurn_9 ?_
    exact T_iret C.1 C.2.1 C.2.2 dX2_whoseTurn_12
def rm_X2_isSafe : Room := { frames := 1, cells := 0, slots := 0, locals := 40 }
def F_X2_isSafe  (t : Nat) (x1 : Int32) (m : Mm) : Option (Int32 × Mm) :=
  (if shp t = (9, 2) then
    rd 7 x1 fun j1 =>
    (if (gI m (t + 4) j1) < (gI m 2 4) then
      rz (iI 0) m
    else
      rz (iI 1) m)
  else none)
set_option maxRecDepth 100000 in
set_option maxHeartbeats 4000000 in
theorem c_X2_isSafe (ll : Launch) (cx : CX) (t : Nat) (x1 : Int32) (m : Mm) : MT ll yX2_isSafe cX2_isSafe 3 ((some .boolean)) rm_X2_isSafe cx NN NN Lay cvI 0 0 [.ref (cx.2.2.1 + t), .int x1, .ref (cx.2.2.1 + 2)] m (F_X2_isSafe t x1 m) := by
  refine MT_of (by decide) (Nat.le_of_ble_eq_true rfl) ?_
  intro pp ee ss mm aa bb me co hK hr hk hn
  have C : CM pp ss mm aa me co cX2_isSafe 3 RX2 cx ((some .boolean)) := ⟨hK, hr, hk⟩
  show TI pp ll ee rm_X2_isSafe ss mm aa bb me co 3 cx 0 [(0, .ref (cx.2.2.1 + t)), (1, .int x1), (2, .ref (cx.2.2.1 + 2))] [] m (F_X2_isSafe t x1 m)
  unfold F_X2_isSafe
  refine T_if (fun ht => ?_) (fun _ => T_none)
  refine T_aload_n C.1 dX2_isSafe_0 0 rfl ?_
  refine T_getR (x := (t + 4)) C.1 fd_X2_21 (fun _ _ _ _ => rfl) ht (shp_le ht (by decide)) (fun _ h => h) rfl (Nat.succ_ne_zero _) dX2_isSafe_1 ?_
  refine T_iload_n C.1 dX2_isSafe_4 1 rfl ?_
  refine T_iald C.1 dX2_isSafe_5 (shr_2_4 ht) (shp_le (shr_2_4 ht) (by decide)) (fun j1 => ?_)
  refine T_aload_n C.1 dX2_isSafe_6 2 rfl ?_
  refine T_getI C.1 fd_X2_71 (fun _ _ _ _ => rfl) sh2 le2 dX2_isSafe_7 ?_
  refine T_icmp_lt (tgt := 17) C.1 dX2_isSafe_10 (by decide) ?_ ?_
  · refine T_iconst C.1 dX2_isSafe_17 ?_
    exact T_zret C.1 C.2.1 C.2.2 dX2_isSafe_18
  · refine T_iconst C.1 dX2_isSafe_13 ?_
    refine T_goto (tgt := 18) C.1 dX2_isSafe_14 (by decide) ?_
    exact T_zret C.1 C.2.1 C.2.2 dX2_isSafe_18
def rm_X2_countSafe : Room := { frames := 2, cells := 0, slots := 0, locals := 62 }
def F_X2_countSafe_24 (k_4 : Int32 → Int32 → Mm → Option (Int32 × Mm)) (t : Nat) (a1 : Int32) (a2 : Int32) (m : Mm) : Option (Int32 × Mm) :=
  nm (a2 + (iI 1)) fun v1 =>
  k_4 a1 v1 m
set_option maxRecDepth 100000 in
set_option maxHeartbeats 4000000 in
theorem t_X2_countSafe_24 {pp : Program} {ll : Launch} {ee : Env} {ss : State} {mm : MethodId} {aa : Array Value} {bb : List Frame} {me : Method} {co : Code} {cx : CX}  {k_4 : Int32 → Int32 → Mm → Option (Int32 × Mm)}  {t : Nat} (C : CM pp ss mm aa me co cX2_countSafe 4 RX2 cx ((some .int))) (ht : shp t = (9, 2))  (hk_4 : ∀ (a1 : Int32) (a2 : Int32) (m : Mm), TI pp ll ee rm_X2_countSafe ss mm aa bb me co 4 cx 4 [(0, .ref (cx.2.2.1 + t)), (1, .ref (cx.2.2.1 + 2)), (2, .int a1), (3, .int a2)] [] m (k_4 a1 a2 m)) (a1 : Int32) (a2 : Int32) (m : Mm) : TI pp ll ee rm_X2_countSafe ss mm aa bb me co 4 cx 24 [(0, .ref (cx.2.2.1 + t)), (1, .ref (cx.2.2.1 + 2)), (2, .int a1), (3, .int a2)] [] m (F_X2_countSafe_24 k_4 t a1 a2 m) := by
  unfold F_X2_countSafe_24
  refine T_iincN C.1 (fun v1 => [(3, .int v1), (0, .ref (cx.2.2.1 + t)), (1, .ref (cx.2.2.1 + 2)), (2, .int a1)]) dX2_countSafe_24 3 rfl (by decide) (fun _ => rfl) (fun v1 => ?_)
  refine T_goto (tgt := 4) C.1 dX2_countSafe_27 (by decide) ?_
  exact T_sub [1, 2, 3, 0] rfl (hk_4 a1 v1 m)
def F_X2_countSafe_4 (t : Nat) : Nat → Int32 → Int32 → Mm → Option (Int32 × Mm)
  | 0, _, _, _ => none
  | f + 1, a1, a2, m =>
    (if (gI m 2 0) ≤ a2 then
      some (a1, m)
    else
      bnd (F_X2_isSafe t a2 m) fun v1 m2 =>
      (if v1 = iI 0 then
        F_X2_countSafe_24 (F_X2_countSafe_4 t f) t a1 a2 m2
      else
        nm (a1 + (iI 1)) fun v3 =>
        F_X2_countSafe_24 (F_X2_countSafe_4 t f) t v3 a2 m2))
set_option maxRecDepth 100000 in
set_option maxHeartbeats 4000000 in
theorem t_X2_countSafe_4 {pp : Program} {ll : Launch} {ee : Env} {ss : State} {mm : MethodId} {aa : Array Value} {bb : List Frame} {me : Method} {co : Code} {cx : CX}    {t : Nat} (C : CM pp ss mm aa me co cX2_countSafe 4 RX2 cx ((some .int))) (ht : shp t = (9, 2))   : ∀ (f : Nat) (a1 : Int32) (a2 : Int32) (m : Mm), TI pp ll ee rm_X2_countSafe ss mm aa bb me co 4 cx 4 [(0, .ref (cx.2.2.1 + t)), (1, .ref (cx.2.2.1 + 2)), (2, .int a1), (3, .int a2)] [] m (F_X2_countSafe_4 t f a1 a2 m) := by
  intro f
  induction f with
  | zero => exact fun _ _ _ => T_none
  | succ f ih =>
    intro a1 a2 m
    unfold F_X2_countSafe_4
    refine T_iload_n C.1 dX2_countSafe_4 3 rfl ?_
    refine T_aload_n C.1 dX2_countSafe_5 1 rfl ?_
    refine T_getI C.1 fd_X2_57 (fun _ _ _ _ => rfl) sh2 le2 dX2_countSafe_6 ?_
    refine T_icmp_ge (tgt := 30) C.1 dX2_countSafe_9 (by decide) ?_ ?_
    · refine T_iload_n C.1 dX2_countSafe_30 2 rfl ?_
      exact T_iret C.1 C.2.1 C.2.2 dX2_countSafe_31
    · refine T_aload_n C.1 dX2_countSafe_12 0 rfl ?_
      refine T_iload_n C.1 dX2_countSafe_13 3 rfl ?_
      refine T_aload_n C.1 dX2_countSafe_14 1 rfl ?_
      refine T_callVI (rm := rm_X2_isSafe) [.int a2, .ref (cx.2.2.1 + 2)] [] C.1 dX2_countSafe_15 mw_X2_isSafe wm_3_47 wm_3_48 wm_3_49 ⟨Nat.le_of_ble_eq_true rfl, Nat.le_of_ble_eq_true rfl⟩ ⟨rfl, rfl⟩ ⟨Nat.zero_le _, Nat.zero_le _⟩ rfl rfl (Nat.le_of_ble_eq_true rfl) ht (shp_le ht (by decide)) ⟨rfl, rfl⟩ (c_X2_isSafe ll cx t a2 m) (fun v1 m2 => ?_)
      refine T_if_eq (tgt := 24) C.1 dX2_countSafe_18 (by decide) ?_ ?_
      · exact T_sub [0, 1, 2, 3] rfl (t_X2_countSafe_24 C ht (ih) a1 a2 m2)
      · refine T_iincN C.1 (fun v3 => [(2, .int v3), (0, .ref (cx.2.2.1 + t)), (1, .ref (cx.2.2.1 + 2)), (3, .int a2)]) dX2_countSafe_21 2 rfl (by decide) (fun _ => rfl) (fun v3 => ?_)
        exact T_sub [1, 2, 0, 3] rfl (t_X2_countSafe_24 C ht (ih) v3 a2 m2)
def F_X2_countSafe  (t : Nat) (m : Mm) : Option (Int32 × Mm) :=
  (if shp t = (9, 2) then
    F_X2_countSafe_4 t FU (iI 0) (iI 0) m
  else none)
set_option maxRecDepth 100000 in
set_option maxHeartbeats 4000000 in
theorem c_X2_countSafe (ll : Launch) (cx : CX) (t : Nat) (m : Mm) : MT ll yX2_countSafe cX2_countSafe 4 ((some .int)) rm_X2_countSafe cx NN NN Lay cvI 0 0 [.ref (cx.2.2.1 + t), .ref (cx.2.2.1 + 2)] m (F_X2_countSafe t m) := by
  refine MT_of (by decide) (Nat.le_of_ble_eq_true rfl) ?_
  intro pp ee ss mm aa bb me co hK hr hk hn
  have C : CM pp ss mm aa me co cX2_countSafe 4 RX2 cx ((some .int)) := ⟨hK, hr, hk⟩
  show TI pp ll ee rm_X2_countSafe ss mm aa bb me co 4 cx 0 [(0, .ref (cx.2.2.1 + t)), (1, .ref (cx.2.2.1 + 2))] [] m (F_X2_countSafe t m)
  unfold F_X2_countSafe
  refine T_if (fun ht => ?_) (fun _ => T_none)
  refine T_iconst C.1 dX2_countSafe_0 ?_
  refine T_istore_n (lv' := [(2, .int (iI 0)), (0, .ref (cx.2.2.1 + t)), (1, .ref (cx.2.2.1 + 2))]) C.1 dX2_countSafe_1 (by decide) rfl ?_
  refine T_iconst C.1 dX2_countSafe_2 ?_
  refine T_istore_n (lv' := [(3, .int (iI 0)), (2, .int (iI 0)), (0, .ref (cx.2.2.1 + t)), (1, .ref (cx.2.2.1 + 2))]) C.1 dX2_countSafe_3 (by decide) rfl ?_
  exact T_sub [2, 3, 1, 0] rfl (t_X2_countSafe_4 C ht FU (iI 0) (iI 0) m)
def rm_X2_mayRob : Room := { frames := 2, cells := 0, slots := 0, locals := 62 }
def F_X2_mayRob  (t : Nat) (x1 : Int32) (m : Mm) : Option (Int32 × Mm) :=
  (if shp t = (9, 2) then
    (if x1 < iI 0 then
      rz (iI 0) m
    else
      (if (gI m t 4) ≤ x1 then
        rz (iI 0) m
      else
        (if x1 = (gI m t 6) then
          rz (iI 0) m
        else
          bnd (F_X2_isSafe t x1 m) fun v1 m2 =>
          (if v1 = iI 0 then
            rz (iI 1) m2
          else
            rz (iI 0) m2))))
  else none)
set_option maxRecDepth 100000 in
set_option maxHeartbeats 4000000 in
theorem c_X2_mayRob (ll : Launch) (cx : CX) (t : Nat) (x1 : Int32) (m : Mm) : MT ll yX2_mayRob cX2_mayRob 3 ((some .boolean)) rm_X2_mayRob cx NN NN Lay cvI 0 0 [.ref (cx.2.2.1 + t), .int x1, .ref (cx.2.2.1 + 2)] m (F_X2_mayRob t x1 m) := by
  refine MT_of (by decide) (Nat.le_of_ble_eq_true rfl) ?_
  intro pp ee ss mm aa bb me co hK hr hk hn
  have C : CM pp ss mm aa me co cX2_mayRob 3 RX2 cx ((some .boolean)) := ⟨hK, hr, hk⟩
  show TI pp ll ee rm_X2_mayRob ss mm aa bb me co 3 cx 0 [(0, .ref (cx.2.2.1 + t)), (1, .int x1), (2, .ref (cx.2.2.1 + 2))] [] m (F_X2_mayRob t x1 m)
  unfold F_X2_mayRob
  refine T_if (fun ht => ?_) (fun _ => T_none)
  refine T_iload_n C.1 dX2_mayRob_0 1 rfl ?_
  refine T_if_lt (tgt := 33) C.1 dX2_mayRob_1 (by decide) ?_ ?_
  · refine T_iconst C.1 dX2_mayRob_33 ?_
    exact T_zret C.1 C.2.1 C.2.2 dX2_mayRob_34
  · refine T_iload_n C.1 dX2_mayRob_4 1 rfl ?_
    refine T_aload_n C.1 dX2_mayRob_5 0 rfl ?_
    refine T_getI C.1 fd_X2_24 (fun _ _ _ _ => rfl) ht (shp_le ht (by decide)) dX2_mayRob_6 ?_
    refine T_icmp_ge (tgt := 33) C.1 dX2_mayRob_9 (by decide) ?_ ?_
    · refine T_iconst C.1 dX2_mayRob_33 ?_
      exact T_zret C.1 C.2.1 C.2.2 dX2_mayRob_34
    · refine T_iload_n C.1 dX2_mayRob_12 1 rfl ?_
      refine T_aload_n C.1 dX2_mayRob_13 0 rfl ?_
      refine T_getI C.1 fd_X2_31 (fun _ _ _ _ => rfl) ht (shp_le ht (by decide)) dX2_mayRob_14 ?_
      refine T_icmp_eq (tgt := 33) C.1 dX2_mayRob_17 (by decide) ?_ ?_
      · refine T_iconst C.1 dX2_mayRob_33 ?_
        exact T_zret C.1 C.2.1 C.2.2 dX2_mayRob_34
      · refine T_aload_n C.1 dX2_mayRob_20 0 rfl ?_
        refine T_iload_n C.1 dX2_mayRob_21 1 rfl ?_
        refine T_aload_n C.1 dX2_mayRob_22 2 rfl ?_
        refine T_callVI (rm := rm_X2_isSafe) [.int x1, .ref (cx.2.2.1 + 2)] [] C.1 dX2_mayRob_23 mw_X2_isSafe wm_3_47 wm_3_48 wm_3_49 ⟨Nat.le_of_ble_eq_true rfl, Nat.le_of_ble_eq_true rfl⟩ ⟨rfl, rfl⟩ ⟨Nat.zero_le _, Nat.zero_le _⟩ rfl rfl (Nat.le_of_ble_eq_true rfl) ht (shp_le ht (by decide)) ⟨rfl, rfl⟩ (c_X2_isSafe ll cx t x1 m) (fun v1 m2 => ?_)
        refine T_if_ne (tgt := 33) C.1 dX2_mayRob_26 (by decide) ?_ ?_
        · refine T_iconst C.1 dX2_mayRob_33 ?_
          exact T_zret C.1 C.2.1 C.2.2 dX2_mayRob_34
        · refine T_iconst C.1 dX2_mayRob_29 ?_
          refine T_goto (tgt := 34) C.1 dX2_mayRob_30 (by decide) ?_
          exact T_zret C.1 C.2.1 C.2.2 dX2_mayRob_34
def rm_X2_give : Room := { frames := 1, cells := 0, slots := 0, locals := 40 }
def F_X2_give  (t : Nat) (x1 : Int32) (x2 : Int32) (m : Mm) : Option (Unit × Mm) :=
  (if shp t = (9, 2) then
    wrI 7 m (t + 2) x1 x2 fun m1 =>
    wrI 7 m1 (t + 3) x2 x1 fun m2 =>
    nm (pI m2 t 8 x1) fun m3 =>
    nm (pI m3 t 9 x2) fun m4 =>
    nm (pI m4 t 10 ((gI m4 t 10) + (iI 1))) fun m5 =>
    some ((), m5)
  else none)
set_option maxRecDepth 100000 in
set_option maxHeartbeats 4000000 in
theorem c_X2_give (ll : Launch) (cx : CX) (t : Nat) (x1 : Int32) (x2 : Int32) (m : Mm) : MT ll yX2_give cX2_give 3 (none) rm_X2_give cx NN NN Lay cvV 0 0 [.ref (cx.2.2.1 + t), .int x1, .int x2] m (F_X2_give t x1 x2 m) := by
  refine MT_of (by decide) (Nat.le_of_ble_eq_true rfl) ?_
  intro pp ee ss mm aa bb me co hK hr hk hn
  have C : CM pp ss mm aa me co cX2_give 3 RX2 cx (none) := ⟨hK, hr, hk⟩
  show TV pp ll ee rm_X2_give ss mm aa bb me co 3 cx 0 [(0, .ref (cx.2.2.1 + t)), (1, .int x1), (2, .int x2)] [] m (F_X2_give t x1 x2 m)
  unfold F_X2_give
  refine T_if (fun ht => ?_) (fun _ => T_none)
  refine T_aload_n C.1 dX2_give_0 0 rfl ?_
  refine T_getR (x := (t + 2)) C.1 fd_X2_15 (fun _ _ _ _ => rfl) ht (shp_le ht (by decide)) (fun _ h => h) rfl (Nat.succ_ne_zero _) dX2_give_1 ?_
  refine T_iload_n C.1 dX2_give_4 1 rfl ?_
  refine T_iload_n C.1 dX2_give_5 2 rfl ?_
  refine T_iast C.1 LyI_Lay (shr_2_2 ht) (shp_le (shr_2_2 ht) (by decide)) dX2_give_6 (fun m1 => ?_)
  refine T_aload_n C.1 dX2_give_7 0 rfl ?_
  refine T_getR (x := (t + 3)) C.1 fd_X2_18 (fun _ _ _ _ => rfl) ht (shp_le ht (by decide)) (fun _ h => h) rfl (Nat.succ_ne_zero _) dX2_give_8 ?_
  refine T_iload_n C.1 dX2_give_11 2 rfl ?_
  refine T_iload_n C.1 dX2_give_12 1 rfl ?_
  refine T_iast C.1 LyI_Lay (shr_2_3 ht) (shp_le (shr_2_3 ht) (by decide)) dX2_give_13 (fun m2 => ?_)
  refine T_aload_n C.1 dX2_give_14 0 rfl ?_
  refine T_iload_n C.1 dX2_give_15 1 rfl ?_
  refine T_putI C.1 LyI_Lay fd_X2_38 ht (shp_le ht (by decide)) dX2_give_16 (fun m3 => ?_)
  refine T_aload_n C.1 dX2_give_19 0 rfl ?_
  refine T_iload_n C.1 dX2_give_20 2 rfl ?_
  refine T_putI C.1 LyI_Lay fd_X2_41 ht (shp_le ht (by decide)) dX2_give_21 (fun m4 => ?_)
  refine T_aload_n C.1 dX2_give_24 0 rfl ?_
  refine T_dup C.1 dX2_give_25 rfl ?_
  refine T_getI C.1 fd_X2_44 (fun _ _ _ _ => rfl) ht (shp_le ht (by decide)) dX2_give_26 ?_
  refine T_iconst C.1 dX2_give_29 ?_
  refine T_iadd C.1 dX2_give_30 ?_
  refine T_putI C.1 LyI_Lay fd_X2_44 ht (shp_le ht (by decide)) dX2_give_31 (fun m5 => ?_)
  exact T_vret C.1 C.2.1 C.2.2 dX2_give_34
def rm_X2_unwrap : Room := { frames := 2, cells := 0, slots := 0, locals := 62 }
def F_X2_unwrap  (t : Nat) (x1 : Int32) (m : Mm) : Option (Int32 × Mm) :=
  (if shp t = (9, 2) then
    (if (gI m t 4) < (iI 7) then
      nm (gI m t 4) fun v1 =>
      nm (pI m t 4 ((gI m t 4) + (iI 1))) fun m2 =>
      nm (pI m2 t 5 (iI (-1))) fun m3 =>
      nm (pI m3 t 6 (iI (-1))) fun m4 =>
      bnd (F_X2_give t x1 v1 m4) fun _ m6 =>
      some (v1, m6)
    else
      some ((iI (-5)), m))
  else none)
set_option maxRecDepth 100000 in
set_option maxHeartbeats 4000000 in
theorem c_X2_unwrap (ll : Launch) (cx : CX) (t : Nat) (x1 : Int32) (m : Mm) : MT ll yX2_unwrap cX2_unwrap 3 ((some .int)) rm_X2_unwrap cx NN NN Lay cvI 0 0 [.ref (cx.2.2.1 + t), .int x1] m (F_X2_unwrap t x1 m) := by
  refine MT_of (by decide) (Nat.le_of_ble_eq_true rfl) ?_
  intro pp ee ss mm aa bb me co hK hr hk hn
  have C : CM pp ss mm aa me co cX2_unwrap 3 RX2 cx ((some .int)) := ⟨hK, hr, hk⟩
  show TI pp ll ee rm_X2_unwrap ss mm aa bb me co 3 cx 0 [(0, .ref (cx.2.2.1 + t)), (1, .int x1)] [] m (F_X2_unwrap t x1 m)
  unfold F_X2_unwrap
  refine T_if (fun ht => ?_) (fun _ => T_none)
  refine T_aload_n C.1 dX2_unwrap_0 0 rfl ?_
  refine T_getI C.1 fd_X2_24 (fun _ _ _ _ => rfl) ht (shp_le ht (by decide)) dX2_unwrap_1 ?_
  refine T_bipush C.1 dX2_unwrap_4 rfl ?_
  refine T_icmp_lt (tgt := 12) C.1 dX2_unwrap_6 (by decide) ?_ ?_
  · refine T_aload_n C.1 dX2_unwrap_12 0 rfl ?_
    refine T_getI C.1 fd_X2_24 (fun _ _ _ _ => rfl) ht (shp_le ht (by decide)) dX2_unwrap_13 ?_
    refine T_istore_nN C.1 (fun v1 => [(2, .int v1), (0, .ref (cx.2.2.1 + t)), (1, .int x1)]) dX2_unwrap_16 (by decide) (fun _ => rfl) (fun v1 => ?_)
    refine T_aload_n C.1 dX2_unwrap_17 1 rfl ?_
    refine T_dup C.1 dX2_unwrap_18 rfl ?_
    refine T_getI C.1 fd_X2_24 (fun _ _ _ _ => rfl) ht (shp_le ht (by decide)) dX2_unwrap_19 ?_
    refine T_iconst C.1 dX2_unwrap_22 ?_
    refine T_iadd C.1 dX2_unwrap_23 ?_
    refine T_putI C.1 LyI_Lay fd_X2_24 ht (shp_le ht (by decide)) dX2_unwrap_24 (fun m2 => ?_)
    refine T_aload_n C.1 dX2_unwrap_27 1 rfl ?_
    refine T_iconst C.1 dX2_unwrap_28 ?_
    refine T_putI C.1 LyI_Lay fd_X2_28 ht (shp_le ht (by decide)) dX2_unwrap_29 (fun m3 => ?_)
    refine T_aload_n C.1 dX2_unwrap_32 1 rfl ?_
    refine T_iconst C.1 dX2_unwrap_33 ?_
    refine T_putI C.1 LyI_Lay fd_X2_31 ht (shp_le ht (by decide)) dX2_unwrap_34 (fun m4 => ?_)
    refine T_aload_n C.1 dX2_unwrap_37 1 rfl ?_
    refine T_iload_n C.1 dX2_unwrap_38 2 rfl ?_
    refine T_iload_n C.1 dX2_unwrap_39 0 rfl ?_
    refine T_callVV (rm := rm_X2_give) [.int x1, .int v1] [] C.1 dX2_unwrap_40 mw_X2_give wm_3_35 wm_3_37 wm_p_15 ⟨Nat.le_of_ble_eq_true rfl, Nat.le_of_ble_eq_true rfl⟩ ⟨rfl, rfl⟩ ⟨Nat.zero_le _, Nat.zero_le _⟩ rfl rfl (Nat.le_of_ble_eq_true rfl) ht (shp_le ht (by decide)) ⟨rfl, rfl⟩ (c_X2_give ll cx t x1 v1 m4) (fun u5 m6 => ?_)
    refine T_iload_n C.1 dX2_unwrap_43 0 rfl ?_
    exact T_iret C.1 C.2.1 C.2.2 dX2_unwrap_44
  · refine T_bipush C.1 dX2_unwrap_9 rfl ?_
    exact T_iret C.1 C.2.1 C.2.2 dX2_unwrap_11
