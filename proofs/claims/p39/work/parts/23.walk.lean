def rm_X4_knows : Room := { frames := 3, cells := 0, slots := 0, locals := 82 }
def F_X4_knows_73  (a1 : Int32) (m : Mm) : Option (Int32 × Mm) :=
  (if a1 = iI 0 then
    rz (iI 1) m
  else
    rz (iI 0) m)
set_option maxRecDepth 100000 in
set_option maxHeartbeats 4000000 in
theorem t_X4_knows_73 {wn : Nat} (hn : NN ≤ wn) {pp : Program} {ll : Launch} {ee : Env} {ss : State} {mm : MethodId} {aa : Array Value} {bb : List Frame} {me : Method} {co : Code} {cx : CX}     (C : CM pp ss mm aa me co cX4_knows 3 RX4 cx ((some .boolean)))    (a1 : Int32) (m : Mm) : TI pp ll ee rm_X4_knows ss mm aa bb me co 3 cx wn 73 [(1, .int a1)] [] m (F_X4_knows_73  a1 m) := by
  unfold F_X4_knows_73
  refine T_iload_n C.1 dX4_knows_73 0 rfl ?_
  refine T_if_ne (tgt := 81) C.1 dX4_knows_74 (by decide) ?_ ?_
  · refine T_iconst C.1 dX4_knows_81 ?_
    exact T_zret C.1 C.2.1 C.2.2 dX4_knows_82
  · refine T_iconst C.1 dX4_knows_77 ?_
    refine T_goto (tgt := 82) C.1 dX4_knows_78 (by decide) ?_
    exact T_zret C.1 C.2.1 C.2.2 dX4_knows_82
def F_X4_knows  (x1 : Int32) (x2 : Int32) (m : Mm) : Option (Int32 × Mm) :=
  tsw x2 (0) [(bnd (F_X4_isPair x1 m) fun v1 m2 =>
  rz v1 m2),
   (bnd (F_X4_isPair x1 m) fun v3 m4 =>
  (if v3 = iI 0 then
    rz (iI 0) m4
  else
    dvI x1 (iI 10) fun v5 =>
    rmI x1 (iI 10) fun v6 =>
    (if v5 = v6 then
      rz (iI 0) m4
    else
      rz (iI 1) m4))),
   (bnd (F_X4_isOne x1 m) fun v7 m8 =>
  rz v7 m8),
   (F_X4_knows_73 x1 m),
   (F_X4_knows_73 x1 m)] (rz (iI 0) m)
set_option maxRecDepth 100000 in
set_option maxHeartbeats 4000000 in
theorem c_X4_knows {wn : Nat} (hn : NN ≤ wn) (ll : Launch) (cx : CX) (x1 : Int32) (x2 : Int32) (m : Mm) : MT ll yX4_knows cX4_knows 3 ((some .boolean)) rm_X4_knows cx wn wn Lay cvI 0 0 [.ref (cx.2.2.1 + 2), .int x1, .int x2] m (F_X4_knows x1 x2 m) := by
  refine MT_of (by decide) (Nat.le_of_ble_eq_true rfl) ?_
  intro pp ee ss mm aa bb me co hK hr hk hn0
  have C : CM pp ss mm aa me co cX4_knows 3 RX4 cx ((some .boolean)) := ⟨hK, hr, hk⟩
  show TI pp ll ee rm_X4_knows ss mm aa bb me co 3 cx wn 0 [(0, .ref (cx.2.2.1 + 2)), (1, .int x1), (2, .int x2)] [] m (F_X4_knows x1 x2 m)
  unfold F_X4_knows
  refine T_iload_n C.1 dX4_knows_0 2 rfl ?_
  refine T_tsw (lo := (0)) (os := [35, 41, 66, 72, 72]) C.1 dX4_knows_1 rfl (by decide) (tgd := 83) (by decide) ⟨⟨36, by decide, ?_⟩, ⟨42, by decide, ?_⟩, ⟨67, by decide, ?_⟩, ⟨73, by decide, ?_⟩, ⟨73, by decide, ?_⟩, trivial⟩ ?_
  · show TI pp ll ee rm_X4_knows ss mm aa bb me co 3 cx wn _ _ _ _ _
    refine T_aload_n C.1 dX4_knows_36 0 rfl ?_
    refine T_iload_n C.1 dX4_knows_37 1 rfl ?_
    refine T_callVI (rm := rm_X4_isPair) [.int x1] [] C.1 dX4_knows_38 mw_X4_isPair wm_2_80 wm_2_81 wm_2_82 ⟨Nat.le_of_ble_eq_true rfl, Nat.le_of_ble_eq_true rfl⟩ ⟨rfl, rfl⟩ ⟨Nat.zero_le _, Nat.zero_le _⟩ rfl rfl (Nat.le_of_ble_eq_true rfl) sh2 (Nat.le_trans le2 hn) ⟨rfl, rfl⟩ (c_X4_isPair hn ll cx x1 m) (fun v1 m2 => ?_)
    exact T_zret C.1 C.2.1 C.2.2 dX4_knows_41
  · show TI pp ll ee rm_X4_knows ss mm aa bb me co 3 cx wn _ _ _ _ _
    refine T_aload_n C.1 dX4_knows_42 0 rfl ?_
    refine T_iload_n C.1 dX4_knows_43 1 rfl ?_
    refine T_callVI (rm := rm_X4_isPair) [.int x1] [] C.1 dX4_knows_44 mw_X4_isPair wm_2_80 wm_2_81 wm_2_82 ⟨Nat.le_of_ble_eq_true rfl, Nat.le_of_ble_eq_true rfl⟩ ⟨rfl, rfl⟩ ⟨Nat.zero_le _, Nat.zero_le _⟩ rfl rfl (Nat.le_of_ble_eq_true rfl) sh2 (Nat.le_trans le2 hn) ⟨rfl, rfl⟩ (c_X4_isPair hn ll cx x1 m) (fun v3 m4 => ?_)
    refine T_if_eq (tgt := 65) C.1 dX4_knows_47 (by decide) ?_ ?_
    · refine T_iconst C.1 dX4_knows_65 ?_
      exact T_zret C.1 C.2.1 C.2.2 dX4_knows_66
    · refine T_iload_n C.1 dX4_knows_50 1 rfl ?_
      refine T_bipush C.1 dX4_knows_51 rfl ?_
      refine T_idiv C.1 dX4_knows_53 (fun v5 => ?_)
      refine T_iload_n C.1 dX4_knows_54 1 rfl ?_
      refine T_bipush C.1 dX4_knows_55 rfl ?_
      refine T_irem C.1 dX4_knows_57 (fun v6 => ?_)
      refine T_icmp_eq (tgt := 65) C.1 dX4_knows_58 (by decide) ?_ ?_
      · refine T_iconst C.1 dX4_knows_65 ?_
        exact T_zret C.1 C.2.1 C.2.2 dX4_knows_66
      · refine T_iconst C.1 dX4_knows_61 ?_
        refine T_goto (tgt := 66) C.1 dX4_knows_62 (by decide) ?_
        exact T_zret C.1 C.2.1 C.2.2 dX4_knows_66
  · show TI pp ll ee rm_X4_knows ss mm aa bb me co 3 cx wn _ _ _ _ _
    refine T_aload_n C.1 dX4_knows_67 0 rfl ?_
    refine T_iload_n C.1 dX4_knows_68 1 rfl ?_
    refine T_callVI (rm := rm_X4_isOne) [.int x1] [] C.1 dX4_knows_69 mw_X4_isOne wm_2_84 wm_2_85 wm_2_86 ⟨Nat.le_of_ble_eq_true rfl, Nat.le_of_ble_eq_true rfl⟩ ⟨rfl, rfl⟩ ⟨Nat.zero_le _, Nat.zero_le _⟩ rfl rfl (Nat.le_of_ble_eq_true rfl) sh2 (Nat.le_trans le2 hn) ⟨rfl, rfl⟩ (c_X4_isOne hn ll cx x1 m) (fun v7 m8 => ?_)
    exact T_zret C.1 C.2.1 C.2.2 dX4_knows_72
  · show TI pp ll ee rm_X4_knows ss mm aa bb me co 3 cx wn _ _ _ _ _
    exact T_sub [1] rfl (t_X4_knows_73 hn C x1 m)
  · show TI pp ll ee rm_X4_knows ss mm aa bb me co 3 cx wn _ _ _ _ _
    exact T_sub [1] rfl (t_X4_knows_73 hn C x1 m)
  · show TI pp ll ee rm_X4_knows ss mm aa bb me co 3 cx wn _ _ _ _ _
    refine T_iconst C.1 dX4_knows_83 ?_
    exact T_zret C.1 C.2.1 C.2.2 dX4_knows_84
def rm_X4_allows : Room := { frames := 1, cells := 0, slots := 0, locals := 40 }
def F_X4_allows_108   (m : Mm) : Option (Int32 × Mm) :=
  rz (iI 1) m
set_option maxRecDepth 100000 in
set_option maxHeartbeats 4000000 in
theorem t_X4_allows_108 {wn : Nat} (hn : NN ≤ wn) {pp : Program} {ll : Launch} {ee : Env} {ss : State} {mm : MethodId} {aa : Array Value} {bb : List Frame} {me : Method} {co : Code} {cx : CX}     (C : CM pp ss mm aa me co cX4_allows 2 RX4 cx ((some .boolean)))     (m : Mm) : TI pp ll ee rm_X4_allows ss mm aa bb me co 2 cx wn 108 [] [] m (F_X4_allows_108  m) := by
  unfold F_X4_allows_108
  refine T_iconst C.1 dX4_allows_108 ?_
  refine T_goto (tgt := 113) C.1 dX4_allows_109 (by decide) ?_
  exact T_zret C.1 C.2.1 C.2.2 dX4_allows_113
def F_X4_allows  (x1 : Int32) (x2 : Int32) (m : Mm) : Option (Int32 × Mm) :=
  tsw x1 (0) [((if x2 < iI 0 then
    rz (iI 0) m
  else
    (if (iI 99) < x2 then
      rz (iI 0) m
    else
      rz (iI 1) m))),
   ((if x2 < iI 0 then
    rz (iI 0) m
  else
    (if (iI 9) < x2 then
      rz (iI 0) m
    else
      rz (iI 1) m))),
   ((if x2 < iI 0 then
    rz (iI 0) m
  else
    (if (iI 2) < x2 then
      rz (iI 0) m
    else
      rz (iI 1) m))),
   ((if x2 < (iI 1) then
    rz (iI 0) m
  else
    (if (iI 3) < x2 then
      rz (iI 0) m
    else
      rz (iI 1) m))),
   ((if x2 = iI 0 then
    F_X4_allows_108 m
  else
    (if x2 = (iI 1) then
      F_X4_allows_108 m
    else
      rz (iI 0) m)))] (rz (iI 0) m)
set_option maxRecDepth 100000 in
set_option maxHeartbeats 4000000 in
theorem c_X4_allows {wn : Nat} (hn : NN ≤ wn) (ll : Launch) (cx : CX) (x1 : Int32) (x2 : Int32) (m : Mm) : MT ll yX4_allows cX4_allows 2 ((some .boolean)) rm_X4_allows cx wn wn Lay cvI 0 0 [.int x1, .int x2] m (F_X4_allows x1 x2 m) := by
  refine MT_of (by decide) (Nat.le_of_ble_eq_true rfl) ?_
  intro pp ee ss mm aa bb me co hK hr hk hn0
  have C : CM pp ss mm aa me co cX4_allows 2 RX4 cx ((some .boolean)) := ⟨hK, hr, hk⟩
  show TI pp ll ee rm_X4_allows ss mm aa bb me co 2 cx wn 0 [(0, .int x1), (1, .int x2)] [] m (F_X4_allows x1 x2 m)
  unfold F_X4_allows
  refine T_iload_n C.1 dX4_allows_0 0 rfl ?_
  refine T_tsw (lo := (0)) (os := [35, 51, 67, 82, 98]) C.1 dX4_allows_1 rfl (by decide) (tgd := 114) (by decide) ⟨⟨36, by decide, ?_⟩, ⟨52, by decide, ?_⟩, ⟨68, by decide, ?_⟩, ⟨83, by decide, ?_⟩, ⟨99, by decide, ?_⟩, trivial⟩ ?_
  · show TI pp ll ee rm_X4_allows ss mm aa bb me co 2 cx wn _ _ _ _ _
    refine T_iload_n C.1 dX4_allows_36 1 rfl ?_
    refine T_if_lt (tgt := 50) C.1 dX4_allows_37 (by decide) ?_ ?_
    · refine T_iconst C.1 dX4_allows_50 ?_
      exact T_zret C.1 C.2.1 C.2.2 dX4_allows_51
    · refine T_iload_n C.1 dX4_allows_40 1 rfl ?_
      refine T_bipush C.1 dX4_allows_41 rfl ?_
      refine T_icmp_gt (tgt := 50) C.1 dX4_allows_43 (by decide) ?_ ?_
      · refine T_iconst C.1 dX4_allows_50 ?_
        exact T_zret C.1 C.2.1 C.2.2 dX4_allows_51
      · refine T_iconst C.1 dX4_allows_46 ?_
        refine T_goto (tgt := 51) C.1 dX4_allows_47 (by decide) ?_
        exact T_zret C.1 C.2.1 C.2.2 dX4_allows_51
  · show TI pp ll ee rm_X4_allows ss mm aa bb me co 2 cx wn _ _ _ _ _
    refine T_iload_n C.1 dX4_allows_52 1 rfl ?_
    refine T_if_lt (tgt := 66) C.1 dX4_allows_53 (by decide) ?_ ?_
    · refine T_iconst C.1 dX4_allows_66 ?_
      exact T_zret C.1 C.2.1 C.2.2 dX4_allows_67
    · refine T_iload_n C.1 dX4_allows_56 1 rfl ?_
      refine T_bipush C.1 dX4_allows_57 rfl ?_
      refine T_icmp_gt (tgt := 66) C.1 dX4_allows_59 (by decide) ?_ ?_
      · refine T_iconst C.1 dX4_allows_66 ?_
        exact T_zret C.1 C.2.1 C.2.2 dX4_allows_67
      · refine T_iconst C.1 dX4_allows_62 ?_
        refine T_goto (tgt := 67) C.1 dX4_allows_63 (by decide) ?_
        exact T_zret C.1 C.2.1 C.2.2 dX4_allows_67
  · show TI pp ll ee rm_X4_allows ss mm aa bb me co 2 cx wn _ _ _ _ _
    refine T_iload_n C.1 dX4_allows_68 1 rfl ?_
    refine T_if_lt (tgt := 81) C.1 dX4_allows_69 (by decide) ?_ ?_
    · refine T_iconst C.1 dX4_allows_81 ?_
      exact T_zret C.1 C.2.1 C.2.2 dX4_allows_82
    · refine T_iload_n C.1 dX4_allows_72 1 rfl ?_
      refine T_iconst C.1 dX4_allows_73 ?_
      refine T_icmp_gt (tgt := 81) C.1 dX4_allows_74 (by decide) ?_ ?_
      · refine T_iconst C.1 dX4_allows_81 ?_
        exact T_zret C.1 C.2.1 C.2.2 dX4_allows_82
      · refine T_iconst C.1 dX4_allows_77 ?_
        refine T_goto (tgt := 82) C.1 dX4_allows_78 (by decide) ?_
        exact T_zret C.1 C.2.1 C.2.2 dX4_allows_82
  · show TI pp ll ee rm_X4_allows ss mm aa bb me co 2 cx wn _ _ _ _ _
    refine T_iload_n C.1 dX4_allows_83 1 rfl ?_
    refine T_iconst C.1 dX4_allows_84 ?_
    refine T_icmp_lt (tgt := 97) C.1 dX4_allows_85 (by decide) ?_ ?_
    · refine T_iconst C.1 dX4_allows_97 ?_
      exact T_zret C.1 C.2.1 C.2.2 dX4_allows_98
    · refine T_iload_n C.1 dX4_allows_88 1 rfl ?_
      refine T_iconst C.1 dX4_allows_89 ?_
      refine T_icmp_gt (tgt := 97) C.1 dX4_allows_90 (by decide) ?_ ?_
      · refine T_iconst C.1 dX4_allows_97 ?_
        exact T_zret C.1 C.2.1 C.2.2 dX4_allows_98
      · refine T_iconst C.1 dX4_allows_93 ?_
        refine T_goto (tgt := 98) C.1 dX4_allows_94 (by decide) ?_
        exact T_zret C.1 C.2.1 C.2.2 dX4_allows_98
  · show TI pp ll ee rm_X4_allows ss mm aa bb me co 2 cx wn _ _ _ _ _
    refine T_iload_n C.1 dX4_allows_99 1 rfl ?_
    refine T_if_eq (tgt := 108) C.1 dX4_allows_100 (by decide) ?_ ?_
    · exact T_sub [] rfl (t_X4_allows_108 hn C m)
    · refine T_iload_n C.1 dX4_allows_103 1 rfl ?_
      refine T_iconst C.1 dX4_allows_104 ?_
      refine T_icmp_ne (tgt := 112) C.1 dX4_allows_105 (by decide) ?_ ?_
      · refine T_iconst C.1 dX4_allows_112 ?_
        exact T_zret C.1 C.2.1 C.2.2 dX4_allows_113
      · exact T_sub [] rfl (t_X4_allows_108 hn C m)
  · show TI pp ll ee rm_X4_allows ss mm aa bb me co 2 cx wn _ _ _ _ _
    refine T_iconst C.1 dX4_allows_114 ?_
    exact T_zret C.1 C.2.1 C.2.2 dX4_allows_115
def rm_X4_value : Room := { frames := 4, cells := 0, slots := 0, locals := 104 }
def F_X4_value  (x1 : Int32) (x2 : Int32) (m : Mm) : Option (Int32 × Mm) :=
  bnd (F_X4_knows x1 x2 m) fun v1 m2 =>
  (if v1 = iI 0 then
    some ((iI (-1)), m2)
  else
    tsw x2 (0) [(rd 70 x1 fun j3 =>
    some ((gI m2 3 j3), m2)),
     (rd 70 x1 fun j4 =>
    some ((gI m2 4 j4), m2)),
     (rd 7 x1 fun j5 =>
    some ((gI m2 5 j5), m2)),
     (some ((gI m2 2 4), m2))] (some ((gI m2 2 5), m2)))
set_option maxRecDepth 100000 in
set_option maxHeartbeats 4000000 in
theorem c_X4_value {wn : Nat} (hn : NN ≤ wn) (ll : Launch) (cx : CX) (x1 : Int32) (x2 : Int32) (m : Mm) : MT ll yX4_value cX4_value 3 ((some .int)) rm_X4_value cx wn wn Lay cvI 0 0 [.ref (cx.2.2.1 + 2), .int x1, .int x2] m (F_X4_value x1 x2 m) := by
  refine MT_of (by decide) (Nat.le_of_ble_eq_true rfl) ?_
  intro pp ee ss mm aa bb me co hK hr hk hn0
  have C : CM pp ss mm aa me co cX4_value 3 RX4 cx ((some .int)) := ⟨hK, hr, hk⟩
  show TI pp ll ee rm_X4_value ss mm aa bb me co 3 cx wn 0 [(0, .ref (cx.2.2.1 + 2)), (1, .int x1), (2, .int x2)] [] m (F_X4_value x1 x2 m)
  unfold F_X4_value
  refine T_aload_n C.1 dX4_value_0 0 rfl ?_
  refine T_iload_n C.1 dX4_value_1 1 rfl ?_
  refine T_iload_n C.1 dX4_value_2 2 rfl ?_
  refine T_callVI (rm := rm_X4_knows) [.int x1, .int x2] [] C.1 dX4_value_3 mw_X4_knows wm_2_92 wm_2_77 wm_2_78 ⟨Nat.le_of_ble_eq_true rfl, Nat.le_of_ble_eq_true rfl⟩ ⟨rfl, rfl⟩ ⟨Nat.zero_le _, Nat.zero_le _⟩ rfl rfl (Nat.le_of_ble_eq_true rfl) sh2 (Nat.le_trans le2 hn) ⟨rfl, rfl⟩ (c_X4_knows hn ll cx x1 x2 m) (fun v1 m2 => ?_)
  refine T_if_ne (tgt := 11) C.1 dX4_value_6 (by decide) ?_ ?_
  · refine T_iload_n C.1 dX4_value_11 2 rfl ?_
    refine T_tsw (lo := (0)) (os := [32, 39, 46, 53]) C.1 dX4_value_12 rfl (by decide) (tgd := 70) (by decide) ⟨⟨44, by decide, ?_⟩, ⟨51, by decide, ?_⟩, ⟨58, by decide, ?_⟩, ⟨65, by decide, ?_⟩, trivial⟩ ?_
    · show TI pp ll ee rm_X4_value ss mm aa bb me co 3 cx wn _ _ _ _ _
      refine T_aload_n C.1 dX4_value_44 0 rfl ?_
      refine T_getR (x := 3) C.1 fd_X4_15 (fun _ _ _ _ => rfl) sh2 (Nat.le_trans le2 hn) (fun _ h => h) rfl (by decide) dX4_value_45 ?_
      refine T_iload_n C.1 dX4_value_48 1 rfl ?_
      refine T_iald C.1 dX4_value_49 sh3 (Nat.le_trans le3 hn) (fun j3 => ?_)
      exact T_iret C.1 C.2.1 C.2.2 dX4_value_50
    · show TI pp ll ee rm_X4_value ss mm aa bb me co 3 cx wn _ _ _ _ _
      refine T_aload_n C.1 dX4_value_51 0 rfl ?_
      refine T_getR (x := 4) C.1 fd_X4_19 (fun _ _ _ _ => rfl) sh2 (Nat.le_trans le2 hn) (fun _ h => h) rfl (by decide) dX4_value_52 ?_
      refine T_iload_n C.1 dX4_value_55 1 rfl ?_
      refine T_iald C.1 dX4_value_56 sh4 (Nat.le_trans le4 hn) (fun j4 => ?_)
      exact T_iret C.1 C.2.1 C.2.2 dX4_value_57
    · show TI pp ll ee rm_X4_value ss mm aa bb me co 3 cx wn _ _ _ _ _
      refine T_aload_n C.1 dX4_value_58 0 rfl ?_
      refine T_getR (x := 5) C.1 fd_X4_22 (fun _ _ _ _ => rfl) sh2 (Nat.le_trans le2 hn) (fun _ h => h) rfl (by decide) dX4_value_59 ?_
      refine T_iload_n C.1 dX4_value_62 1 rfl ?_
      refine T_iald C.1 dX4_value_63 sh5 (Nat.le_trans le5 hn) (fun j5 => ?_)
      exact T_iret C.1 C.2.1 C.2.2 dX4_value_64
    · show TI pp ll ee rm_X4_value ss mm aa bb me co 3 cx wn _ _ _ _ _
      refine T_aload_n C.1 dX4_value_65 0 rfl ?_
      refine T_getI C.1 fd_X4_25 (fun _ _ _ _ => rfl) sh2 (Nat.le_trans le2 hn) dX4_value_66 ?_
      exact T_iret C.1 C.2.1 C.2.2 dX4_value_69
    · show TI pp ll ee rm_X4_value ss mm aa bb me co 3 cx wn _ _ _ _ _
      refine T_aload_n C.1 dX4_value_70 0 rfl ?_
      refine T_getI C.1 fd_X4_28 (fun _ _ _ _ => rfl) sh2 (Nat.le_trans le2 hn) dX4_value_71 ?_
      exact T_iret C.1 C.2.1 C.2.2 dX4_value_74
  · refine T_iconst C.1 dX4_value_9 ?_
    exact T_iret C.1 C.2.1 C.2.2 dX4_value_10
def rm_X4_become : Room := { frames := 4, cells := 0, slots := 0, locals := 104 }
def F_X4_become  (x1 : Int32) (x2 : Int32) (x3 : Int32) (m : Mm) : Option (Unit × Mm) :=
  bnd (F_X4_knows x1 x2 m) fun v1 m2 =>
  (if v1 = iI 0 then
    some ((), m2)
  else
    tsw x2 (0) [(wrI 70 m2 3 x1 x3 fun m3 =>
    some ((), m3)),
     (wrI 70 m2 4 x1 x3 fun m4 =>
    some ((), m4)),
     (wrI 7 m2 5 x1 x3 fun m5 =>
    some ((), m5)),
     (nm (pI m2 2 4 x3) fun m6 =>
    some ((), m6))] (nm (pI m2 2 5 x3) fun m7 =>
    some ((), m7)))
set_option maxRecDepth 100000 in
set_option maxHeartbeats 4000000 in
theorem c_X4_become {wn : Nat} (hn : NN ≤ wn) (ll : Launch) (cx : CX) (x1 : Int32) (x2 : Int32) (x3 : Int32) (m : Mm) : MT ll yX4_become cX4_become 4 (none) rm_X4_become cx wn wn Lay cvV 0 0 [.ref (cx.2.2.1 + 2), .int x1, .int x2, .int x3] m (F_X4_become x1 x2 x3 m) := by
  refine MT_of (by decide) (Nat.le_of_ble_eq_true rfl) ?_
  intro pp ee ss mm aa bb me co hK hr hk hn0
  have C : CM pp ss mm aa me co cX4_become 4 RX4 cx (none) := ⟨hK, hr, hk⟩
  show TV pp ll ee rm_X4_become ss mm aa bb me co 4 cx wn 0 [(0, .ref (cx.2.2.1 + 2)), (1, .int x1), (2, .int x2), (3, .int x3)] [] m (F_X4_become x1 x2 x3 m)
  unfold F_X4_become
  refine T_aload_n C.1 dX4_become_0 0 rfl ?_
  refine T_iload_n C.1 dX4_become_1 1 rfl ?_
  refine T_iload_n C.1 dX4_become_2 2 rfl ?_
  refine T_callVI (rm := rm_X4_knows) [.int x1, .int x2] [] C.1 dX4_become_3 mw_X4_knows wm_2_92 wm_2_77 wm_2_78 ⟨Nat.le_of_ble_eq_true rfl, Nat.le_of_ble_eq_true rfl⟩ ⟨rfl, rfl⟩ ⟨Nat.zero_le _, Nat.zero_le _⟩ rfl rfl (Nat.le_of_ble_eq_true rfl) sh2 (Nat.le_trans le2 hn) ⟨rfl, rfl⟩ (c_X4_knows hn ll cx x1 x2 m) (fun v1 m2 => ?_)
  refine T_if_ne (tgt := 10) C.1 dX4_become_6 (by decide) ?_ ?_
  · refine T_iload_n C.1 dX4_become_10 2 rfl ?_
    refine T_tsw (lo := (0)) (os := [29, 39, 49, 59]) C.1 dX4_become_11 rfl (by decide) (tgd := 78) (by decide) ⟨⟨40, by decide, ?_⟩, ⟨50, by decide, ?_⟩, ⟨60, by decide, ?_⟩, ⟨70, by decide, ?_⟩, trivial⟩ ?_
    · show TV pp ll ee rm_X4_become ss mm aa bb me co 4 cx wn _ _ _ _ _
      refine T_aload_n C.1 dX4_become_40 0 rfl ?_
      refine T_getR (x := 3) C.1 fd_X4_15 (fun _ _ _ _ => rfl) sh2 (Nat.le_trans le2 hn) (fun _ h => h) rfl (by decide) dX4_become_41 ?_
      refine T_iload_n C.1 dX4_become_44 1 rfl ?_
      refine T_iload_n C.1 dX4_become_45 3 rfl ?_
      refine T_iast C.1 LyI_Lay sh3 (Nat.le_trans le3 hn) dX4_become_46 (fun m3 => ?_)
      refine T_goto (tgt := 83) C.1 dX4_become_47 (by decide) ?_
      exact T_vret C.1 C.2.1 C.2.2 dX4_become_83
    · show TV pp ll ee rm_X4_become ss mm aa bb me co 4 cx wn _ _ _ _ _
      refine T_aload_n C.1 dX4_become_50 0 rfl ?_
      refine T_getR (x := 4) C.1 fd_X4_19 (fun _ _ _ _ => rfl) sh2 (Nat.le_trans le2 hn) (fun _ h => h) rfl (by decide) dX4_become_51 ?_
      refine T_iload_n C.1 dX4_become_54 1 rfl ?_
      refine T_iload_n C.1 dX4_become_55 3 rfl ?_
      refine T_iast C.1 LyI_Lay sh4 (Nat.le_trans le4 hn) dX4_become_56 (fun m4 => ?_)
      refine T_goto (tgt := 83) C.1 dX4_become_57 (by decide) ?_
      exact T_vret C.1 C.2.1 C.2.2 dX4_become_83
    · show TV pp ll ee rm_X4_become ss mm aa bb me co 4 cx wn _ _ _ _ _
      refine T_aload_n C.1 dX4_become_60 0 rfl ?_
      refine T_getR (x := 5) C.1 fd_X4_22 (fun _ _ _ _ => rfl) sh2 (Nat.le_trans le2 hn) (fun _ h => h) rfl (by decide) dX4_become_61 ?_
      refine T_iload_n C.1 dX4_become_64 1 rfl ?_
      refine T_iload_n C.1 dX4_become_65 3 rfl ?_
      refine T_iast C.1 LyI_Lay sh5 (Nat.le_trans le5 hn) dX4_become_66 (fun m5 => ?_)
      refine T_goto (tgt := 83) C.1 dX4_become_67 (by decide) ?_
      exact T_vret C.1 C.2.1 C.2.2 dX4_become_83
    · show TV pp ll ee rm_X4_become ss mm aa bb me co 4 cx wn _ _ _ _ _
      refine T_aload_n C.1 dX4_become_70 0 rfl ?_
      refine T_iload_n C.1 dX4_become_71 3 rfl ?_
      refine T_putI C.1 LyI_Lay fd_X4_25 sh2 (Nat.le_trans le2 hn) dX4_become_72 (fun m6 => ?_)
      refine T_goto (tgt := 83) C.1 dX4_become_75 (by decide) ?_
      exact T_vret C.1 C.2.1 C.2.2 dX4_become_83
    · show TV pp ll ee rm_X4_become ss mm aa bb me co 4 cx wn _ _ _ _ _
      refine T_aload_n C.1 dX4_become_78 0 rfl ?_
      refine T_iload_n C.1 dX4_become_79 3 rfl ?_
      refine T_putI C.1 LyI_Lay fd_X4_28 sh2 (Nat.le_trans le2 hn) dX4_become_80 (fun m7 => ?_)
      exact T_vret C.1 C.2.1 C.2.2 dX4_become_83
  · exact T_vret C.1 C.2.1 C.2.2 dX4_become_9
def rm_X5_isShelf : Room := { frames := 1, cells := 0, slots := 0, locals := 40 }
def F_X5_isShelf  (x1 : Int32) (m : Mm) : Option (Int32 × Mm) :=
  (if x1 < iI 0 then
    rz (iI 0) m
  else
    (if (iI 6) ≤ x1 then
      rz (iI 0) m
    else
      rz (iI 1) m))
set_option maxRecDepth 100000 in
set_option maxHeartbeats 4000000 in
theorem c_X5_isShelf {wn : Nat} (hn : NN ≤ wn) (ll : Launch) (cx : CX) (x1 : Int32) (m : Mm) : MT ll yX5_isShelf cX5_isShelf 2 ((some .boolean)) rm_X5_isShelf cx wn wn Lay cvI 0 0 [.ref (cx.2.2.1 + 103), .int x1] m (F_X5_isShelf x1 m) := by
  refine MT_of (by decide) (Nat.le_of_ble_eq_true rfl) ?_
  intro pp ee ss mm aa bb me co hK hr hk hn0
  have C : CM pp ss mm aa me co cX5_isShelf 2 RX5 cx ((some .boolean)) := ⟨hK, hr, hk⟩
  show TI pp ll ee rm_X5_isShelf ss mm aa bb me co 2 cx wn 0 [(0, .ref (cx.2.2.1 + 103)), (1, .int x1)] [] m (F_X5_isShelf x1 m)
  unfold F_X5_isShelf
  refine T_iload_n C.1 dX5_isShelf_0 1 rfl ?_
  refine T_if_lt (tgt := 14) C.1 dX5_isShelf_1 (by decide) ?_ ?_
  · refine T_iconst C.1 dX5_isShelf_14 ?_
    exact T_zret C.1 C.2.1 C.2.2 dX5_isShelf_15
  · refine T_iload_n C.1 dX5_isShelf_4 1 rfl ?_
    refine T_bipush C.1 dX5_isShelf_5 rfl ?_
    refine T_icmp_ge (tgt := 14) C.1 dX5_isShelf_7 (by decide) ?_ ?_
    · refine T_iconst C.1 dX5_isShelf_14 ?_
      exact T_zret C.1 C.2.1 C.2.2 dX5_isShelf_15
    · refine T_iconst C.1 dX5_isShelf_10 ?_
      refine T_goto (tgt := 15) C.1 dX5_isShelf_11 (by decide) ?_
      exact T_zret C.1 C.2.1 C.2.2 dX5_isShelf_15
def rm_X5_isEmpty : Room := { frames := 1, cells := 0, slots := 0, locals := 40 }
def F_X5_isEmpty  (x1 : Int32) (m : Mm) : Option (Int32 × Mm) :=
  rd 6 x1 fun j1 =>
  (if (gI m 104 j1) = (iI (-2)) then
    rz (iI 1) m
  else
    rz (iI 0) m)
set_option maxRecDepth 100000 in
set_option maxHeartbeats 4000000 in
theorem c_X5_isEmpty {wn : Nat} (hn : NN ≤ wn) (ll : Launch) (cx : CX) (x1 : Int32) (m : Mm) : MT ll yX5_isEmpty cX5_isEmpty 2 ((some .boolean)) rm_X5_isEmpty cx wn wn Lay cvI 0 0 [.ref (cx.2.2.1 + 103), .int x1] m (F_X5_isEmpty x1 m) := by
  refine MT_of (by decide) (Nat.le_of_ble_eq_true rfl) ?_
  intro pp ee ss mm aa bb me co hK hr hk hn0
  have C : CM pp ss mm aa me co cX5_isEmpty 2 RX5 cx ((some .boolean)) := ⟨hK, hr, hk⟩
  show TI pp ll ee rm_X5_isEmpty ss mm aa bb me co 2 cx wn 0 [(0, .ref (cx.2.2.1 + 103)), (1, .int x1)] [] m (F_X5_isEmpty x1 m)
  unfold F_X5_isEmpty
  refine T_aload_n C.1 dX5_isEmpty_0 0 rfl ?_
  refine T_getR (x := 104) C.1 fd_X5_11 (fun _ _ _ _ => rfl) sh103 (Nat.le_trans le103 hn) (fun _ h => h) rfl (by decide) dX5_isEmpty_1 ?_
  refine T_iload_n C.1 dX5_isEmpty_4 1 rfl ?_
  refine T_iald C.1 dX5_isEmpty_5 sh104 (Nat.le_trans le104 hn) (fun j1 => ?_)
  refine T_bipush C.1 dX5_isEmpty_6 rfl ?_
  refine T_icmp_ne (tgt := 15) C.1 dX5_isEmpty_8 (by decide) ?_ ?_
  · refine T_iconst C.1 dX5_isEmpty_15 ?_
    exact T_zret C.1 C.2.1 C.2.2 dX5_isEmpty_16
  · refine T_iconst C.1 dX5_isEmpty_11 ?_
    refine T_goto (tgt := 16) C.1 dX5_isEmpty_12 (by decide) ?_
    exact T_zret C.1 C.2.1 C.2.2 dX5_isEmpty_16
def rm_X5_isRow : Room := { frames := 1, cells := 0, slots := 0, locals := 40 }
def F_X5_isRow  (x1 : Int32) (m : Mm) : Option (Int32 × Mm) :=
  rd 6 x1 fun j1 =>
  (if (gI m 104 j1) < iI 0 then
    rz (iI 0) m
  else
    rz (iI 1) m)
set_option maxRecDepth 100000 in
set_option maxHeartbeats 4000000 in
theorem c_X5_isRow {wn : Nat} (hn : NN ≤ wn) (ll : Launch) (cx : CX) (x1 : Int32) (m : Mm) : MT ll yX5_isRow cX5_isRow 2 ((some .boolean)) rm_X5_isRow cx wn wn Lay cvI 0 0 [.ref (cx.2.2.1 + 103), .int x1] m (F_X5_isRow x1 m) := by
  refine MT_of (by decide) (Nat.le_of_ble_eq_true rfl) ?_
  intro pp ee ss mm aa bb me co hK hr hk hn0
  have C : CM pp ss mm aa me co cX5_isRow 2 RX5 cx ((some .boolean)) := ⟨hK, hr, hk⟩
  show TI pp ll ee rm_X5_isRow ss mm aa bb me co 2 cx wn 0 [(0, .ref (cx.2.2.1 + 103)), (1, .int x1)] [] m (F_X5_isRow x1 m)
  unfold F_X5_isRow
  refine T_aload_n C.1 dX5_isRow_0 0 rfl ?_
  refine T_getR (x := 104) C.1 fd_X5_11 (fun _ _ _ _ => rfl) sh103 (Nat.le_trans le103 hn) (fun _ h => h) rfl (by decide) dX5_isRow_1 ?_
  refine T_iload_n C.1 dX5_isRow_4 1 rfl ?_
  refine T_iald C.1 dX5_isRow_5 sh104 (Nat.le_trans le104 hn) (fun j1 => ?_)
  refine T_if_lt (tgt := 13) C.1 dX5_isRow_6 (by decide) ?_ ?_
  · refine T_iconst C.1 dX5_isRow_13 ?_
    exact T_zret C.1 C.2.1 C.2.2 dX5_isRow_14
  · refine T_iconst C.1 dX5_isRow_9 ?_
    refine T_goto (tgt := 14) C.1 dX5_isRow_10 (by decide) ?_
    exact T_zret C.1 C.2.1 C.2.2 dX5_isRow_14
def rm_J7_fill_d0a16 : Room := { frames := 1, cells := 0, slots := 0, locals := 40 }
def F_J7_fill_d0a16_6 (r1 : Nat) : Nat → Int64 → Int32 → Int32 → Mm → Option (Unit × Mm)
  | 0, _, _, _, _ => none
  | f + 1, b1, a2, a3, m =>
    (if a3 ≤ a2 then
      some ((), m)
    else
      wrL (shp r1).2 m r1 a2 b1 fun m1 =>
      nm (a2 + (iI 1)) fun v2 =>
      F_J7_fill_d0a16_6 r1 f b1 v2 a3 m1)
set_option maxRecDepth 100000 in
set_option maxHeartbeats 4000000 in
theorem t_J7_fill_d0a16_6 {wn : Nat} (hn : NN ≤ wn) {pp : Program} {ll : Launch} {ee : Env} {ss : State} {mm : MethodId} {aa : Array Value} {bb : List Frame} {me : Method} {co : Code} {cx : CX}    {r1 : Nat} (C : CM pp ss mm aa me co cJ7_fill_d0a16 5 RJ7 cx (none)) (hr1 : shp r1 = (5, (shp r1).2))   : ∀ (f : Nat) (b1 : Int64) (a2 : Int32) (a3 : Int32) (m : Mm), TV pp ll ee rm_J7_fill_d0a16 ss mm aa bb me co 5 cx wn 6 [(0, .ref (cx.2.2.1 + r1)), (1, .long b1), (3, .int a2), (4, .int a3)] [] m (F_J7_fill_d0a16_6 r1 f b1 a2 a3 m) := by
  intro f
  induction f with
  | zero => exact fun _ _ _ _ => T_none
  | succ f ih =>
    intro b1 a2 a3 m
    unfold F_J7_fill_d0a16_6
    refine T_iload_n C.1 dJ7_fill_d0a16_6 2 rfl ?_
    refine T_iload C.1 dJ7_fill_d0a16_7 3 rfl ?_
    refine T_icmp_ge (tgt := 22) C.1 dJ7_fill_d0a16_9 (by decide) ?_ ?_
    · exact T_vret C.1 C.2.1 C.2.2 dJ7_fill_d0a16_22
    · refine T_aload_n C.1 dJ7_fill_d0a16_12 0 rfl ?_
      refine T_iload_n C.1 dJ7_fill_d0a16_13 2 rfl ?_
      refine T_lload_n C.1 dJ7_fill_d0a16_14 1 rfl ?_
      refine T_last C.1 LyI_Lay hr1 (Nat.le_trans (shp_le hr1 (by decide)) hn) dJ7_fill_d0a16_15 (fun m1 => ?_)
      refine T_iincN C.1 (fun v2 => [(3, .int v2), (0, .ref (cx.2.2.1 + r1)), (1, .long b1), (4, .int a3)]) dJ7_fill_d0a16_16 2 rfl (by decide) (fun _ => rfl) (fun v2 => ?_)
      refine T_goto (tgt := 6) C.1 dJ7_fill_d0a16_19 (by decide) ?_
      exact T_sub [1, 2, 0, 3] rfl (ih b1 v2 a3 m1)
def F_J7_fill_d0a16  (r1 : Nat) (y2 : Int64) (m : Mm) : Option (Unit × Mm) :=
  (if (shp r1).1 = 5 then
    nm (iI (shp r1).2) fun v1 =>
    F_J7_fill_d0a16_6 r1 FU y2 (iI 0) v1 m
  else none)
set_option maxRecDepth 100000 in
set_option maxHeartbeats 4000000 in
theorem c_J7_fill_d0a16 {wn : Nat} (hn : NN ≤ wn) (ll : Launch) (cx : CX) (r1 : Nat) (y2 : Int64) (m : Mm) : MT ll yJ7_fill_d0a16 cJ7_fill_d0a16 5 (none) rm_J7_fill_d0a16 cx wn wn Lay cvV 0 0 [.ref (cx.2.2.1 + r1), .long y2] m (F_J7_fill_d0a16 r1 y2 m) := by
  refine MT_of (by decide) (Nat.le_of_ble_eq_true rfl) ?_
  intro pp ee ss mm aa bb me co hK hr hk hn0
  have C : CM pp ss mm aa me co cJ7_fill_d0a16 5 RJ7 cx (none) := ⟨hK, hr, hk⟩
  show TV pp ll ee rm_J7_fill_d0a16 ss mm aa bb me co 5 cx wn 0 [(0, .ref (cx.2.2.1 + r1)), (1, .long y2)] [] m (F_J7_fill_d0a16 r1 y2 m)
  unfold F_J7_fill_d0a16
  refine T_if (fun hr1 => ?_) (fun _ => T_none)
  have hr1 := shp_any hr1
  refine T_iconst C.1 dJ7_fill_d0a16_0 ?_
  refine T_istore_n (lv' := [(3, .int (iI 0)), (0, .ref (cx.2.2.1 + r1)), (1, .long y2)]) C.1 dJ7_fill_d0a16_1 (by decide) rfl ?_
  refine T_aload_n C.1 dJ7_fill_d0a16_2 1 rfl ?_
  refine T_alenL C.1 dJ7_fill_d0a16_3 hr1 (Nat.le_trans (shp_le hr1 (by decide)) hn) ?_
  refine T_istoreN C.1 (fun v1 => [(4, .int v1), (3, .int (iI 0)), (0, .ref (cx.2.2.1 + r1)), (1, .long y2)]) dJ7_fill_d0a16_4 (by decide) (fun _ => rfl) (fun v1 => ?_)
  exact T_sub [2, 3, 1, 0] rfl (t_J7_fill_d0a16_6 hn C hr1 FU y2 (iI 0) v1 m)
def rm_X5_holdRow : Room := { frames := 2, cells := 0, slots := 0, locals := 64 }
def F_X5_holdRow  (x1 : Int32) (x2 : Int32) (x3 : Int32) (m : Mm) : Option (Unit × Mm) :=
  wrI 6 m 104 x1 x2 fun m1 =>
  wrI 6 m1 105 x1 x3 fun m2 =>
  rd 6 x1 fun j3 =>
  bnd (F_J7_fill_d0a16 (107 + 1 * j3) (iL 0) m2) fun _ m5 =>
  some ((), m5)
set_option maxRecDepth 100000 in
set_option maxHeartbeats 4000000 in
theorem c_X5_holdRow {wn : Nat} (hn : NN ≤ wn) (ll : Launch) (cx : CX) (x1 : Int32) (x2 : Int32) (x3 : Int32) (m : Mm) : MT ll yX5_holdRow cX5_holdRow 4 (none) rm_X5_holdRow cx wn wn Lay cvV 0 0 [.ref (cx.2.2.1 + 103), .int x1, .int x2, .int x3] m (F_X5_holdRow x1 x2 x3 m) := by
  refine MT_of (by decide) (Nat.le_of_ble_eq_true rfl) ?_
  intro pp ee ss mm aa bb me co hK hr hk hn0
  have C : CM pp ss mm aa me co cX5_holdRow 4 RX5 cx (none) := ⟨hK, hr, hk⟩
  show TV pp ll ee rm_X5_holdRow ss mm aa bb me co 4 cx wn 0 [(0, .ref (cx.2.2.1 + 103)), (1, .int x1), (2, .int x2), (3, .int x3)] [] m (F_X5_holdRow x1 x2 x3 m)
  unfold F_X5_holdRow
  refine T_aload_n C.1 dX5_holdRow_0 0 rfl ?_
  refine T_getR (x := 104) C.1 fd_X5_11 (fun _ _ _ _ => rfl) sh103 (Nat.le_trans le103 hn) (fun _ h => h) rfl (by decide) dX5_holdRow_1 ?_
  refine T_iload_n C.1 dX5_holdRow_4 1 rfl ?_
  refine T_iload_n C.1 dX5_holdRow_5 2 rfl ?_
  refine T_iast C.1 LyI_Lay sh104 (Nat.le_trans le104 hn) dX5_holdRow_6 (fun m1 => ?_)
  refine T_aload_n C.1 dX5_holdRow_7 0 rfl ?_
  refine T_getR (x := 105) C.1 fd_X5_15 (fun _ _ _ _ => rfl) sh103 (Nat.le_trans le103 hn) (fun _ h => h) rfl (by decide) dX5_holdRow_8 ?_
  refine T_iload_n C.1 dX5_holdRow_11 1 rfl ?_
  refine T_iload_n C.1 dX5_holdRow_12 3 rfl ?_
  refine T_iast C.1 LyI_Lay sh105 (Nat.le_trans le105 hn) dX5_holdRow_13 (fun m2 => ?_)
  refine T_aload_n C.1 dX5_holdRow_14 0 rfl ?_
  refine T_getR (x := 106) C.1 fd_X5_20 (fun _ _ _ _ => rfl) sh103 (Nat.le_trans le103 hn) (fun _ h => h) rfl (by decide) dX5_holdRow_15 ?_
  refine T_iload_n C.1 dX5_holdRow_18 1 rfl ?_
  refine T_aald (x := fun j => 107 + 1 * j) C.1 dX5_holdRow_19 (by decide) sh106 (Nat.le_trans le106 hn) (fun _ h => h) ar106 (fun j3 hj3 => ?_)
  refine T_lconst (x := iL 0) C.1 dX5_holdRow_20 rfl ?_
  refine T_callSV (rm := rm_J7_fill_d0a16) [.ref (cx.2.2.1 + (107 + 1 * j3)), .long (iL 0)] [] C.1 dX5_holdRow_21 mw_J7_fill_d0a16 wm_3_135 wm_3_136 ⟨Nat.le_of_ble_eq_true rfl, Nat.le_of_ble_eq_true rfl⟩ ⟨rfl, rfl⟩ ⟨Nat.zero_le _, Nat.zero_le _⟩ rfl rfl (Nat.le_of_ble_eq_true rfl) (c_J7_fill_d0a16 hn ll cx (107 + 1 * j3) (iL 0) m2) (fun u4 m5 => ?_)
  exact T_vret C.1 C.2.1 C.2.2 dX5_holdRow_24
def rm_X5_refusalOfBytes : Room := { frames := 2, cells := 0, slots := 0, locals := 61 }
def F_X5_refusalOfBytes  (x1 : Int32) (m : Mm) : Option (Int32 × Mm) :=
  bnd (F_X5_isShelf x1 m) fun v1 m2 =>
  (if v1 = iI 0 then
    some ((iI (-1)), m2)
  else
    bnd (F_X5_isEmpty x1 m2) fun v3 m4 =>
    (if v3 = iI 0 then
      rd 6 x1 fun j5 =>
      (if (gI m4 104 j5) = iI 0 then
        some ((iI 0), m4)
      else
        some ((iI (-12)), m4))
    else
      some ((iI (-11)), m4)))
set_option maxRecDepth 100000 in
set_option maxHeartbeats 4000000 in
theorem c_X5_refusalOfBytes {wn : Nat} (hn : NN ≤ wn) (ll : Launch) (cx : CX) (x1 : Int32) (m : Mm) : MT ll yX5_refusalOfBytes cX5_refusalOfBytes 2 ((some .int)) rm_X5_refusalOfBytes cx wn wn Lay cvI 0 0 [.ref (cx.2.2.1 + 103), .int x1] m (F_X5_refusalOfBytes x1 m) := by
  refine MT_of (by decide) (Nat.le_of_ble_eq_true rfl) ?_
  intro pp ee ss mm aa bb me co hK hr hk hn0
  have C : CM pp ss mm aa me co cX5_refusalOfBytes 2 RX5 cx ((some .int)) := ⟨hK, hr, hk⟩
  show TI pp ll ee rm_X5_refusalOfBytes ss mm aa bb me co 2 cx wn 0 [(0, .ref (cx.2.2.1 + 103)), (1, .int x1)] [] m (F_X5_refusalOfBytes x1 m)
  unfold F_X5_refusalOfBytes
  refine T_aload_n C.1 dX5_refusalOfBytes_0 0 rfl ?_
  refine T_iload_n C.1 dX5_refusalOfBytes_1 1 rfl ?_
  refine T_callVI (rm := rm_X5_isShelf) [.int x1] [] C.1 dX5_refusalOfBytes_2 mw_X5_isShelf wm_3_96 wm_3_97 wm_3_98 ⟨Nat.le_of_ble_eq_true rfl, Nat.le_of_ble_eq_true rfl⟩ ⟨rfl, rfl⟩ ⟨Nat.zero_le _, Nat.zero_le _⟩ rfl rfl (Nat.le_of_ble_eq_true rfl) sh103 (Nat.le_trans le103 hn) ⟨rfl, rfl⟩ (c_X5_isShelf hn ll cx x1 m) (fun v1 m2 => ?_)
  refine T_if_ne (tgt := 10) C.1 dX5_refusalOfBytes_5 (by decide) ?_ ?_
  · refine T_aload_n C.1 dX5_refusalOfBytes_10 0 rfl ?_
    refine T_iload_n C.1 dX5_refusalOfBytes_11 1 rfl ?_
    refine T_callVI (rm := rm_X5_isEmpty) [.int x1] [] C.1 dX5_refusalOfBytes_12 mw_X5_isEmpty wm_3_100 wm_3_101 wm_3_102 ⟨Nat.le_of_ble_eq_true rfl, Nat.le_of_ble_eq_true rfl⟩ ⟨rfl, rfl⟩ ⟨Nat.zero_le _, Nat.zero_le _⟩ rfl rfl (Nat.le_of_ble_eq_true rfl) sh103 (Nat.le_trans le103 hn) ⟨rfl, rfl⟩ (c_X5_isEmpty hn ll cx x1 m2) (fun v3 m4 => ?_)
    refine T_if_eq (tgt := 21) C.1 dX5_refusalOfBytes_15 (by decide) ?_ ?_
    · refine T_aload_n C.1 dX5_refusalOfBytes_21 0 rfl ?_
      refine T_getR (x := 104) C.1 fd_X5_11 (fun _ _ _ _ => rfl) sh103 (Nat.le_trans le103 hn) (fun _ h => h) rfl (by decide) dX5_refusalOfBytes_22 ?_
      refine T_iload_n C.1 dX5_refusalOfBytes_25 1 rfl ?_
      refine T_iald C.1 dX5_refusalOfBytes_26 sh104 (Nat.le_trans le104 hn) (fun j5 => ?_)
      refine T_if_ne (tgt := 34) C.1 dX5_refusalOfBytes_27 (by decide) ?_ ?_
      · refine T_bipush C.1 dX5_refusalOfBytes_34 rfl ?_
        exact T_iret C.1 C.2.1 C.2.2 dX5_refusalOfBytes_36
      · refine T_iconst C.1 dX5_refusalOfBytes_30 ?_
        refine T_goto (tgt := 36) C.1 dX5_refusalOfBytes_31 (by decide) ?_
        exact T_iret C.1 C.2.1 C.2.2 dX5_refusalOfBytes_36
    · refine T_bipush C.1 dX5_refusalOfBytes_18 rfl ?_
      exact T_iret C.1 C.2.1 C.2.2 dX5_refusalOfBytes_20
  · refine T_iconst C.1 dX5_refusalOfBytes_8 ?_
    exact T_iret C.1 C.2.1 C.2.2 dX5_refusalOfBytes_9
def rm_X5_refusalOfElement : Room := { frames := 2, cells := 0, slots := 0, locals := 61 }
def F_X5_refusalOfElement  (x1 : Int32) (x2 : Int32) (m : Mm) : Option (Int32 × Mm) :=
  bnd (F_X5_isShelf x1 m) fun v1 m2 =>
  (if v1 = iI 0 then
    some ((iI (-1)), m2)
  else
    bnd (F_X5_isEmpty x1 m2) fun v3 m4 =>
    (if v3 = iI 0 then
      bnd (F_X5_isRow x1 m4) fun v5 m6 =>
      (if v5 = iI 0 then
        some ((iI (-12)), m6)
      else
        (if x2 < iI 0 then
          some ((iI (-13)), m6)
        else
          rd 6 x1 fun j7 =>
          (if (gI m6 105 j7) ≤ x2 then
            some ((iI (-13)), m6)
          else
            some ((iI 0), m6))))
    else
      some ((iI (-11)), m4)))
set_option maxRecDepth 100000 in
set_option maxHeartbeats 4000000 in
theorem c_X5_refusalOfElement {wn : Nat} (hn : NN ≤ wn) (ll : Launch) (cx : CX) (x1 : Int32) (x2 : Int32) (m : Mm) : MT ll yX5_refusalOfElement cX5_refusalOfElement 3 ((some .int)) rm_X5_refusalOfElement cx wn wn Lay cvI 0 0 [.ref (cx.2.2.1 + 103), .int x1, .int x2] m (F_X5_refusalOfElement x1 x2 m) := by
  refine MT_of (by decide) (Nat.le_of_ble_eq_true rfl) ?_
  intro pp ee ss mm aa bb me co hK hr hk hn0
  have C : CM pp ss mm aa me co cX5_refusalOfElement 3 RX5 cx ((some .int)) := ⟨hK, hr, hk⟩
  show TI pp ll ee rm_X5_refusalOfElement ss mm aa bb me co 3 cx wn 0 [(0, .ref (cx.2.2.1 + 103)), (1, .int x1), (2, .int x2)] [] m (F_X5_refusalOfElement x1 x2 m)
  unfold F_X5_refusalOfElement
  refine T_aload_n C.1 dX5_refusalOfElement_0 0 rfl ?_
  refine T_iload_n C.1 dX5_refusalOfElement_1 1 rfl ?_
  refine T_callVI (rm := rm_X5_isShelf) [.int x1] [] C.1 dX5_refusalOfElement_2 mw_X5_isShelf wm_3_96 wm_3_97 wm_3_98 ⟨Nat.le_of_ble_eq_true rfl, Nat.le_of_ble_eq_true rfl⟩ ⟨rfl, rfl⟩ ⟨Nat.zero_le _, Nat.zero_le _⟩ rfl rfl (Nat.le_of_ble_eq_true rfl) sh103 (Nat.le_trans le103 hn) ⟨rfl, rfl⟩ (c_X5_isShelf hn ll cx x1 m) (fun v1 m2 => ?_)
  refine T_if_ne (tgt := 10) C.1 dX5_refusalOfElement_5 (by decide) ?_ ?_
  · refine T_aload_n C.1 dX5_refusalOfElement_10 0 rfl ?_
    refine T_iload_n C.1 dX5_refusalOfElement_11 1 rfl ?_
    refine T_callVI (rm := rm_X5_isEmpty) [.int x1] [] C.1 dX5_refusalOfElement_12 mw_X5_isEmpty wm_3_100 wm_3_101 wm_3_102 ⟨Nat.le_of_ble_eq_true rfl, Nat.le_of_ble_eq_true rfl⟩ ⟨rfl, rfl⟩ ⟨Nat.zero_le _, Nat.zero_le _⟩ rfl rfl (Nat.le_of_ble_eq_true rfl) sh103 (Nat.le_trans le103 hn) ⟨rfl, rfl⟩ (c_X5_isEmpty hn ll cx x1 m2) (fun v3 m4 => ?_)
    refine T_if_eq (tgt := 21) C.1 dX5_refusalOfElement_15 (by decide) ?_ ?_
    · refine T_aload_n C.1 dX5_refusalOfElement_21 0 rfl ?_
      refine T_iload_n C.1 dX5_refusalOfElement_22 1 rfl ?_
      refine T_callVI (rm := rm_X5_isRow) [.int x1] [] C.1 dX5_refusalOfElement_23 mw_X5_isRow wm_3_146 wm_3_147 wm_3_148 ⟨Nat.le_of_ble_eq_true rfl, Nat.le_of_ble_eq_true rfl⟩ ⟨rfl, rfl⟩ ⟨Nat.zero_le _, Nat.zero_le _⟩ rfl rfl (Nat.le_of_ble_eq_true rfl) sh103 (Nat.le_trans le103 hn) ⟨rfl, rfl⟩ (c_X5_isRow hn ll cx x1 m4) (fun v5 m6 => ?_)
      refine T_if_ne (tgt := 32) C.1 dX5_refusalOfElement_26 (by decide) ?_ ?_
      · refine T_iload_n C.1 dX5_refusalOfElement_32 2 rfl ?_
        refine T_if_lt (tgt := 50) C.1 dX5_refusalOfElement_33 (by decide) ?_ ?_
        · refine T_bipush C.1 dX5_refusalOfElement_50 rfl ?_
          exact T_iret C.1 C.2.1 C.2.2 dX5_refusalOfElement_52
        · refine T_iload_n C.1 dX5_refusalOfElement_36 2 rfl ?_
          refine T_aload_n C.1 dX5_refusalOfElement_37 0 rfl ?_
          refine T_getR (x := 105) C.1 fd_X5_15 (fun _ _ _ _ => rfl) sh103 (Nat.le_trans le103 hn) (fun _ h => h) rfl (by decide) dX5_refusalOfElement_38 ?_
          refine T_iload_n C.1 dX5_refusalOfElement_41 1 rfl ?_
          refine T_iald C.1 dX5_refusalOfElement_42 sh105 (Nat.le_trans le105 hn) (fun j7 => ?_)
          refine T_icmp_ge (tgt := 50) C.1 dX5_refusalOfElement_43 (by decide) ?_ ?_
          · refine T_bipush C.1 dX5_refusalOfElement_50 rfl ?_
            exact T_iret C.1 C.2.1 C.2.2 dX5_refusalOfElement_52
          · refine T_iconst C.1 dX5_refusalOfElement_46 ?_
            refine T_goto (tgt := 52) C.1 dX5_refusalOfElement_47 (by decide) ?_
            exact T_iret C.1 C.2.1 C.2.2 dX5_refusalOfElement_52
      · refine T_bipush C.1 dX5_refusalOfElement_29 rfl ?_
        exact T_iret C.1 C.2.1 C.2.2 dX5_refusalOfElement_31
    · refine T_bipush C.1 dX5_refusalOfElement_18 rfl ?_
      exact T_iret C.1 C.2.1 C.2.2 dX5_refusalOfElement_20
  · refine T_iconst C.1 dX5_refusalOfElement_8 ?_
    exact T_iret C.1 C.2.1 C.2.2 dX5_refusalOfElement_9
def rm_X5_lowestBits : Room := { frames := 1, cells := 0, slots := 0, locals := 40 }
def F_X5_lowestBits  (x1 : Int32) (y2 : Int64) (m : Mm) : Option (Int64 × Mm) :=
  tsw x1 (0) [(some ((((y2.toInt32).toInt8.toInt32).toInt64), m)),
   (some ((((y2.toInt32).toInt16.toInt32).toInt64), m)),
   (some (((y2.toInt32).toInt64), m)),
   (some (y2, m)),
   ((if (lg_cmp y2 (iL 0)) = iI 0 then
    some ((iL 0), m)
  else
    some ((iL 1), m)))] (some (y2, m))
set_option maxRecDepth 100000 in
set_option maxHeartbeats 4000000 in
theorem c_X5_lowestBits {wn : Nat} (hn : NN ≤ wn) (ll : Launch) (cx : CX) (x1 : Int32) (y2 : Int64) (m : Mm) : MT ll yX5_lowestBits cX5_lowestBits 3 ((some .long)) rm_X5_lowestBits cx wn wn Lay cvL 0 0 [.int x1, .long y2] m (F_X5_lowestBits x1 y2 m) := by
  refine MT_of (by decide) (Nat.le_of_ble_eq_true rfl) ?_
  intro pp ee ss mm aa bb me co hK hr hk hn0
  have C : CM pp ss mm aa me co cX5_lowestBits 3 RX5 cx ((some .long)) := ⟨hK, hr, hk⟩
  show TL pp ll ee rm_X5_lowestBits ss mm aa bb me co 3 cx wn 0 [(0, .int x1), (1, .long y2)] [] m (F_X5_lowestBits x1 y2 m)
  unfold F_X5_lowestBits
  refine T_iload_n C.1 dX5_lowestBits_0 0 rfl ?_
  refine T_tsw (lo := (0)) (os := [35, 40, 45, 61, 49]) C.1 dX5_lowestBits_1 rfl (by decide) (tgd := 62) (by decide) ⟨⟨36, by decide, ?_⟩, ⟨41, by decide, ?_⟩, ⟨46, by decide, ?_⟩, ⟨62, by decide, ?_⟩, ⟨50, by decide, ?_⟩, trivial⟩ ?_
  · show TL pp ll ee rm_X5_lowestBits ss mm aa bb me co 3 cx wn _ _ _ _ _
    refine T_lload_n C.1 dX5_lowestBits_36 1 rfl ?_
    refine T_l2i C.1 dX5_lowestBits_37 ?_
    refine T_i2b C.1 dX5_lowestBits_38 ?_
    refine T_i2l C.1 dX5_lowestBits_39 ?_
    exact T_lret C.1 C.2.1 C.2.2 dX5_lowestBits_40
  · show TL pp ll ee rm_X5_lowestBits ss mm aa bb me co 3 cx wn _ _ _ _ _
    refine T_lload_n C.1 dX5_lowestBits_41 1 rfl ?_
    refine T_l2i C.1 dX5_lowestBits_42 ?_
    refine T_i2s C.1 dX5_lowestBits_43 ?_
    refine T_i2l C.1 dX5_lowestBits_44 ?_
    exact T_lret C.1 C.2.1 C.2.2 dX5_lowestBits_45
  · show TL pp ll ee rm_X5_lowestBits ss mm aa bb me co 3 cx wn _ _ _ _ _
    refine T_lload_n C.1 dX5_lowestBits_46 1 rfl ?_
    refine T_l2i C.1 dX5_lowestBits_47 ?_
    refine T_i2l C.1 dX5_lowestBits_48 ?_
    exact T_lret C.1 C.2.1 C.2.2 dX5_lowestBits_49
  · show TL pp ll ee rm_X5_lowestBits ss mm aa bb me co 3 cx wn _ _ _ _ _
    refine T_lload_n C.1 dX5_lowestBits_62 1 rfl ?_
    exact T_lret C.1 C.2.1 C.2.2 dX5_lowestBits_63
  · show TL pp ll ee rm_X5_lowestBits ss mm aa bb me co 3 cx wn _ _ _ _ _
    refine T_lload_n C.1 dX5_lowestBits_50 1 rfl ?_
    refine T_lconst (x := iL 0) C.1 dX5_lowestBits_51 rfl ?_
    refine T_lcmp C.1 dX5_lowestBits_52 ?_
    refine T_if_eq (tgt := 60) C.1 dX5_lowestBits_53 (by decide) ?_ ?_
    · refine T_lconst (x := iL 0) C.1 dX5_lowestBits_60 rfl ?_
      exact T_lret C.1 C.2.1 C.2.2 dX5_lowestBits_61
    · refine T_lconst (x := iL 1) C.1 dX5_lowestBits_56 rfl ?_
      refine T_goto (tgt := 61) C.1 dX5_lowestBits_57 (by decide) ?_
      exact T_lret C.1 C.2.1 C.2.2 dX5_lowestBits_61
  · show TL pp ll ee rm_X5_lowestBits ss mm aa bb me co 3 cx wn _ _ _ _ _
    refine T_lload_n C.1 dX5_lowestBits_62 1 rfl ?_
    exact T_lret C.1 C.2.1 C.2.2 dX5_lowestBits_63
def rm_X6_append : Room := { frames := 1, cells := 0, slots := 0, locals := 40 }
def F_X6_append  (x1 : Int32) (m : Mm) : Option (Int32 × Mm) :=
  (if (gI m 16 1) < (iI 120) then
    wrI 120 m 17 (gI m 16 1) (nC ((x1.toUInt32 % 65536).toInt32)) fun m1 =>
    nm (pI m1 16 1 ((gI m1 16 1) + (iI 1))) fun m2 =>
    rz (iI 1) m2
  else
    rz (iI 0) m)
set_option maxRecDepth 100000 in
set_option maxHeartbeats 4000000 in
theorem c_X6_append {wn : Nat} (hn : NN ≤ wn) (ll : Launch) (cx : CX) (x1 : Int32) (m : Mm) : MT ll yX6_append cX6_append 2 ((some .boolean)) rm_X6_append cx wn wn Lay cvI 0 0 [.ref (cx.2.2.1 + 16), .int x1] m (F_X6_append x1 m) := by
  refine MT_of (by decide) (Nat.le_of_ble_eq_true rfl) ?_
  intro pp ee ss mm aa bb me co hK hr hk hn0
  have C : CM pp ss mm aa me co cX6_append 2 RX6 cx ((some .boolean)) := ⟨hK, hr, hk⟩
  show TI pp ll ee rm_X6_append ss mm aa bb me co 2 cx wn 0 [(0, .ref (cx.2.2.1 + 16)), (1, .int x1)] [] m (F_X6_append x1 m)
  unfold F_X6_append
  refine T_aload_n C.1 dX6_append_0 0 rfl ?_
  refine T_getI C.1 fd_X6_15 (fun _ _ _ _ => rfl) sh16 (Nat.le_trans le16 hn) dX6_append_1 ?_
  refine T_bipush C.1 dX6_append_4 rfl ?_
  refine T_icmp_lt (tgt := 11) C.1 dX6_append_6 (by decide) ?_ ?_
  · refine T_aload_n C.1 dX6_append_11 0 rfl ?_
    refine T_getR (x := 17) C.1 fd_X6_9 (fun _ _ _ _ => rfl) sh16 (Nat.le_trans le16 hn) (fun _ h => h) rfl (by decide) dX6_append_12 ?_
    refine T_aload_n C.1 dX6_append_15 0 rfl ?_
    refine T_getI C.1 fd_X6_15 (fun _ _ _ _ => rfl) sh16 (Nat.le_trans le16 hn) dX6_append_16 ?_
    refine T_iload_n C.1 dX6_append_19 1 rfl ?_
    refine T_i2c C.1 dX6_append_20 ?_
    refine T_cast C.1 LyI_Lay sh17 (Nat.le_trans le17 hn) dX6_append_21 (fun m1 => ?_)
    refine T_aload_n C.1 dX6_append_22 0 rfl ?_
    refine T_dup C.1 dX6_append_23 rfl ?_
    refine T_getI C.1 fd_X6_15 (fun _ _ _ _ => rfl) sh16 (Nat.le_trans le16 hn) dX6_append_24 ?_
    refine T_iconst C.1 dX6_append_27 ?_
    refine T_iadd C.1 dX6_append_28 ?_
    refine T_putI C.1 LyI_Lay fd_X6_15 sh16 (Nat.le_trans le16 hn) dX6_append_29 (fun m2 => ?_)
    refine T_iconst C.1 dX6_append_32 ?_
    exact T_zret C.1 C.2.1 C.2.2 dX6_append_33
  · refine T_iconst C.1 dX6_append_9 ?_
    exact T_zret C.1 C.2.1 C.2.2 dX6_append_10
def rm_X6_ahead : Room := { frames := 1, cells := 0, slots := 0, locals := 40 }
def F_X6_ahead   (m : Mm) : Option (Int32 × Mm) :=
  (if (gI m 16 3) = (iI (-1)) then
    (if (gI m 16 1) ≤ (gI m 16 2) then
      some ((iI (-1)), m)
    else
      (if (iI 120) ≤ (gI m 16 2) then
        some ((iI (-1)), m)
      else
        rd 120 (gI m 16 2) fun j1 =>
        some ((gI m 17 j1), m)))
  else
    some ((iI (-1)), m))
set_option maxRecDepth 100000 in
set_option maxHeartbeats 4000000 in
theorem c_X6_ahead {wn : Nat} (hn : NN ≤ wn) (ll : Launch) (cx : CX)  (m : Mm) : MT ll yX6_ahead cX6_ahead 1 ((some .int)) rm_X6_ahead cx wn wn Lay cvI 0 0 [.ref (cx.2.2.1 + 16)] m (F_X6_ahead  m) := by
  refine MT_of (by decide) (Nat.le_of_ble_eq_true rfl) ?_
  intro pp ee ss mm aa bb me co hK hr hk hn0
  have C : CM pp ss mm aa me co cX6_ahead 1 RX6 cx ((some .int)) := ⟨hK, hr, hk⟩
  show TI pp ll ee rm_X6_ahead ss mm aa bb me co 1 cx wn 0 [(0, .ref (cx.2.2.1 + 16))] [] m (F_X6_ahead  m)
  unfold F_X6_ahead
  refine T_aload_n C.1 dX6_ahead_0 0 rfl ?_
  refine T_getI C.1 fd_X6_22 (fun _ _ _ _ => rfl) sh16 (Nat.le_trans le16 hn) dX6_ahead_1 ?_
  refine T_iconst C.1 dX6_ahead_4 ?_
  refine T_icmp_ne (tgt := 40) C.1 dX6_ahead_5 (by decide) ?_ ?_
  · refine T_iconst C.1 dX6_ahead_40 ?_
    exact T_iret C.1 C.2.1 C.2.2 dX6_ahead_41
  · refine T_aload_n C.1 dX6_ahead_8 0 rfl ?_
    refine T_getI C.1 fd_X6_19 (fun _ _ _ _ => rfl) sh16 (Nat.le_trans le16 hn) dX6_ahead_9 ?_
    refine T_aload_n C.1 dX6_ahead_12 0 rfl ?_
    refine T_getI C.1 fd_X6_15 (fun _ _ _ _ => rfl) sh16 (Nat.le_trans le16 hn) dX6_ahead_13 ?_
    refine T_icmp_ge (tgt := 40) C.1 dX6_ahead_16 (by decide) ?_ ?_
    · refine T_iconst C.1 dX6_ahead_40 ?_
      exact T_iret C.1 C.2.1 C.2.2 dX6_ahead_41
    · refine T_aload_n C.1 dX6_ahead_19 0 rfl ?_
      refine T_getI C.1 fd_X6_19 (fun _ _ _ _ => rfl) sh16 (Nat.le_trans le16 hn) dX6_ahead_20 ?_
      refine T_bipush C.1 dX6_ahead_23 rfl ?_
      refine T_icmp_ge (tgt := 40) C.1 dX6_ahead_25 (by decide) ?_ ?_
      · refine T_iconst C.1 dX6_ahead_40 ?_
        exact T_iret C.1 C.2.1 C.2.2 dX6_ahead_41
      · refine T_aload_n C.1 dX6_ahead_28 0 rfl ?_
        refine T_getR (x := 17) C.1 fd_X6_9 (fun _ _ _ _ => rfl) sh16 (Nat.le_trans le16 hn) (fun _ h => h) rfl (by decide) dX6_ahead_29 ?_
        refine T_aload_n C.1 dX6_ahead_32 0 rfl ?_
        refine T_getI C.1 fd_X6_19 (fun _ _ _ _ => rfl) sh16 (Nat.le_trans le16 hn) dX6_ahead_33 ?_
        refine T_cald C.1 dX6_ahead_36 sh17 (Nat.le_trans le17 hn) (fun j1 => ?_)
        refine T_goto (tgt := 41) C.1 dX6_ahead_37 (by decide) ?_
        exact T_iret C.1 C.2.1 C.2.2 dX6_ahead_41
def rm_X6_comes : Room := { frames := 2, cells := 0, slots := 0, locals := 60 }
def F_X6_comes_13  (a1 : Int32) (m : Mm) : Option (Int32 × Mm) :=
  (if a1 = iI 0 then
    rz a1 m
  else
    nm (pI m 16 2 ((gI m 16 2) + (iI 1))) fun m1 =>
    rz a1 m1)
set_option maxRecDepth 100000 in
set_option maxHeartbeats 4000000 in
theorem t_X6_comes_13 {wn : Nat} (hn : NN ≤ wn) {pp : Program} {ll : Launch} {ee : Env} {ss : State} {mm : MethodId} {aa : Array Value} {bb : List Frame} {me : Method} {co : Code} {cx : CX}     (C : CM pp ss mm aa me co cX6_comes 3 RX6 cx ((some .boolean)))    (a1 : Int32) (m : Mm) : TI pp ll ee rm_X6_comes ss mm aa bb me co 3 cx wn 13 [(0, .ref (cx.2.2.1 + 16))] [.int a1] m (F_X6_comes_13  a1 m) := by
  unfold F_X6_comes_13
  refine T_istore_n (lv' := [(2, .int a1), (0, .ref (cx.2.2.1 + 16))]) C.1 dX6_comes_13 (by decide) rfl ?_
  refine T_iload_n C.1 dX6_comes_14 0 rfl ?_
  refine T_if_eq (tgt := 28) C.1 dX6_comes_15 (by decide) ?_ ?_
  · refine T_iload_n C.1 dX6_comes_28 0 rfl ?_
    exact T_zret C.1 C.2.1 C.2.2 dX6_comes_29
  · refine T_aload_n C.1 dX6_comes_18 1 rfl ?_
    refine T_dup C.1 dX6_comes_19 rfl ?_
    refine T_getI C.1 fd_X6_19 (fun _ _ _ _ => rfl) sh16 (Nat.le_trans le16 hn) dX6_comes_20 ?_
    refine T_iconst C.1 dX6_comes_23 ?_
    refine T_iadd C.1 dX6_comes_24 ?_
    refine T_putI C.1 LyI_Lay fd_X6_19 sh16 (Nat.le_trans le16 hn) dX6_comes_25 (fun m1 => ?_)
    refine T_iload_n C.1 dX6_comes_28 0 rfl ?_
    exact T_zret C.1 C.2.1 C.2.2 dX6_comes_29
def F_X6_comes  (x1 : Int32) (m : Mm) : Option (Int32 × Mm) :=
  bnd (F_X6_ahead m) fun v1 m2 =>
  (if v1 = x1 then
    F_X6_comes_13 (iI 1) m2
  else
    F_X6_comes_13 (iI 0) m2)
set_option maxRecDepth 100000 in
set_option maxHeartbeats 4000000 in
theorem c_X6_comes {wn : Nat} (hn : NN ≤ wn) (ll : Launch) (cx : CX) (x1 : Int32) (m : Mm) : MT ll yX6_comes cX6_comes 3 ((some .boolean)) rm_X6_comes cx wn wn Lay cvI 0 0 [.ref (cx.2.2.1 + 16), .int x1] m (F_X6_comes x1 m) := by
  refine MT_of (by decide) (Nat.le_of_ble_eq_true rfl) ?_
  intro pp ee ss mm aa bb me co hK hr hk hn0
  have C : CM pp ss mm aa me co cX6_comes 3 RX6 cx ((some .boolean)) := ⟨hK, hr, hk⟩
  show TI pp ll ee rm_X6_comes ss mm aa bb me co 3 cx wn 0 [(0, .ref (cx.2.2.1 + 16)), (1, .int x1)] [] m (F_X6_comes x1 m)
  unfold F_X6_comes
  refine T_aload_n C.1 dX6_comes_0 0 rfl ?_
  refine T_callVI (rm := rm_X6_ahead) [] [] C.1 dX6_comes_1 mw_X6_ahead wm_4_41 wm_4_43 wm_p_24 ⟨Nat.le_of_ble_eq_true rfl, Nat.le_of_ble_eq_true rfl⟩ ⟨rfl, rfl⟩ ⟨Nat.zero_le _, Nat.zero_le _⟩ rfl rfl (Nat.le_of_ble_eq_true rfl) sh16 (Nat.le_trans le16 hn) ⟨rfl, rfl⟩ (c_X6_ahead hn ll cx m) (fun v1 m2 => ?_)
  refine T_iload_n C.1 dX6_comes_4 1 rfl ?_
  refine T_icmp_ne (tgt := 12) C.1 dX6_comes_5 (by decide) ?_ ?_
  · refine T_iconst C.1 dX6_comes_12 ?_
    exact T_sub [0] rfl (t_X6_comes_13 hn C (iI 0) m2)
  · refine T_iconst C.1 dX6_comes_8 ?_
    refine T_goto (tgt := 13) C.1 dX6_comes_9 (by decide) ?_
    exact T_sub [0] rfl (t_X6_comes_13 hn C (iI 1) m2)
def rm_X6_fail : Room := { frames := 1, cells := 0, slots := 0, locals := 40 }
def F_X6_fail   (m : Mm) : Option (Unit × Mm) :=
  (if (gI m 16 3) = (iI (-1)) then
    nm (pI m 16 3 (gI m 16 2)) fun m1 =>
    some ((), m1)
  else
    some ((), m))
set_option maxRecDepth 100000 in
set_option maxHeartbeats 4000000 in
theorem c_X6_fail {wn : Nat} (hn : NN ≤ wn) (ll : Launch) (cx : CX)  (m : Mm) : MT ll yX6_fail cX6_fail 1 (none) rm_X6_fail cx wn wn Lay cvV 0 0 [.ref (cx.2.2.1 + 16)] m (F_X6_fail  m) := by
  refine MT_of (by decide) (Nat.le_of_ble_eq_true rfl) ?_
  intro pp ee ss mm aa bb me co hK hr hk hn0
  have C : CM pp ss mm aa me co cX6_fail 1 RX6 cx (none) := ⟨hK, hr, hk⟩
  show TV pp ll ee rm_X6_fail ss mm aa bb me co 1 cx wn 0 [(0, .ref (cx.2.2.1 + 16))] [] m (F_X6_fail  m)
  unfold F_X6_fail
  refine T_aload_n C.1 dX6_fail_0 0 rfl ?_
  refine T_getI C.1 fd_X6_22 (fun _ _ _ _ => rfl) sh16 (Nat.le_trans le16 hn) dX6_fail_1 ?_
  refine T_iconst C.1 dX6_fail_4 ?_
  refine T_icmp_ne (tgt := 16) C.1 dX6_fail_5 (by decide) ?_ ?_
  · exact T_vret C.1 C.2.1 C.2.2 dX6_fail_16
  · refine T_aload_n C.1 dX6_fail_8 0 rfl ?_
    refine T_aload_n C.1 dX6_fail_9 0 rfl ?_
    refine T_getI C.1 fd_X6_19 (fun _ _ _ _ => rfl) sh16 (Nat.le_trans le16 hn) dX6_fail_10 ?_
    refine T_putI C.1 LyI_Lay fd_X6_22 sh16 (Nat.le_trans le16 hn) dX6_fail_13 (fun m1 => ?_)
    exact T_vret C.1 C.2.1 C.2.2 dX6_fail_16
def rm_X6_isDigit : Room := { frames := 1, cells := 0, slots := 0, locals := 40 }
def F_X6_isDigit  (x1 : Int32) (m : Mm) : Option (Int32 × Mm) :=
  (if x1 < (iI 48) then
    rz (iI 0) m
  else
    (if (iI 57) < x1 then
      rz (iI 0) m
    else
      rz (iI 1) m))
set_option maxRecDepth 100000 in
set_option maxHeartbeats 4000000 in
theorem c_X6_isDigit {wn : Nat} (hn : NN ≤ wn) (ll : Launch) (cx : CX) (x1 : Int32) (m : Mm) : MT ll yX6_isDigit cX6_isDigit 1 ((some .boolean)) rm_X6_isDigit cx wn wn Lay cvI 0 0 [.int x1] m (F_X6_isDigit x1 m) := by
  refine MT_of (by decide) (Nat.le_of_ble_eq_true rfl) ?_
  intro pp ee ss mm aa bb me co hK hr hk hn0
  have C : CM pp ss mm aa me co cX6_isDigit 1 RX6 cx ((some .boolean)) := ⟨hK, hr, hk⟩
  show TI pp ll ee rm_X6_isDigit ss mm aa bb me co 1 cx wn 0 [(0, .int x1)] [] m (F_X6_isDigit x1 m)
  unfold F_X6_isDigit
  refine T_iload_n C.1 dX6_isDigit_0 0 rfl ?_
  refine T_bipush C.1 dX6_isDigit_1 rfl ?_
  refine T_icmp_lt (tgt := 16) C.1 dX6_isDigit_3 (by decide) ?_ ?_
  · refine T_iconst C.1 dX6_isDigit_16 ?_
    exact T_zret C.1 C.2.1 C.2.2 dX6_isDigit_17
  · refine T_iload_n C.1 dX6_isDigit_6 0 rfl ?_
    refine T_bipush C.1 dX6_isDigit_7 rfl ?_
    refine T_icmp_gt (tgt := 16) C.1 dX6_isDigit_9 (by decide) ?_ ?_
    · refine T_iconst C.1 dX6_isDigit_16 ?_
      exact T_zret C.1 C.2.1 C.2.2 dX6_isDigit_17
    · refine T_iconst C.1 dX6_isDigit_12 ?_
      refine T_goto (tgt := 17) C.1 dX6_isDigit_13 (by decide) ?_
      exact T_zret C.1 C.2.1 C.2.2 dX6_isDigit_17
def rm_X6_number : Room := { frames := 2, cells := 0, slots := 0, locals := 62 }
def F_X6_number_48  (a1 : Int32) (m : Mm) : Option (Unit × Mm) :=
  gdS (9, 3) (gR m 16 4) fun q1 =>
  bnd (F_X3_write q1 (iI 35) a1 m) fun _ m3 =>
  some ((), m3)
set_option maxRecDepth 100000 in
set_option maxHeartbeats 4000000 in
theorem t_X6_number_48 {wn : Nat} (hn : NN ≤ wn) {pp : Program} {ll : Launch} {ee : Env} {ss : State} {mm : MethodId} {aa : Array Value} {bb : List Frame} {me : Method} {co : Code} {cx : CX}     (C : CM pp ss mm aa me co cX6_number 3 RX6 cx (none))    (a1 : Int32) (m : Mm) : TV pp ll ee rm_X6_number ss mm aa bb me co 3 cx wn 48 [(0, .ref (cx.2.2.1 + 16)), (1, .int a1)] [] m (F_X6_number_48  a1 m) := by
  unfold F_X6_number_48
  refine T_aload_n C.1 dX6_number_48 0 rfl ?_
  refine T_getS C.1 fd_X6_28 (fun _ _ _ _ => rfl) sh16 (Nat.le_trans le16 hn) (by decide) dX6_number_49 (fun q1 hq1 => ?_)
  refine T_bipush C.1 dX6_number_52 rfl ?_
  refine T_iload_n C.1 dX6_number_54 1 rfl ?_
  refine T_callVV (rm := rm_X3_write) [.int (iI 35), .int a1] [] C.1 dX6_number_55 mw_X3_write wm_4_52 wm_4_53 wm_4_54 ⟨Nat.le_of_ble_eq_true rfl, Nat.le_of_ble_eq_true rfl⟩ ⟨rfl, rfl⟩ ⟨Nat.zero_le _, Nat.zero_le _⟩ rfl rfl (Nat.le_of_ble_eq_true rfl) hq1 (Nat.le_trans (shp_le hq1 (by decide)) hn) ⟨rfl, rfl⟩ (c_X3_write hn ll cx q1 (iI 35) a1 m) (fun u2 m3 => ?_)
  exact T_vret C.1 C.2.1 C.2.2 dX6_number_58
def F_X6_number_4  : Nat → Int32 → Int32 → Mm → Option (Unit × Mm)
  | 0, _, _, _ => none
  | f + 1, a1, a2, m =>
    (if (iI 4) ≤ a2 then
      F_X6_number_48 a1 m
    else
      bnd (F_X6_ahead m) fun v1 m2 =>
      bnd (F_X6_isDigit v1 m2) fun v3 m4 =>
      (if v3 = iI 0 then
        F_X6_number_48 a1 m4
      else
        bnd (F_X6_ahead m4) fun v5 m6 =>
        nm (((iI 10) * a1) + (v5 - (iI 48))) fun v7 =>
        nm (pI m6 16 2 ((gI m6 16 2) + (iI 1))) fun m8 =>
        nm (a2 + (iI 1)) fun v9 =>
        F_X6_number_4  f v7 v9 m8))
set_option maxRecDepth 100000 in
set_option maxHeartbeats 4000000 in
theorem t_X6_number_4 {wn : Nat} (hn : NN ≤ wn) {pp : Program} {ll : Launch} {ee : Env} {ss : State} {mm : MethodId} {aa : Array Value} {bb : List Frame} {me : Method} {co : Code} {cx : CX}     (C : CM pp ss mm aa me co cX6_number 3 RX6 cx (none))    : ∀ (f : Nat) (a1 : Int32) (a2 : Int32) (m : Mm), TV pp ll ee rm_X6_number ss mm aa bb me co 3 cx wn 4 [(0, .ref (cx.2.2.1 + 16)), (1, .int a1), (2, .int a2)] [] m (F_X6_number_4  f a1 a2 m) := by
  intro f
  induction f with
  | zero => exact fun _ _ _ => T_none
  | succ f ih =>
    intro a1 a2 m
    unfold F_X6_number_4
    refine T_iload_n C.1 dX6_number_4 2 rfl ?_
    refine T_iconst C.1 dX6_number_5 ?_
    refine T_icmp_ge (tgt := 48) C.1 dX6_number_6 (by decide) ?_ ?_
    · exact T_sub [0, 1] rfl (t_X6_number_48 hn C a1 m)
    · refine T_aload_n C.1 dX6_number_9 0 rfl ?_
      refine T_callVI (rm := rm_X6_ahead) [] [] C.1 dX6_number_10 mw_X6_ahead wm_4_41 wm_4_43 wm_p_24 ⟨Nat.le_of_ble_eq_true rfl, Nat.le_of_ble_eq_true rfl⟩ ⟨rfl, rfl⟩ ⟨Nat.zero_le _, Nat.zero_le _⟩ rfl rfl (Nat.le_of_ble_eq_true rfl) sh16 (Nat.le_trans le16 hn) ⟨rfl, rfl⟩ (c_X6_ahead hn ll cx m) (fun v1 m2 => ?_)
      refine T_callSI (rm := rm_X6_isDigit) [.int v1] [] C.1 dX6_number_13 mw_X6_isDigit wm_4_45 wm_4_46 ⟨Nat.le_of_ble_eq_true rfl, Nat.le_of_ble_eq_true rfl⟩ ⟨rfl, rfl⟩ ⟨Nat.zero_le _, Nat.zero_le _⟩ rfl rfl (Nat.le_of_ble_eq_true rfl) (c_X6_isDigit hn ll cx v1 m2) (fun v3 m4 => ?_)
      refine T_if_eq (tgt := 48) C.1 dX6_number_16 (by decide) ?_ ?_
      · exact T_sub [0, 1] rfl (t_X6_number_48 hn C a1 m4)
      · refine T_bipush C.1 dX6_number_19 rfl ?_
        refine T_iload_n C.1 dX6_number_21 1 rfl ?_
        refine T_imul C.1 dX6_number_22 ?_
        refine T_aload_n C.1 dX6_number_23 0 rfl ?_
        refine T_callVI (rm := rm_X6_ahead) [] [.int ((iI 10) * a1)] C.1 dX6_number_24 mw_X6_ahead wm_4_41 wm_4_43 wm_p_24 ⟨Nat.le_of_ble_eq_true rfl, Nat.le_of_ble_eq_true rfl⟩ ⟨rfl, rfl⟩ ⟨Nat.zero_le _, Nat.zero_le _⟩ rfl rfl (Nat.le_of_ble_eq_true rfl) sh16 (Nat.le_trans le16 hn) ⟨rfl, rfl⟩ (c_X6_ahead hn ll cx m4) (fun v5 m6 => ?_)
        refine T_bipush C.1 dX6_number_27 rfl ?_
        refine T_isub C.1 dX6_number_29 ?_
        refine T_iadd C.1 dX6_number_30 ?_
        refine T_istore_nN C.1 (fun v7 => [(1, .int v7), (0, .ref (cx.2.2.1 + 16)), (2, .int a2)]) dX6_number_31 (by decide) (fun _ => rfl) (fun v7 => ?_)
        refine T_aload_n C.1 dX6_number_32 1 rfl ?_
        refine T_dup C.1 dX6_number_33 rfl ?_
        refine T_getI C.1 fd_X6_19 (fun _ _ _ _ => rfl) sh16 (Nat.le_trans le16 hn) dX6_number_34 ?_
        refine T_iconst C.1 dX6_number_37 ?_
        refine T_iadd C.1 dX6_number_38 ?_
        refine T_putI C.1 LyI_Lay fd_X6_19 sh16 (Nat.le_trans le16 hn) dX6_number_39 (fun m8 => ?_)
        refine T_iincN C.1 (fun v9 => [(2, .int v9), (1, .int v7), (0, .ref (cx.2.2.1 + 16))]) dX6_number_42 2 rfl (by decide) (fun _ => rfl) (fun v9 => ?_)
        refine T_goto (tgt := 4) C.1 dX6_number_45 (by decide) ?_
        exact T_sub [2, 1, 0] rfl (ih v7 v9 m8)
def F_X6_number   (m : Mm) : Option (Unit × Mm) :=
  F_X6_number_4 FU (iI 0) (iI 0) m
set_option maxRecDepth 100000 in
set_option maxHeartbeats 4000000 in
theorem c_X6_number {wn : Nat} (hn : NN ≤ wn) (ll : Launch) (cx : CX)  (m : Mm) : MT ll yX6_number cX6_number 3 (none) rm_X6_number cx wn wn Lay cvV 0 0 [.ref (cx.2.2.1 + 16)] m (F_X6_number  m) := by
  refine MT_of (by decide) (Nat.le_of_ble_eq_true rfl) ?_
  intro pp ee ss mm aa bb me co hK hr hk hn0
  have C : CM pp ss mm aa me co cX6_number 3 RX6 cx (none) := ⟨hK, hr, hk⟩
  show TV pp ll ee rm_X6_number ss mm aa bb me co 3 cx wn 0 [(0, .ref (cx.2.2.1 + 16))] [] m (F_X6_number  m)
  unfold F_X6_number
  refine T_iconst C.1 dX6_number_0 ?_
  refine T_istore_n (lv' := [(1, .int (iI 0)), (0, .ref (cx.2.2.1 + 16))]) C.1 dX6_number_1 (by decide) rfl ?_
  refine T_iconst C.1 dX6_number_2 ?_
  refine T_istore_n (lv' := [(2, .int (iI 0)), (1, .int (iI 0)), (0, .ref (cx.2.2.1 + 16))]) C.1 dX6_number_3 (by decide) rfl ?_
  exact T_sub [2, 1, 0] rfl (t_X6_number_4 hn C FU (iI 0) (iI 0) m)
def rm_X6_write : Room := { frames := 2, cells := 0, slots := 0, locals := 62 }
def F_X6_write  (x1 : Int32) (m : Mm) : Option (Unit × Mm) :=
  gdS (9, 3) (gR m 16 4) fun q1 =>
  bnd (F_X3_write q1 x1 (iI 0) m) fun _ m3 =>
  some ((), m3)
set_option maxRecDepth 100000 in
set_option maxHeartbeats 4000000 in
theorem c_X6_write {wn : Nat} (hn : NN ≤ wn) (ll : Launch) (cx : CX) (x1 : Int32) (m : Mm) : MT ll yX6_write cX6_write 2 (none) rm_X6_write cx wn wn Lay cvV 0 0 [.ref (cx.2.2.1 + 16), .int x1] m (F_X6_write x1 m) := by
  refine MT_of (by decide) (Nat.le_of_ble_eq_true rfl) ?_
  intro pp ee ss mm aa bb me co hK hr hk hn0
  have C : CM pp ss mm aa me co cX6_write 2 RX6 cx (none) := ⟨hK, hr, hk⟩
  show TV pp ll ee rm_X6_write ss mm aa bb me co 2 cx wn 0 [(0, .ref (cx.2.2.1 + 16)), (1, .int x1)] [] m (F_X6_write x1 m)
  unfold F_X6_write
  refine T_aload_n C.1 dX6_write_0 0 rfl ?_
  refine T_getS C.1 fd_X6_28 (fun _ _ _ _ => rfl) sh16 (Nat.le_trans le16 hn) (by decide) dX6_write_1 (fun q1 hq1 => ?_)
  refine T_iload_n C.1 dX6_write_4 1 rfl ?_
  refine T_iconst C.1 dX6_write_5 ?_
  refine T_callVV (rm := rm_X3_write) [.int x1, .int (iI 0)] [] C.1 dX6_write_6 mw_X3_write wm_4_52 wm_4_53 wm_4_54 ⟨Nat.le_of_ble_eq_true rfl, Nat.le_of_ble_eq_true rfl⟩ ⟨rfl, rfl⟩ ⟨Nat.zero_le _, Nat.zero_le _⟩ rfl rfl (Nat.le_of_ble_eq_true rfl) hq1 (Nat.le_trans (shp_le hq1 (by decide)) hn) ⟨rfl, rfl⟩ (c_X3_write hn ll cx q1 x1 (iI 0) m) (fun u2 m3 => ?_)
  exact T_vret C.1 C.2.1 C.2.2 dX6_write_9
def rmS_55 (d : Nat) : Room := { frames := 3 + d, cells := 0, slots := 0, locals := 84 + 23 * d }
def F_X6_both_7 (f_X6_compared : Int32 → Mm → Option (Unit × Mm)) : Nat → Int32 → Int32 → Mm → Option (Unit × Mm)
  | 0, _, _, _ => none
  | f + 1, a1, a2, m =>
    (if (iI 120) ≤ a2 then
      some ((), m)
    else
      bnd (F_X6_comes (iI 38) m) fun v1 m2 =>
      (if v1 = iI 0 then
        some ((), m2)
      else
        bnd (f_X6_compared a1 m2) fun _ m4 =>
        bnd (F_X6_write (iI 38) m4) fun _ m6 =>
        nm (a2 + (iI 1)) fun v7 =>
        F_X6_both_7 f_X6_compared f a1 v7 m6))
set_option maxRecDepth 100000 in
set_option maxHeartbeats 4000000 in
theorem t_X6_both_7 {wn : Nat} (hn : NN ≤ wn) {pp : Program} {ll : Launch} {ee : Env} {ss : State} {mm : MethodId} {aa : Array Value} {bb : List Frame} {me : Method} {co : Code} {cx : CX} {dd : Nat}  {f_X6_compared : Int32 → Mm → Option (Unit × Mm)}  (C : CM pp ss mm aa me co cX6_both 3 RX6 cx (none))  (hf_X6_compared : ∀ (x1 : Int32) (m : Mm), MT ll yX6_compared cX6_compared 3 (none) (rmS_55 dd) cx wn wn Lay cvV 0 0 [.ref (cx.2.2.1 + 16), .int x1] m (f_X6_compared x1 m))   : ∀ (f : Nat) (a1 : Int32) (a2 : Int32) (m : Mm), TV pp ll ee (rmS_55 (dd + 1)) ss mm aa bb me co 3 cx wn 7 [(0, .ref (cx.2.2.1 + 16)), (1, .int a1), (2, .int a2)] [] m (F_X6_both_7 f_X6_compared f a1 a2 m) := by
  intro f
  induction f with
  | zero => exact fun _ _ _ => T_none
  | succ f ih =>
    intro a1 a2 m
    unfold F_X6_both_7
    refine T_iload_n C.1 dX6_both_7 2 rfl ?_
    refine T_bipush C.1 dX6_both_8 rfl ?_
    refine T_icmp_ge (tgt := 39) C.1 dX6_both_10 (by decide) ?_ ?_
    · exact T_vret C.1 C.2.1 C.2.2 dX6_both_39
    · refine T_aload_n C.1 dX6_both_13 0 rfl ?_
      refine T_bipush C.1 dX6_both_14 rfl ?_
      refine T_callVI (rm := rm_X6_comes) [.int (iI 38)] [] C.1 dX6_both_16 mw_X6_comes wm_4_67 wm_4_69 wm_p_28 (by constructor <;> (simp only [rmS_55, rm_X6_comes]; omega)) ⟨rfl, rfl⟩ ⟨Nat.zero_le _, Nat.zero_le _⟩ rfl rfl (Nat.le_of_ble_eq_true rfl) sh16 (Nat.le_trans le16 hn) ⟨rfl, rfl⟩ (c_X6_comes hn ll cx (iI 38) m) (fun v1 m2 => ?_)
      refine T_if_eq (tgt := 39) C.1 dX6_both_19 (by decide) ?_ ?_
      · exact T_vret C.1 C.2.1 C.2.2 dX6_both_39
      · refine T_aload_n C.1 dX6_both_22 0 rfl ?_
        refine T_iload_n C.1 dX6_both_23 1 rfl ?_
        refine T_callVV (rm := (rmS_55 dd)) [.int a1] [] C.1 dX6_both_24 mw_X6_compared wm_4_25 wm_4_27 wm_p_20 (by constructor <;> (simp only [rmS_55]; omega)) ⟨rfl, rfl⟩ ⟨Nat.zero_le _, Nat.zero_le _⟩ rfl rfl (Nat.le_of_ble_eq_true rfl) sh16 (Nat.le_trans le16 hn) ⟨rfl, rfl⟩ (hf_X6_compared a1 m2) (fun u3 m4 => ?_)
        refine T_aload_n C.1 dX6_both_27 0 rfl ?_
        refine T_bipush C.1 dX6_both_28 rfl ?_
        refine T_callVV (rm := rm_X6_write) [.int (iI 38)] [] C.1 dX6_both_30 mw_X6_write wm_4_63 wm_4_65 wm_p_27 (by constructor <;> (simp only [rmS_55, rm_X6_write]; omega)) ⟨rfl, rfl⟩ ⟨Nat.zero_le _, Nat.zero_le _⟩ rfl rfl (Nat.le_of_ble_eq_true rfl) sh16 (Nat.le_trans le16 hn) ⟨rfl, rfl⟩ (c_X6_write hn ll cx (iI 38) m4) (fun u5 m6 => ?_)
        refine T_iincN C.1 (fun v7 => [(2, .int v7), (0, .ref (cx.2.2.1 + 16)), (1, .int a1)]) dX6_both_33 2 rfl (by decide) (fun _ => rfl) (fun v7 => ?_)
        refine T_goto (tgt := 7) C.1 dX6_both_36 (by decide) ?_
        exact T_sub [1, 2, 0] rfl (ih a1 v7 m6)
def B_X6_both (f_X6_compared : Int32 → Mm → Option (Unit × Mm)) (x1 : Int32) (m : Mm) : Option (Unit × Mm) :=
  bnd (f_X6_compared x1 m) fun _ m2 =>
  F_X6_both_7 f_X6_compared FU x1 (iI 0) m2
set_option maxRecDepth 100000 in
set_option maxHeartbeats 4000000 in
theorem b_X6_both {wn : Nat} (hn : NN ≤ wn) {ll : Launch} {cx : CX} {dd : Nat} (f_X6_compared : Int32 → Mm → Option (Unit × Mm)) (hf_X6_compared : ∀ (x1 : Int32) (m : Mm), MT ll yX6_compared cX6_compared 3 (none) (rmS_55 dd) cx wn wn Lay cvV 0 0 [.ref (cx.2.2.1 + 16), .int x1] m (f_X6_compared x1 m))  (x1 : Int32) (m : Mm) : MT ll yX6_both cX6_both 3 (none) (rmS_55 (dd + 1)) cx wn wn Lay cvV 0 0 [.ref (cx.2.2.1 + 16), .int x1] m (B_X6_both f_X6_compared x1 m) := by
  refine MT_of (by decide) (Nat.le_of_ble_eq_true rfl) ?_
  intro pp ee ss mm aa bb me co hK hr hk hn0
  have C : CM pp ss mm aa me co cX6_both 3 RX6 cx (none) := ⟨hK, hr, hk⟩
  show TV pp ll ee (rmS_55 (dd + 1)) ss mm aa bb me co 3 cx wn 0 [(0, .ref (cx.2.2.1 + 16)), (1, .int x1)] [] m (B_X6_both f_X6_compared x1 m)
  unfold B_X6_both
  refine T_aload_n C.1 dX6_both_0 0 rfl ?_
  refine T_iload_n C.1 dX6_both_1 1 rfl ?_
  refine T_callVV (rm := (rmS_55 dd)) [.int x1] [] C.1 dX6_both_2 mw_X6_compared wm_4_25 wm_4_27 wm_p_20 (by constructor <;> (simp only [rmS_55]; omega)) ⟨rfl, rfl⟩ ⟨Nat.zero_le _, Nat.zero_le _⟩ rfl rfl (Nat.le_of_ble_eq_true rfl) sh16 (Nat.le_trans le16 hn) ⟨rfl, rfl⟩ (hf_X6_compared x1 m) (fun u1 m2 => ?_)
  refine T_iconst C.1 dX6_both_5 ?_
  refine T_istore_n (lv' := [(2, .int (iI 0)), (0, .ref (cx.2.2.1 + 16)), (1, .int x1)]) C.1 dX6_both_6 (by decide) rfl ?_
  exact T_sub [1, 2, 0] rfl (t_X6_both_7 hn C hf_X6_compared FU x1 (iI 0) m2)
def F_X6_compared_28 (f_X6_sum : Int32 → Mm → Option (Unit × Mm)) (a1 : Int32) (a2 : Int32) (m : Mm) : Option (Unit × Mm) :=
  nm (pI m 16 2 ((gI m 16 2) + (iI 1))) fun m1 =>
  bnd (f_X6_sum a1 m1) fun _ m3 =>
  bnd (F_X6_write ((a2.toUInt32 % 65536).toInt32) m3) fun _ m5 =>
  some ((), m5)
set_option maxRecDepth 100000 in
set_option maxHeartbeats 4000000 in
theorem t_X6_compared_28 {wn : Nat} (hn : NN ≤ wn) {pp : Program} {ll : Launch} {ee : Env} {ss : State} {mm : MethodId} {aa : Array Value} {bb : List Frame} {me : Method} {co : Code} {cx : CX} {dd : Nat}  {f_X6_sum : Int32 → Mm → Option (Unit × Mm)}  (C : CM pp ss mm aa me co cX6_compared 3 RX6 cx (none))  (hf_X6_sum : ∀ (x1 : Int32) (m : Mm), MT ll yX6_sum cX6_sum 4 (none) (rmS_55 dd) cx wn wn Lay cvV 0 0 [.ref (cx.2.2.1 + 16), .int x1] m (f_X6_sum x1 m))   (a1 : Int32) (a2 : Int32) (m : Mm) : TV pp ll ee (rmS_55 (dd + 1)) ss mm aa bb me co 3 cx wn 28 [(0, .ref (cx.2.2.1 + 16)), (1, .int a1), (2, .int a2)] [] m (F_X6_compared_28 f_X6_sum a1 a2 m) := by
  unfold F_X6_compared_28
  refine T_aload_n C.1 dX6_compared_28 0 rfl ?_
  refine T_dup C.1 dX6_compared_29 rfl ?_
  refine T_getI C.1 fd_X6_19 (fun _ _ _ _ => rfl) sh16 (Nat.le_trans le16 hn) dX6_compared_30 ?_
  refine T_iconst C.1 dX6_compared_33 ?_
  refine T_iadd C.1 dX6_compared_34 ?_
  refine T_putI C.1 LyI_Lay fd_X6_19 sh16 (Nat.le_trans le16 hn) dX6_compared_35 (fun m1 => ?_)
  refine T_aload_n C.1 dX6_compared_38 0 rfl ?_
  refine T_iload_n C.1 dX6_compared_39 1 rfl ?_
  refine T_callVV (rm := (rmS_55 dd)) [.int a1] [] C.1 dX6_compared_40 mw_X6_sum wm_4_29 wm_4_31 wm_p_21 (by constructor <;> (simp only [rmS_55]; omega)) ⟨rfl, rfl⟩ ⟨Nat.zero_le _, Nat.zero_le _⟩ rfl rfl (Nat.le_of_ble_eq_true rfl) sh16 (Nat.le_trans le16 hn) ⟨rfl, rfl⟩ (hf_X6_sum a1 m1) (fun u2 m3 => ?_)
  refine T_aload_n C.1 dX6_compared_43 0 rfl ?_
  refine T_iload_n C.1 dX6_compared_44 2 rfl ?_
  refine T_i2c C.1 dX6_compared_45 ?_
  refine T_callVV (rm := rm_X6_write) [.int ((a2.toUInt32 % 65536).toInt32)] [] C.1 dX6_compared_46 mw_X6_write wm_4_63 wm_4_65 wm_p_27 (by constructor <;> (simp only [rmS_55, rm_X6_write]; omega)) ⟨rfl, rfl⟩ ⟨Nat.zero_le _, Nat.zero_le _⟩ rfl rfl (Nat.le_of_ble_eq_true rfl) sh16 (Nat.le_trans le16 hn) ⟨rfl, rfl⟩ (c_X6_write hn ll cx ((a2.toUInt32 % 65536).toInt32) m3) (fun u4 m5 => ?_)
  exact T_vret C.1 C.2.1 C.2.2 dX6_compared_49
def B_X6_compared (f_X6_sum : Int32 → Mm → Option (Unit × Mm)) (x1 : Int32) (m : Mm) : Option (Unit × Mm) :=
  bnd (f_X6_sum x1 m) fun _ m2 =>
  bnd (F_X6_ahead m2) fun v3 m4 =>
  (if v3 = (iI 60) then
    F_X6_compared_28 f_X6_sum x1 v3 m4
  else
    (if v3 = (iI 61) then
      F_X6_compared_28 f_X6_sum x1 v3 m4
    else
      (if v3 = (iI 62) then
        F_X6_compared_28 f_X6_sum x1 v3 m4
      else
        some ((), m4))))
set_option maxRecDepth 100000 in
set_option maxHeartbeats 4000000 in
theorem b_X6_compared {wn : Nat} (hn : NN ≤ wn) {ll : Launch} {cx : CX} {dd : Nat} (f_X6_sum : Int32 → Mm → Option (Unit × Mm)) (hf_X6_sum : ∀ (x1 : Int32) (m : Mm), MT ll yX6_sum cX6_sum 4 (none) (rmS_55 dd) cx wn wn Lay cvV 0 0 [.ref (cx.2.2.1 + 16), .int x1] m (f_X6_sum x1 m))  (x1 : Int32) (m : Mm) : MT ll yX6_compared cX6_compared 3 (none) (rmS_55 (dd + 1)) cx wn wn Lay cvV 0 0 [.ref (cx.2.2.1 + 16), .int x1] m (B_X6_compared f_X6_sum x1 m) := by
  refine MT_of (by decide) (Nat.le_of_ble_eq_true rfl) ?_
  intro pp ee ss mm aa bb me co hK hr hk hn0
  have C : CM pp ss mm aa me co cX6_compared 3 RX6 cx (none) := ⟨hK, hr, hk⟩
  show TV pp ll ee (rmS_55 (dd + 1)) ss mm aa bb me co 3 cx wn 0 [(0, .ref (cx.2.2.1 + 16)), (1, .int x1)] [] m (B_X6_compared f_X6_sum x1 m)
  unfold B_X6_compared
  refine T_aload_n C.1 dX6_compared_0 0 rfl ?_
  refine T_iload_n C.1 dX6_compared_1 1 rfl ?_
  refine T_callVV (rm := (rmS_55 dd)) [.int x1] [] C.1 dX6_compared_2 mw_X6_sum wm_4_29 wm_4_31 wm_p_21 (by constructor <;> (simp only [rmS_55]; omega)) ⟨rfl, rfl⟩ ⟨Nat.zero_le _, Nat.zero_le _⟩ rfl rfl (Nat.le_of_ble_eq_true rfl) sh16 (Nat.le_trans le16 hn) ⟨rfl, rfl⟩ (hf_X6_sum x1 m) (fun u1 m2 => ?_)
  refine T_aload_n C.1 dX6_compared_5 0 rfl ?_
  refine T_callVI (rm := rm_X6_ahead) [] [] C.1 dX6_compared_6 mw_X6_ahead wm_4_41 wm_4_43 wm_p_24 (by constructor <;> (simp only [rmS_55, rm_X6_ahead]; omega)) ⟨rfl, rfl⟩ ⟨Nat.zero_le _, Nat.zero_le _⟩ rfl rfl (Nat.le_of_ble_eq_true rfl) sh16 (Nat.le_trans le16 hn) ⟨rfl, rfl⟩ (c_X6_ahead hn ll cx m2) (fun v3 m4 => ?_)
  refine T_istore_n (lv' := [(2, .int v3), (0, .ref (cx.2.2.1 + 16)), (1, .int x1)]) C.1 dX6_compared_9 (by decide) rfl ?_
  refine T_iload_n C.1 dX6_compared_10 0 rfl ?_
  refine T_bipush C.1 dX6_compared_11 rfl ?_
  refine T_icmp_eq (tgt := 28) C.1 dX6_compared_13 (by decide) ?_ ?_
  · exact T_sub [1, 2, 0] rfl (t_X6_compared_28 hn C hf_X6_sum x1 v3 m4)
  · refine T_iload_n C.1 dX6_compared_16 0 rfl ?_
    refine T_bipush C.1 dX6_compared_17 rfl ?_
    refine T_icmp_eq (tgt := 28) C.1 dX6_compared_19 (by decide) ?_ ?_
    · exact T_sub [1, 2, 0] rfl (t_X6_compared_28 hn C hf_X6_sum x1 v3 m4)
    · refine T_iload_n C.1 dX6_compared_22 0 rfl ?_
      refine T_bipush C.1 dX6_compared_23 rfl ?_
      refine T_icmp_ne (tgt := 49) C.1 dX6_compared_25 (by decide) ?_ ?_
      · exact T_vret C.1 C.2.1 C.2.2 dX6_compared_49
      · exact T_sub [1, 2, 0] rfl (t_X6_compared_28 hn C hf_X6_sum x1 v3 m4)
def F_X6_either_7 (f_X6_both : Int32 → Mm → Option (Unit × Mm)) : Nat → Int32 → Int32 → Mm → Option (Unit × Mm)
  | 0, _, _, _ => none
  | f + 1, a1, a2, m =>
    (if (iI 120) ≤ a2 then
      some ((), m)
    else
      bnd (F_X6_comes (iI 124) m) fun v1 m2 =>
      (if v1 = iI 0 then
        some ((), m2)
      else
        bnd (f_X6_both a1 m2) fun _ m4 =>
        bnd (F_X6_write (iI 124) m4) fun _ m6 =>
        nm (a2 + (iI 1)) fun v7 =>
        F_X6_either_7 f_X6_both f a1 v7 m6))
set_option maxRecDepth 100000 in
set_option maxHeartbeats 4000000 in
theorem t_X6_either_7 {wn : Nat} (hn : NN ≤ wn) {pp : Program} {ll : Launch} {ee : Env} {ss : State} {mm : MethodId} {aa : Array Value} {bb : List Frame} {me : Method} {co : Code} {cx : CX} {dd : Nat}  {f_X6_both : Int32 → Mm → Option (Unit × Mm)}  (C : CM pp ss mm aa me co cX6_either 3 RX6 cx (none))  (hf_X6_both : ∀ (x1 : Int32) (m : Mm), MT ll yX6_both cX6_both 3 (none) (rmS_55 dd) cx wn wn Lay cvV 0 0 [.ref (cx.2.2.1 + 16), .int x1] m (f_X6_both x1 m))   : ∀ (f : Nat) (a1 : Int32) (a2 : Int32) (m : Mm), TV pp ll ee (rmS_55 (dd + 1)) ss mm aa bb me co 3 cx wn 7 [(0, .ref (cx.2.2.1 + 16)), (1, .int a1), (2, .int a2)] [] m (F_X6_either_7 f_X6_both f a1 a2 m) := by
  intro f
  induction f with
  | zero => exact fun _ _ _ => T_none
  | succ f ih =>
    intro a1 a2 m
    unfold F_X6_either_7
    refine T_iload_n C.1 dX6_either_7 2 rfl ?_
    refine T_bipush C.1 dX6_either_8 rfl ?_
    refine T_icmp_ge (tgt := 39) C.1 dX6_either_10 (by decide) ?_ ?_
    · exact T_vret C.1 C.2.1 C.2.2 dX6_either_39
    · refine T_aload_n C.1 dX6_either_13 0 rfl ?_
      refine T_bipush C.1 dX6_either_14 rfl ?_
      refine T_callVI (rm := rm_X6_comes) [.int (iI 124)] [] C.1 dX6_either_16 mw_X6_comes wm_4_67 wm_4_69 wm_p_28 (by constructor <;> (simp only [rmS_55, rm_X6_comes]; omega)) ⟨rfl, rfl⟩ ⟨Nat.zero_le _, Nat.zero_le _⟩ rfl rfl (Nat.le_of_ble_eq_true rfl) sh16 (Nat.le_trans le16 hn) ⟨rfl, rfl⟩ (c_X6_comes hn ll cx (iI 124) m) (fun v1 m2 => ?_)
      refine T_if_eq (tgt := 39) C.1 dX6_either_19 (by decide) ?_ ?_
      · exact T_vret C.1 C.2.1 C.2.2 dX6_either_39
      · refine T_aload_n C.1 dX6_either_22 0 rfl ?_
        refine T_iload_n C.1 dX6_either_23 1 rfl ?_
        refine T_callVV (rm := (rmS_55 dd)) [.int a1] [] C.1 dX6_either_24 mw_X6_both wm_4_21 wm_4_23 wm_p_19 (by constructor <;> (simp only [rmS_55]; omega)) ⟨rfl, rfl⟩ ⟨Nat.zero_le _, Nat.zero_le _⟩ rfl rfl (Nat.le_of_ble_eq_true rfl) sh16 (Nat.le_trans le16 hn) ⟨rfl, rfl⟩ (hf_X6_both a1 m2) (fun u3 m4 => ?_)
        refine T_aload_n C.1 dX6_either_27 0 rfl ?_
        refine T_bipush C.1 dX6_either_28 rfl ?_
        refine T_callVV (rm := rm_X6_write) [.int (iI 124)] [] C.1 dX6_either_30 mw_X6_write wm_4_63 wm_4_65 wm_p_27 (by constructor <;> (simp only [rmS_55, rm_X6_write]; omega)) ⟨rfl, rfl⟩ ⟨Nat.zero_le _, Nat.zero_le _⟩ rfl rfl (Nat.le_of_ble_eq_true rfl) sh16 (Nat.le_trans le16 hn) ⟨rfl, rfl⟩ (c_X6_write hn ll cx (iI 124) m4) (fun u5 m6 => ?_)
        refine T_iincN C.1 (fun v7 => [(2, .int v7), (0, .ref (cx.2.2.1 + 16)), (1, .int a1)]) dX6_either_33 2 rfl (by decide) (fun _ => rfl) (fun v7 => ?_)
        refine T_goto (tgt := 7) C.1 dX6_either_36 (by decide) ?_
        exact T_sub [1, 2, 0] rfl (ih a1 v7 m6)
def B_X6_either (f_X6_both : Int32 → Mm → Option (Unit × Mm)) (x1 : Int32) (m : Mm) : Option (Unit × Mm) :=
  bnd (f_X6_both x1 m) fun _ m2 =>
  F_X6_either_7 f_X6_both FU x1 (iI 0) m2
set_option maxRecDepth 100000 in
set_option maxHeartbeats 4000000 in
theorem b_X6_either {wn : Nat} (hn : NN ≤ wn) {ll : Launch} {cx : CX} {dd : Nat} (f_X6_both : Int32 → Mm → Option (Unit × Mm)) (hf_X6_both : ∀ (x1 : Int32) (m : Mm), MT ll yX6_both cX6_both 3 (none) (rmS_55 dd) cx wn wn Lay cvV 0 0 [.ref (cx.2.2.1 + 16), .int x1] m (f_X6_both x1 m))  (x1 : Int32) (m : Mm) : MT ll yX6_either cX6_either 3 (none) (rmS_55 (dd + 1)) cx wn wn Lay cvV 0 0 [.ref (cx.2.2.1 + 16), .int x1] m (B_X6_either f_X6_both x1 m) := by
  refine MT_of (by decide) (Nat.le_of_ble_eq_true rfl) ?_
  intro pp ee ss mm aa bb me co hK hr hk hn0
  have C : CM pp ss mm aa me co cX6_either 3 RX6 cx (none) := ⟨hK, hr, hk⟩
  show TV pp ll ee (rmS_55 (dd + 1)) ss mm aa bb me co 3 cx wn 0 [(0, .ref (cx.2.2.1 + 16)), (1, .int x1)] [] m (B_X6_either f_X6_both x1 m)
  unfold B_X6_either
  refine T_aload_n C.1 dX6_either_0 0 rfl ?_
  refine T_iload_n C.1 dX6_either_1 1 rfl ?_
  refine T_callVV (rm := (rmS_55 dd)) [.int x1] [] C.1 dX6_either_2 mw_X6_both wm_4_21 wm_4_23 wm_p_19 (by constructor <;> (simp only [rmS_55]; omega)) ⟨rfl, rfl⟩ ⟨Nat.zero_le _, Nat.zero_le _⟩ rfl rfl (Nat.le_of_ble_eq_true rfl) sh16 (Nat.le_trans le16 hn) ⟨rfl, rfl⟩ (hf_X6_both x1 m) (fun u1 m2 => ?_)
  refine T_iconst C.1 dX6_either_5 ?_
  refine T_istore_n (lv' := [(2, .int (iI 0)), (0, .ref (cx.2.2.1 + 16)), (1, .int x1)]) C.1 dX6_either_6 (by decide) rfl ?_
  exact T_sub [1, 2, 0] rfl (t_X6_either_7 hn C hf_X6_both FU x1 (iI 0) m2)
def F_X6_operand_109 (f_X6_either : Int32 → Mm → Option (Unit × Mm)) (f_X6_operand : Int32 → Mm → Option (Unit × Mm)) (a1 : Int32) (m : Mm) : Option (Unit × Mm) :=
  bnd (F_X6_write a1 m) fun _ m2 =>
  some ((), m2)
set_option maxRecDepth 100000 in
set_option maxHeartbeats 4000000 in
theorem t_X6_operand_109 {wn : Nat} (hn : NN ≤ wn) {pp : Program} {ll : Launch} {ee : Env} {ss : State} {mm : MethodId} {aa : Array Value} {bb : List Frame} {me : Method} {co : Code} {cx : CX} {dd : Nat}  {f_X6_either : Int32 → Mm → Option (Unit × Mm)} {f_X6_operand : Int32 → Mm → Option (Unit × Mm)}  (C : CM pp ss mm aa me co cX6_operand 3 RX6 cx (none))  (hf_X6_either : ∀ (x1 : Int32) (m : Mm), MT ll yX6_either cX6_either 3 (none) (rmS_55 dd) cx wn wn Lay cvV 0 0 [.ref (cx.2.2.1 + 16), .int x1] m (f_X6_either x1 m)) (hf_X6_operand : ∀ (x1 : Int32) (m : Mm), MT ll yX6_operand cX6_operand 3 (none) (rmS_55 dd) cx wn wn Lay cvV 0 0 [.ref (cx.2.2.1 + 16), .int x1] m (f_X6_operand x1 m))   (a1 : Int32) (m : Mm) : TV pp ll ee (rmS_55 (dd + 1)) ss mm aa bb me co 3 cx wn 109 [] [.int a1, .ref (cx.2.2.1 + 16)] m (F_X6_operand_109 f_X6_either f_X6_operand a1 m) := by
  unfold F_X6_operand_109
  refine T_callVV (rm := rm_X6_write) [.int a1] [] C.1 dX6_operand_109 mw_X6_write wm_4_63 wm_4_65 wm_p_27 (by constructor <;> (simp only [rmS_55, rm_X6_write]; omega)) ⟨rfl, rfl⟩ ⟨Nat.zero_le _, Nat.zero_le _⟩ rfl rfl (Nat.le_of_ble_eq_true rfl) sh16 (Nat.le_trans le16 hn) ⟨rfl, rfl⟩ (c_X6_write hn ll cx a1 m) (fun u1 m2 => ?_)
  refine T_goto (tgt := 158) C.1 dX6_operand_112 (by decide) ?_
  exact T_vret C.1 C.2.1 C.2.2 dX6_operand_158
def F_X6_operand_78 (f_X6_either : Int32 → Mm → Option (Unit × Mm)) (f_X6_operand : Int32 → Mm → Option (Unit × Mm)) (a1 : Int32) (a2 : Int32) (m : Mm) : Option (Unit × Mm) :=
  nm (pI m 16 2 ((gI m 16 2) + (iI 1))) fun m1 =>
  bnd (f_X6_operand (a1 + (iI 1)) m1) fun _ m3 =>
  (if a2 = (iI 45) then
    F_X6_operand_109 f_X6_either f_X6_operand (iI 126) m3
  else
    F_X6_operand_109 f_X6_either f_X6_operand (iI 33) m3)
set_option maxRecDepth 100000 in
set_option maxHeartbeats 4000000 in
theorem t_X6_operand_78 {wn : Nat} (hn : NN ≤ wn) {pp : Program} {ll : Launch} {ee : Env} {ss : State} {mm : MethodId} {aa : Array Value} {bb : List Frame} {me : Method} {co : Code} {cx : CX} {dd : Nat}  {f_X6_either : Int32 → Mm → Option (Unit × Mm)} {f_X6_operand : Int32 → Mm → Option (Unit × Mm)}  (C : CM pp ss mm aa me co cX6_operand 3 RX6 cx (none))  (hf_X6_either : ∀ (x1 : Int32) (m : Mm), MT ll yX6_either cX6_either 3 (none) (rmS_55 dd) cx wn wn Lay cvV 0 0 [.ref (cx.2.2.1 + 16), .int x1] m (f_X6_either x1 m)) (hf_X6_operand : ∀ (x1 : Int32) (m : Mm), MT ll yX6_operand cX6_operand 3 (none) (rmS_55 dd) cx wn wn Lay cvV 0 0 [.ref (cx.2.2.1 + 16), .int x1] m (f_X6_operand x1 m))   (a1 : Int32) (a2 : Int32) (m : Mm) : TV pp ll ee (rmS_55 (dd + 1)) ss mm aa bb me co 3 cx wn 78 [(0, .ref (cx.2.2.1 + 16)), (1, .int a1), (2, .int a2)] [] m (F_X6_operand_78 f_X6_either f_X6_operand a1 a2 m) := by
  unfold F_X6_operand_78
  refine T_aload_n C.1 dX6_operand_78 0 rfl ?_
  refine T_dup C.1 dX6_operand_79 rfl ?_
  refine T_getI C.1 fd_X6_19 (fun _ _ _ _ => rfl) sh16 (Nat.le_trans le16 hn) dX6_operand_80 ?_
  refine T_iconst C.1 dX6_operand_83 ?_
  refine T_iadd C.1 dX6_operand_84 ?_
  refine T_putI C.1 LyI_Lay fd_X6_19 sh16 (Nat.le_trans le16 hn) dX6_operand_85 (fun m1 => ?_)
  refine T_aload_n C.1 dX6_operand_88 0 rfl ?_
  refine T_iload_n C.1 dX6_operand_89 1 rfl ?_
  refine T_iconst C.1 dX6_operand_90 ?_
  refine T_iadd C.1 dX6_operand_91 ?_
  refine T_callVV (rm := (rmS_55 dd)) [.int (a1 + (iI 1))] [] C.1 dX6_operand_92 mw_X6_operand wm_4_37 wm_4_39 wm_p_23 (by constructor <;> (simp only [rmS_55]; omega)) ⟨rfl, rfl⟩ ⟨Nat.zero_le _, Nat.zero_le _⟩ rfl rfl (Nat.le_of_ble_eq_true rfl) sh16 (Nat.le_trans le16 hn) ⟨rfl, rfl⟩ (hf_X6_operand (a1 + (iI 1)) m1) (fun u2 m3 => ?_)
  refine T_aload_n C.1 dX6_operand_95 0 rfl ?_
  refine T_iload_n C.1 dX6_operand_96 2 rfl ?_
  refine T_bipush C.1 dX6_operand_97 rfl ?_
  refine T_icmp_ne (tgt := 107) C.1 dX6_operand_99 (by decide) ?_ ?_
  · refine T_bipush C.1 dX6_operand_107 rfl ?_
    exact T_sub [] rfl (t_X6_operand_109 hn C hf_X6_either hf_X6_operand (iI 33) m3)
  · refine T_bipush C.1 dX6_operand_102 rfl ?_
    refine T_goto (tgt := 109) C.1 dX6_operand_104 (by decide) ?_
    exact T_sub [] rfl (t_X6_operand_109 hn C hf_X6_either hf_X6_operand (iI 126) m3)
def B_X6_operand (f_X6_either : Int32 → Mm → Option (Unit × Mm)) (f_X6_operand : Int32 → Mm → Option (Unit × Mm)) (x1 : Int32) (m : Mm) : Option (Unit × Mm) :=
  bnd (F_X6_ahead m) fun v1 m2 =>
  bnd (F_X6_isDigit v1 m2) fun v3 m4 =>
  (if v3 = iI 0 then
    bnd (F_X3_nameOf v1 m4) fun v5 m6 =>
    (if v5 = (iI (-1)) then
      (if x1 < (iI 6) then
        (if v1 = (iI 33) then
          F_X6_operand_78 f_X6_either f_X6_operand x1 v1 m6
        else
          (if v1 = (iI 45) then
            F_X6_operand_78 f_X6_either f_X6_operand x1 v1 m6
          else
            (if v1 = (iI 40) then
              nm (pI m6 16 2 ((gI m6 16 2) + (iI 1))) fun m9 =>
              bnd (f_X6_either (x1 + (iI 1)) m9) fun _ m11 =>
              bnd (F_X6_comes (iI 41) m11) fun v12 m13 =>
              (if v12 = iI 0 then
                bnd (F_X6_fail m13) fun _ m15 =>
                some ((), m15)
              else
                some ((), m13))
            else
              bnd (F_X6_fail m6) fun _ m8 =>
              some ((), m8))))
      else
        bnd (F_X6_fail m6) fun _ m17 =>
        some ((), m17))
    else
      nm (pI m6 16 2 ((gI m6 16 2) + (iI 1))) fun m18 =>
      gdS (9, 3) (gR m18 16 4) fun q19 =>
      bnd (F_X3_nameOf v1 m18) fun v20 m21 =>
      bnd (F_X3_write q19 (iI 36) v20 m21) fun _ m23 =>
      some ((), m23))
  else
    bnd (F_X6_number m4) fun _ m25 =>
    some ((), m25))
set_option maxRecDepth 100000 in
set_option maxHeartbeats 4000000 in
theorem b_X6_operand {wn : Nat} (hn : NN ≤ wn) {ll : Launch} {cx : CX} {dd : Nat} (f_X6_either : Int32 → Mm → Option (Unit × Mm)) (f_X6_operand : Int32 → Mm → Option (Unit × Mm)) (hf_X6_either : ∀ (x1 : Int32) (m : Mm), MT ll yX6_either cX6_either 3 (none) (rmS_55 dd) cx wn wn Lay cvV 0 0 [.ref (cx.2.2.1 + 16), .int x1] m (f_X6_either x1 m)) (hf_X6_operand : ∀ (x1 : Int32) (m : Mm), MT ll yX6_operand cX6_operand 3 (none) (rmS_55 dd) cx wn wn Lay cvV 0 0 [.ref (cx.2.2.1 + 16), .int x1] m (f_X6_operand x1 m))  (x1 : Int32) (m : Mm) : MT ll yX6_operand cX6_operand 3 (none) (rmS_55 (dd + 1)) cx wn wn Lay cvV 0 0 [.ref (cx.2.2.1 + 16), .int x1] m (B_X6_operand f_X6_either f_X6_operand x1 m) := by
  refine MT_of (by decide) (Nat.le_of_ble_eq_true rfl) ?_
  intro pp ee ss mm aa bb me co hK hr hk hn0
  have C : CM pp ss mm aa me co cX6_operand 3 RX6 cx (none) := ⟨hK, hr, hk⟩
  show TV pp ll ee (rmS_55 (dd + 1)) ss mm aa bb me co 3 cx wn 0 [(0, .ref (cx.2.2.1 + 16)), (1, .int x1)] [] m (B_X6_operand f_X6_either f_X6_operand x1 m)
  unfold B_X6_operand
  refine T_aload_n C.1 dX6_operand_0 0 rfl ?_
  refine T_callVI (rm := rm_X6_ahead) [] [] C.1 dX6_operand_1 mw_X6_ahead wm_4_41 wm_4_43 wm_p_24 (by constructor <;> (simp only [rmS_55, rm_X6_ahead]; omega)) ⟨rfl, rfl⟩ ⟨Nat.zero_le _, Nat.zero_le _⟩ rfl rfl (Nat.le_of_ble_eq_true rfl) sh16 (Nat.le_trans le16 hn) ⟨rfl, rfl⟩ (c_X6_ahead hn ll cx m) (fun v1 m2 => ?_)
  refine T_istore_n (lv' := [(2, .int v1), (0, .ref (cx.2.2.1 + 16)), (1, .int x1)]) C.1 dX6_operand_4 (by decide) rfl ?_
  refine T_iload_n C.1 dX6_operand_5 0 rfl ?_
  refine T_callSI (rm := rm_X6_isDigit) [.int v1] [] C.1 dX6_operand_6 mw_X6_isDigit wm_4_45 wm_4_46 (by constructor <;> (simp only [rmS_55, rm_X6_isDigit]; omega)) ⟨rfl, rfl⟩ ⟨Nat.zero_le _, Nat.zero_le _⟩ rfl rfl (Nat.le_of_ble_eq_true rfl) (c_X6_isDigit hn ll cx v1 m2) (fun v3 m4 => ?_)
  refine T_if_eq (tgt := 19) C.1 dX6_operand_9 (by decide) ?_ ?_
  · refine T_iload_n C.1 dX6_operand_19 0 rfl ?_
    refine T_callSI (rm := rm_X3_nameOf) [.int v1] [] C.1 dX6_operand_20 mw_X3_nameOf wm_4_56 wm_4_57 (by constructor <;> (simp only [rmS_55, rm_X3_nameOf]; omega)) ⟨rfl, rfl⟩ ⟨Nat.zero_le _, Nat.zero_le _⟩ rfl rfl (Nat.le_of_ble_eq_true rfl) (c_X3_nameOf hn ll cx v1 m4) (fun v5 m6 => ?_)
    refine T_iconst C.1 dX6_operand_23 ?_
    refine T_icmp_eq (tgt := 53) C.1 dX6_operand_24 (by decide) ?_ ?_
    · refine T_iload_n C.1 dX6_operand_53 2 rfl ?_
      refine T_bipush C.1 dX6_operand_54 rfl ?_
      refine T_icmp_lt (tgt := 66) C.1 dX6_operand_56 (by decide) ?_ ?_
      · refine T_iload_n C.1 dX6_operand_66 0 rfl ?_
        refine T_bipush C.1 dX6_operand_67 rfl ?_
        refine T_icmp_eq (tgt := 78) C.1 dX6_operand_69 (by decide) ?_ ?_
        · exact T_sub [1, 2, 0] rfl (t_X6_operand_78 hn C hf_X6_either hf_X6_operand x1 v1 m6)
        · refine T_iload_n C.1 dX6_operand_72 0 rfl ?_
          refine T_bipush C.1 dX6_operand_73 rfl ?_
          refine T_icmp_ne (tgt := 115) C.1 dX6_operand_75 (by decide) ?_ ?_
          · refine T_iload_n C.1 dX6_operand_115 0 rfl ?_
            refine T_bipush C.1 dX6_operand_116 rfl ?_
            refine T_icmp_ne (tgt := 154) C.1 dX6_operand_118 (by decide) ?_ ?_
            · refine T_aload_n C.1 dX6_operand_154 1 rfl ?_
              refine T_callVV (rm := rm_X6_fail) [] [] C.1 dX6_operand_155 mw_X6_fail wm_4_59 wm_4_61 wm_p_26 (by constructor <;> (simp only [rmS_55, rm_X6_fail]; omega)) ⟨rfl, rfl⟩ ⟨Nat.zero_le _, Nat.zero_le _⟩ rfl rfl (Nat.le_of_ble_eq_true rfl) sh16 (Nat.le_trans le16 hn) ⟨rfl, rfl⟩ (c_X6_fail hn ll cx m6) (fun u7 m8 => ?_)
              exact T_vret C.1 C.2.1 C.2.2 dX6_operand_158
            · refine T_aload_n C.1 dX6_operand_121 1 rfl ?_
              refine T_dup C.1 dX6_operand_122 rfl ?_
              refine T_getI C.1 fd_X6_19 (fun _ _ _ _ => rfl) sh16 (Nat.le_trans le16 hn) dX6_operand_123 ?_
              refine T_iconst C.1 dX6_operand_126 ?_
              refine T_iadd C.1 dX6_operand_127 ?_
              refine T_putI C.1 LyI_Lay fd_X6_19 sh16 (Nat.le_trans le16 hn) dX6_operand_128 (fun m9 => ?_)
              refine T_aload_n C.1 dX6_operand_131 1 rfl ?_
              refine T_iload_n C.1 dX6_operand_132 2 rfl ?_
              refine T_iconst C.1 dX6_operand_133 ?_
              refine T_iadd C.1 dX6_operand_134 ?_
              refine T_callVV (rm := (rmS_55 dd)) [.int (x1 + (iI 1))] [] C.1 dX6_operand_135 mw_X6_either wm_4_17 wm_4_19 wm_p_18 (by constructor <;> (simp only [rmS_55]; omega)) ⟨rfl, rfl⟩ ⟨Nat.zero_le _, Nat.zero_le _⟩ rfl rfl (Nat.le_of_ble_eq_true rfl) sh16 (Nat.le_trans le16 hn) ⟨rfl, rfl⟩ (hf_X6_either (x1 + (iI 1)) m9) (fun u10 m11 => ?_)
              refine T_aload_n C.1 dX6_operand_138 1 rfl ?_
              refine T_bipush C.1 dX6_operand_139 rfl ?_
              refine T_callVI (rm := rm_X6_comes) [.int (iI 41)] [] C.1 dX6_operand_141 mw_X6_comes wm_4_67 wm_4_69 wm_p_28 (by constructor <;> (simp only [rmS_55, rm_X6_comes]; omega)) ⟨rfl, rfl⟩ ⟨Nat.zero_le _, Nat.zero_le _⟩ rfl rfl (Nat.le_of_ble_eq_true rfl) sh16 (Nat.le_trans le16 hn) ⟨rfl, rfl⟩ (c_X6_comes hn ll cx (iI 41) m11) (fun v12 m13 => ?_)
              refine T_if_ne (tgt := 158) C.1 dX6_operand_144 (by decide) ?_ ?_
              · exact T_vret C.1 C.2.1 C.2.2 dX6_operand_158
              · refine T_aload_n C.1 dX6_operand_147 1 rfl ?_
                refine T_callVV (rm := rm_X6_fail) [] [] C.1 dX6_operand_148 mw_X6_fail wm_4_59 wm_4_61 wm_p_26 (by constructor <;> (simp only [rmS_55, rm_X6_fail]; omega)) ⟨rfl, rfl⟩ ⟨Nat.zero_le _, Nat.zero_le _⟩ rfl rfl (Nat.le_of_ble_eq_true rfl) sh16 (Nat.le_trans le16 hn) ⟨rfl, rfl⟩ (c_X6_fail hn ll cx m13) (fun u14 m15 => ?_)
                refine T_goto (tgt := 158) C.1 dX6_operand_151 (by decide) ?_
                exact T_vret C.1 C.2.1 C.2.2 dX6_operand_158
          · exact T_sub [1, 2, 0] rfl (t_X6_operand_78 hn C hf_X6_either hf_X6_operand x1 v1 m6)
      · refine T_aload_n C.1 dX6_operand_59 1 rfl ?_
        refine T_callVV (rm := rm_X6_fail) [] [] C.1 dX6_operand_60 mw_X6_fail wm_4_59 wm_4_61 wm_p_26 (by constructor <;> (simp only [rmS_55, rm_X6_fail]; omega)) ⟨rfl, rfl⟩ ⟨Nat.zero_le _, Nat.zero_le _⟩ rfl rfl (Nat.le_of_ble_eq_true rfl) sh16 (Nat.le_trans le16 hn) ⟨rfl, rfl⟩ (c_X6_fail hn ll cx m6) (fun u16 m17 => ?_)
        refine T_goto (tgt := 158) C.1 dX6_operand_63 (by decide) ?_
        exact T_vret C.1 C.2.1 C.2.2 dX6_operand_158
    · refine T_aload_n C.1 dX6_operand_27 1 rfl ?_
      refine T_dup C.1 dX6_operand_28 rfl ?_
      refine T_getI C.1 fd_X6_19 (fun _ _ _ _ => rfl) sh16 (Nat.le_trans le16 hn) dX6_operand_29 ?_
      refine T_iconst C.1 dX6_operand_32 ?_
      refine T_iadd C.1 dX6_operand_33 ?_
      refine T_putI C.1 LyI_Lay fd_X6_19 sh16 (Nat.le_trans le16 hn) dX6_operand_34 (fun m18 => ?_)
      refine T_aload_n C.1 dX6_operand_37 1 rfl ?_
      refine T_getS C.1 fd_X6_28 (fun _ _ _ _ => rfl) sh16 (Nat.le_trans le16 hn) (by decide) dX6_operand_38 (fun q19 hq19 => ?_)
      refine T_bipush C.1 dX6_operand_41 rfl ?_
      refine T_iload_n C.1 dX6_operand_43 0 rfl ?_
      refine T_callSI (rm := rm_X3_nameOf) [.int v1] [.int (iI 36), .ref (cx.2.2.1 + q19)] C.1 dX6_operand_44 mw_X3_nameOf wm_4_56 wm_4_57 (by constructor <;> (simp only [rmS_55, rm_X3_nameOf]; omega)) ⟨rfl, rfl⟩ ⟨Nat.zero_le _, Nat.zero_le _⟩ rfl rfl (Nat.le_of_ble_eq_true rfl) (c_X3_nameOf hn ll cx v1 m18) (fun v20 m21 => ?_)
      refine T_callVV (rm := rm_X3_write) [.int (iI 36), .int v20] [] C.1 dX6_operand_47 mw_X3_write wm_4_52 wm_4_53 wm_4_54 (by constructor <;> (simp only [rmS_55, rm_X3_write]; omega)) ⟨rfl, rfl⟩ ⟨Nat.zero_le _, Nat.zero_le _⟩ rfl rfl (Nat.le_of_ble_eq_true rfl) hq19 (Nat.le_trans (shp_le hq19 (by decide)) hn) ⟨rfl, rfl⟩ (c_X3_write hn ll cx q19 (iI 36) v20 m21) (fun u22 m23 => ?_)
      refine T_goto (tgt := 158) C.1 dX6_operand_50 (by decide) ?_
      exact T_vret C.1 C.2.1 C.2.2 dX6_operand_158
  · refine T_aload_n C.1 dX6_operand_12 1 rfl ?_
    refine T_callVV (rm := rm_X6_number) [] [] C.1 dX6_operand_13 mw_X6_number wm_4_48 wm_4_50 wm_p_25 (by constructor <;> (simp only [rmS_55, rm_X6_number]; omega)) ⟨rfl, rfl⟩ ⟨Nat.zero_le _, Nat.zero_le _⟩ rfl rfl (Nat.le_of_ble_eq_true rfl) sh16 (Nat.le_trans le16 hn) ⟨rfl, rfl⟩ (c_X6_number hn ll cx m4) (fun u24 m25 => ?_)
    refine T_goto (tgt := 158) C.1 dX6_operand_16 (by decide) ?_
    exact T_vret C.1 C.2.1 C.2.2 dX6_operand_158
def F_X6_product_36 (k_12 : Int32 → Int32 → Int32 → Mm → Option (Unit × Mm)) (f_X6_operand : Int32 → Mm → Option (Unit × Mm)) (a1 : Int32) (a2 : Int32) (a3 : Int32) (m : Mm) : Option (Unit × Mm) :=
  nm (pI m 16 2 ((gI m 16 2) + (iI 1))) fun m1 =>
  bnd (f_X6_operand a1 m1) fun _ m3 =>
  bnd (F_X6_write ((a2.toUInt32 % 65536).toInt32) m3) fun _ m5 =>
  bnd (F_X6_ahead m5) fun v6 m7 =>
  nm (a3 + (iI 1)) fun v8 =>
  k_12 a1 v6 v8 m7
set_option maxRecDepth 100000 in
set_option maxHeartbeats 4000000 in
theorem t_X6_product_36 {wn : Nat} (hn : NN ≤ wn) {pp : Program} {ll : Launch} {ee : Env} {ss : State} {mm : MethodId} {aa : Array Value} {bb : List Frame} {me : Method} {co : Code} {cx : CX} {dd : Nat} {k_12 : Int32 → Int32 → Int32 → Mm → Option (Unit × Mm)} {f_X6_operand : Int32 → Mm → Option (Unit × Mm)}  (C : CM pp ss mm aa me co cX6_product 4 RX6 cx (none))  (hf_X6_operand : ∀ (x1 : Int32) (m : Mm), MT ll yX6_operand cX6_operand 3 (none) (rmS_55 dd) cx wn wn Lay cvV 0 0 [.ref (cx.2.2.1 + 16), .int x1] m (f_X6_operand x1 m))  (hk_12 : ∀ (a1 : Int32) (a2 : Int32) (a3 : Int32) (m : Mm), TV pp ll ee (rmS_55 (dd + 1)) ss mm aa bb me co 4 cx wn 12 [(0, .ref (cx.2.2.1 + 16)), (1, .int a1), (2, .int a2), (3, .int a3)] [] m (k_12 a1 a2 a3 m)) (a1 : Int32) (a2 : Int32) (a3 : Int32) (m : Mm) : TV pp ll ee (rmS_55 (dd + 1)) ss mm aa bb me co 4 cx wn 36 [(0, .ref (cx.2.2.1 + 16)), (1, .int a1), (2, .int a2), (3, .int a3)] [] m (F_X6_product_36 k_12 f_X6_operand a1 a2 a3 m) := by
  unfold F_X6_product_36
  refine T_aload_n C.1 dX6_product_36 0 rfl ?_
  refine T_dup C.1 dX6_product_37 rfl ?_
  refine T_getI C.1 fd_X6_19 (fun _ _ _ _ => rfl) sh16 (Nat.le_trans le16 hn) dX6_product_38 ?_
  refine T_iconst C.1 dX6_product_41 ?_
  refine T_iadd C.1 dX6_product_42 ?_
  refine T_putI C.1 LyI_Lay fd_X6_19 sh16 (Nat.le_trans le16 hn) dX6_product_43 (fun m1 => ?_)
  refine T_aload_n C.1 dX6_product_46 0 rfl ?_
  refine T_iload_n C.1 dX6_product_47 1 rfl ?_
  refine T_callVV (rm := (rmS_55 dd)) [.int a1] [] C.1 dX6_product_48 mw_X6_operand wm_4_37 wm_4_39 wm_p_23 (by constructor <;> (simp only [rmS_55]; omega)) ⟨rfl, rfl⟩ ⟨Nat.zero_le _, Nat.zero_le _⟩ rfl rfl (Nat.le_of_ble_eq_true rfl) sh16 (Nat.le_trans le16 hn) ⟨rfl, rfl⟩ (hf_X6_operand a1 m1) (fun u2 m3 => ?_)
  refine T_aload_n C.1 dX6_product_51 0 rfl ?_
  refine T_iload_n C.1 dX6_product_52 2 rfl ?_
  refine T_i2c C.1 dX6_product_53 ?_
  refine T_callVV (rm := rm_X6_write) [.int ((a2.toUInt32 % 65536).toInt32)] [] C.1 dX6_product_54 mw_X6_write wm_4_63 wm_4_65 wm_p_27 (by constructor <;> (simp only [rmS_55, rm_X6_write]; omega)) ⟨rfl, rfl⟩ ⟨Nat.zero_le _, Nat.zero_le _⟩ rfl rfl (Nat.le_of_ble_eq_true rfl) sh16 (Nat.le_trans le16 hn) ⟨rfl, rfl⟩ (c_X6_write hn ll cx ((a2.toUInt32 % 65536).toInt32) m3) (fun u4 m5 => ?_)
  refine T_aload_n C.1 dX6_product_57 0 rfl ?_
  refine T_callVI (rm := rm_X6_ahead) [] [] C.1 dX6_product_58 mw_X6_ahead wm_4_41 wm_4_43 wm_p_24 (by constructor <;> (simp only [rmS_55, rm_X6_ahead]; omega)) ⟨rfl, rfl⟩ ⟨Nat.zero_le _, Nat.zero_le _⟩ rfl rfl (Nat.le_of_ble_eq_true rfl) sh16 (Nat.le_trans le16 hn) ⟨rfl, rfl⟩ (c_X6_ahead hn ll cx m5) (fun v6 m7 => ?_)
  refine T_istore_n (lv' := [(2, .int v6), (0, .ref (cx.2.2.1 + 16)), (1, .int a1), (3, .int a3)]) C.1 dX6_product_61 (by decide) rfl ?_
  refine T_iincN C.1 (fun v8 => [(3, .int v8), (2, .int v6), (0, .ref (cx.2.2.1 + 16)), (1, .int a1)]) dX6_product_62 3 rfl (by decide) (fun _ => rfl) (fun v8 => ?_)
  refine T_goto (tgt := 12) C.1 dX6_product_65 (by decide) ?_
  exact T_sub [2, 3, 1, 0] rfl (hk_12 a1 v6 v8 m7)
def F_X6_product_12 (f_X6_operand : Int32 → Mm → Option (Unit × Mm)) : Nat → Int32 → Int32 → Int32 → Mm → Option (Unit × Mm)
  | 0, _, _, _, _ => none
  | f + 1, a1, a2, a3, m =>
    (if (iI 120) ≤ a3 then
      some ((), m)
    else
      (if a2 = (iI 42) then
        F_X6_product_36 (F_X6_product_12 f_X6_operand f) f_X6_operand a1 a2 a3 m
      else
        (if a2 = (iI 47) then
          F_X6_product_36 (F_X6_product_12 f_X6_operand f) f_X6_operand a1 a2 a3 m
        else
          (if a2 = (iI 37) then
            F_X6_product_36 (F_X6_product_12 f_X6_operand f) f_X6_operand a1 a2 a3 m
          else
            some ((), m)))))
set_option maxRecDepth 100000 in
set_option maxHeartbeats 4000000 in
theorem t_X6_product_12 {wn : Nat} (hn : NN ≤ wn) {pp : Program} {ll : Launch} {ee : Env} {ss : State} {mm : MethodId} {aa : Array Value} {bb : List Frame} {me : Method} {co : Code} {cx : CX} {dd : Nat}  {f_X6_operand : Int32 → Mm → Option (Unit × Mm)}  (C : CM pp ss mm aa me co cX6_product 4 RX6 cx (none))  (hf_X6_operand : ∀ (x1 : Int32) (m : Mm), MT ll yX6_operand cX6_operand 3 (none) (rmS_55 dd) cx wn wn Lay cvV 0 0 [.ref (cx.2.2.1 + 16), .int x1] m (f_X6_operand x1 m))   : ∀ (f : Nat) (a1 : Int32) (a2 : Int32) (a3 : Int32) (m : Mm), TV pp ll ee (rmS_55 (dd + 1)) ss mm aa bb me co 4 cx wn 12 [(0, .ref (cx.2.2.1 + 16)), (1, .int a1), (2, .int a2), (3, .int a3)] [] m (F_X6_product_12 f_X6_operand f a1 a2 a3 m) := by
  intro f
  induction f with
  | zero => exact fun _ _ _ _ => T_none
  | succ f ih =>
    intro a1 a2 a3 m
    unfold F_X6_product_12
    refine T_iload_n C.1 dX6_product_12 3 rfl ?_
    refine T_bipush C.1 dX6_product_13 rfl ?_
    refine T_icmp_ge (tgt := 68) C.1 dX6_product_15 (by decide) ?_ ?_
    · exact T_vret C.1 C.2.1 C.2.2 dX6_product_68
    · refine T_iload_n C.1 dX6_product_18 2 rfl ?_
      refine T_bipush C.1 dX6_product_19 rfl ?_
      refine T_icmp_eq (tgt := 36) C.1 dX6_product_21 (by decide) ?_ ?_
      · exact T_sub [0, 1, 2, 3] rfl (t_X6_product_36 hn C hf_X6_operand (ih) a1 a2 a3 m)
      · refine T_iload_n C.1 dX6_product_24 2 rfl ?_
        refine T_bipush C.1 dX6_product_25 rfl ?_
        refine T_icmp_eq (tgt := 36) C.1 dX6_product_27 (by decide) ?_ ?_
        · exact T_sub [0, 1, 2, 3] rfl (t_X6_product_36 hn C hf_X6_operand (ih) a1 a2 a3 m)
        · refine T_iload_n C.1 dX6_product_30 2 rfl ?_
          refine T_bipush C.1 dX6_product_31 rfl ?_
          refine T_icmp_ne (tgt := 68) C.1 dX6_product_33 (by decide) ?_ ?_
          · exact T_vret C.1 C.2.1 C.2.2 dX6_product_68
          · exact T_sub [0, 1, 2, 3] rfl (t_X6_product_36 hn C hf_X6_operand (ih) a1 a2 a3 m)
def B_X6_product (f_X6_operand : Int32 → Mm → Option (Unit × Mm)) (x1 : Int32) (m : Mm) : Option (Unit × Mm) :=
  bnd (f_X6_operand x1 m) fun _ m2 =>
  bnd (F_X6_ahead m2) fun v3 m4 =>
  F_X6_product_12 f_X6_operand FU x1 v3 (iI 0) m4
set_option maxRecDepth 100000 in
set_option maxHeartbeats 4000000 in
theorem b_X6_product {wn : Nat} (hn : NN ≤ wn) {ll : Launch} {cx : CX} {dd : Nat} (f_X6_operand : Int32 → Mm → Option (Unit × Mm)) (hf_X6_operand : ∀ (x1 : Int32) (m : Mm), MT ll yX6_operand cX6_operand 3 (none) (rmS_55 dd) cx wn wn Lay cvV 0 0 [.ref (cx.2.2.1 + 16), .int x1] m (f_X6_operand x1 m))  (x1 : Int32) (m : Mm) : MT ll yX6_product cX6_product 4 (none) (rmS_55 (dd + 1)) cx wn wn Lay cvV 0 0 [.ref (cx.2.2.1 + 16), .int x1] m (B_X6_product f_X6_operand x1 m) := by
  refine MT_of (by decide) (Nat.le_of_ble_eq_true rfl) ?_
  intro pp ee ss mm aa bb me co hK hr hk hn0
  have C : CM pp ss mm aa me co cX6_product 4 RX6 cx (none) := ⟨hK, hr, hk⟩
  show TV pp ll ee (rmS_55 (dd + 1)) ss mm aa bb me co 4 cx wn 0 [(0, .ref (cx.2.2.1 + 16)), (1, .int x1)] [] m (B_X6_product f_X6_operand x1 m)
  unfold B_X6_product
  refine T_aload_n C.1 dX6_product_0 0 rfl ?_
  refine T_iload_n C.1 dX6_product_1 1 rfl ?_
  refine T_callVV (rm := (rmS_55 dd)) [.int x1] [] C.1 dX6_product_2 mw_X6_operand wm_4_37 wm_4_39 wm_p_23 (by constructor <;> (simp only [rmS_55]; omega)) ⟨rfl, rfl⟩ ⟨Nat.zero_le _, Nat.zero_le _⟩ rfl rfl (Nat.le_of_ble_eq_true rfl) sh16 (Nat.le_trans le16 hn) ⟨rfl, rfl⟩ (hf_X6_operand x1 m) (fun u1 m2 => ?_)
  refine T_aload_n C.1 dX6_product_5 0 rfl ?_
  refine T_callVI (rm := rm_X6_ahead) [] [] C.1 dX6_product_6 mw_X6_ahead wm_4_41 wm_4_43 wm_p_24 (by constructor <;> (simp only [rmS_55, rm_X6_ahead]; omega)) ⟨rfl, rfl⟩ ⟨Nat.zero_le _, Nat.zero_le _⟩ rfl rfl (Nat.le_of_ble_eq_true rfl) sh16 (Nat.le_trans le16 hn) ⟨rfl, rfl⟩ (c_X6_ahead hn ll cx m2) (fun v3 m4 => ?_)
  refine T_istore_n (lv' := [(2, .int v3), (0, .ref (cx.2.2.1 + 16)), (1, .int x1)]) C.1 dX6_product_9 (by decide) rfl ?_
  refine T_iconst C.1 dX6_product_10 ?_
  refine T_istore_n (lv' := [(3, .int (iI 0)), (2, .int v3), (0, .ref (cx.2.2.1 + 16)), (1, .int x1)]) C.1 dX6_product_11 (by decide) rfl ?_
  exact T_sub [2, 3, 1, 0] rfl (t_X6_product_12 hn C hf_X6_operand FU x1 v3 (iI 0) m4)
def F_X6_sum_30 (k_12 : Int32 → Int32 → Int32 → Mm → Option (Unit × Mm)) (f_X6_product : Int32 → Mm → Option (Unit × Mm)) (a1 : Int32) (a2 : Int32) (a3 : Int32) (m : Mm) : Option (Unit × Mm) :=
  nm (pI m 16 2 ((gI m 16 2) + (iI 1))) fun m1 =>
  bnd (f_X6_product a1 m1) fun _ m3 =>
  bnd (F_X6_write ((a2.toUInt32 % 65536).toInt32) m3) fun _ m5 =>
  bnd (F_X6_ahead m5) fun v6 m7 =>
  nm (a3 + (iI 1)) fun v8 =>
  k_12 a1 v6 v8 m7
set_option maxRecDepth 100000 in
set_option maxHeartbeats 4000000 in
theorem t_X6_sum_30 {wn : Nat} (hn : NN ≤ wn) {pp : Program} {ll : Launch} {ee : Env} {ss : State} {mm : MethodId} {aa : Array Value} {bb : List Frame} {me : Method} {co : Code} {cx : CX} {dd : Nat} {k_12 : Int32 → Int32 → Int32 → Mm → Option (Unit × Mm)} {f_X6_product : Int32 → Mm → Option (Unit × Mm)}  (C : CM pp ss mm aa me co cX6_sum 4 RX6 cx (none))  (hf_X6_product : ∀ (x1 : Int32) (m : Mm), MT ll yX6_product cX6_product 4 (none) (rmS_55 dd) cx wn wn Lay cvV 0 0 [.ref (cx.2.2.1 + 16), .int x1] m (f_X6_product x1 m))  (hk_12 : ∀ (a1 : Int32) (a2 : Int32) (a3 : Int32) (m : Mm), TV pp ll ee (rmS_55 (dd + 1)) ss mm aa bb me co 4 cx wn 12 [(0, .ref (cx.2.2.1 + 16)), (1, .int a1), (2, .int a2), (3, .int a3)] [] m (k_12 a1 a2 a3 m)) (a1 : Int32) (a2 : Int32) (a3 : Int32) (m : Mm) : TV pp ll ee (rmS_55 (dd + 1)) ss mm aa bb me co 4 cx wn 30 [(0, .ref (cx.2.2.1 + 16)), (1, .int a1), (2, .int a2), (3, .int a3)] [] m (F_X6_sum_30 k_12 f_X6_product a1 a2 a3 m) := by
  unfold F_X6_sum_30
  refine T_aload_n C.1 dX6_sum_30 0 rfl ?_
  refine T_dup C.1 dX6_sum_31 rfl ?_
  refine T_getI C.1 fd_X6_19 (fun _ _ _ _ => rfl) sh16 (Nat.le_trans le16 hn) dX6_sum_32 ?_
  refine T_iconst C.1 dX6_sum_35 ?_
  refine T_iadd C.1 dX6_sum_36 ?_
  refine T_putI C.1 LyI_Lay fd_X6_19 sh16 (Nat.le_trans le16 hn) dX6_sum_37 (fun m1 => ?_)
  refine T_aload_n C.1 dX6_sum_40 0 rfl ?_
  refine T_iload_n C.1 dX6_sum_41 1 rfl ?_
  refine T_callVV (rm := (rmS_55 dd)) [.int a1] [] C.1 dX6_sum_42 mw_X6_product wm_4_33 wm_4_35 wm_p_22 (by constructor <;> (simp only [rmS_55]; omega)) ⟨rfl, rfl⟩ ⟨Nat.zero_le _, Nat.zero_le _⟩ rfl rfl (Nat.le_of_ble_eq_true rfl) sh16 (Nat.le_trans le16 hn) ⟨rfl, rfl⟩ (hf_X6_product a1 m1) (fun u2 m3 => ?_)
  refine T_aload_n C.1 dX6_sum_45 0 rfl ?_
  refine T_iload_n C.1 dX6_sum_46 2 rfl ?_
  refine T_i2c C.1 dX6_sum_47 ?_
  refine T_callVV (rm := rm_X6_write) [.int ((a2.toUInt32 % 65536).toInt32)] [] C.1 dX6_sum_48 mw_X6_write wm_4_63 wm_4_65 wm_p_27 (by constructor <;> (simp only [rmS_55, rm_X6_write]; omega)) ⟨rfl, rfl⟩ ⟨Nat.zero_le _, Nat.zero_le _⟩ rfl rfl (Nat.le_of_ble_eq_true rfl) sh16 (Nat.le_trans le16 hn) ⟨rfl, rfl⟩ (c_X6_write hn ll cx ((a2.toUInt32 % 65536).toInt32) m3) (fun u4 m5 => ?_)
  refine T_aload_n C.1 dX6_sum_51 0 rfl ?_
  refine T_callVI (rm := rm_X6_ahead) [] [] C.1 dX6_sum_52 mw_X6_ahead wm_4_41 wm_4_43 wm_p_24 (by constructor <;> (simp only [rmS_55, rm_X6_ahead]; omega)) ⟨rfl, rfl⟩ ⟨Nat.zero_le _, Nat.zero_le _⟩ rfl rfl (Nat.le_of_ble_eq_true rfl) sh16 (Nat.le_trans le16 hn) ⟨rfl, rfl⟩ (c_X6_ahead hn ll cx m5) (fun v6 m7 => ?_)
  refine T_istore_n (lv' := [(2, .int v6), (0, .ref (cx.2.2.1 + 16)), (1, .int a1), (3, .int a3)]) C.1 dX6_sum_55 (by decide) rfl ?_
  refine T_iincN C.1 (fun v8 => [(3, .int v8), (2, .int v6), (0, .ref (cx.2.2.1 + 16)), (1, .int a1)]) dX6_sum_56 3 rfl (by decide) (fun _ => rfl) (fun v8 => ?_)
  refine T_goto (tgt := 12) C.1 dX6_sum_59 (by decide) ?_
  exact T_sub [2, 3, 1, 0] rfl (hk_12 a1 v6 v8 m7)
def F_X6_sum_12 (f_X6_product : Int32 → Mm → Option (Unit × Mm)) : Nat → Int32 → Int32 → Int32 → Mm → Option (Unit × Mm)
  | 0, _, _, _, _ => none
  | f + 1, a1, a2, a3, m =>
    (if (iI 120) ≤ a3 then
      some ((), m)
    else
      (if a2 = (iI 43) then
        F_X6_sum_30 (F_X6_sum_12 f_X6_product f) f_X6_product a1 a2 a3 m
      else
        (if a2 = (iI 45) then
          F_X6_sum_30 (F_X6_sum_12 f_X6_product f) f_X6_product a1 a2 a3 m
        else
          some ((), m))))
set_option maxRecDepth 100000 in
set_option maxHeartbeats 4000000 in
theorem t_X6_sum_12 {wn : Nat} (hn : NN ≤ wn) {pp : Program} {ll : Launch} {ee : Env} {ss : State} {mm : MethodId} {aa : Array Value} {bb : List Frame} {me : Method} {co : Code} {cx : CX} {dd : Nat}  {f_X6_product : Int32 → Mm → Option (Unit × Mm)}  (C : CM pp ss mm aa me co cX6_sum 4 RX6 cx (none))  (hf_X6_product : ∀ (x1 : Int32) (m : Mm), MT ll yX6_product cX6_product 4 (none) (rmS_55 dd) cx wn wn Lay cvV 0 0 [.ref (cx.2.2.1 + 16), .int x1] m (f_X6_product x1 m))   : ∀ (f : Nat) (a1 : Int32) (a2 : Int32) (a3 : Int32) (m : Mm), TV pp ll ee (rmS_55 (dd + 1)) ss mm aa bb me co 4 cx wn 12 [(0, .ref (cx.2.2.1 + 16)), (1, .int a1), (2, .int a2), (3, .int a3)] [] m (F_X6_sum_12 f_X6_product f a1 a2 a3 m) := by
  intro f
  induction f with
  | zero => exact fun _ _ _ _ => T_none
  | succ f ih =>
    intro a1 a2 a3 m
    unfold F_X6_sum_12
    refine T_iload_n C.1 dX6_sum_12 3 rfl ?_
    refine T_bipush C.1 dX6_sum_13 rfl ?_
    refine T_icmp_ge (tgt := 62) C.1 dX6_sum_15 (by decide) ?_ ?_
    · exact T_vret C.1 C.2.1 C.2.2 dX6_sum_62
    · refine T_iload_n C.1 dX6_sum_18 2 rfl ?_
      refine T_bipush C.1 dX6_sum_19 rfl ?_
      refine T_icmp_eq (tgt := 30) C.1 dX6_sum_21 (by decide) ?_ ?_
      · exact T_sub [0, 1, 2, 3] rfl (t_X6_sum_30 hn C hf_X6_product (ih) a1 a2 a3 m)
      · refine T_iload_n C.1 dX6_sum_24 2 rfl ?_
        refine T_bipush C.1 dX6_sum_25 rfl ?_
        refine T_icmp_ne (tgt := 62) C.1 dX6_sum_27 (by decide) ?_ ?_
        · exact T_vret C.1 C.2.1 C.2.2 dX6_sum_62
        · exact T_sub [0, 1, 2, 3] rfl (t_X6_sum_30 hn C hf_X6_product (ih) a1 a2 a3 m)
def B_X6_sum (f_X6_product : Int32 → Mm → Option (Unit × Mm)) (x1 : Int32) (m : Mm) : Option (Unit × Mm) :=
  bnd (f_X6_product x1 m) fun _ m2 =>
  bnd (F_X6_ahead m2) fun v3 m4 =>
  F_X6_sum_12 f_X6_product FU x1 v3 (iI 0) m4
set_option maxRecDepth 100000 in
set_option maxHeartbeats 4000000 in
theorem b_X6_sum {wn : Nat} (hn : NN ≤ wn) {ll : Launch} {cx : CX} {dd : Nat} (f_X6_product : Int32 → Mm → Option (Unit × Mm)) (hf_X6_product : ∀ (x1 : Int32) (m : Mm), MT ll yX6_product cX6_product 4 (none) (rmS_55 dd) cx wn wn Lay cvV 0 0 [.ref (cx.2.2.1 + 16), .int x1] m (f_X6_product x1 m))  (x1 : Int32) (m : Mm) : MT ll yX6_sum cX6_sum 4 (none) (rmS_55 (dd + 1)) cx wn wn Lay cvV 0 0 [.ref (cx.2.2.1 + 16), .int x1] m (B_X6_sum f_X6_product x1 m) := by
  refine MT_of (by decide) (Nat.le_of_ble_eq_true rfl) ?_
  intro pp ee ss mm aa bb me co hK hr hk hn0
  have C : CM pp ss mm aa me co cX6_sum 4 RX6 cx (none) := ⟨hK, hr, hk⟩
  show TV pp ll ee (rmS_55 (dd + 1)) ss mm aa bb me co 4 cx wn 0 [(0, .ref (cx.2.2.1 + 16)), (1, .int x1)] [] m (B_X6_sum f_X6_product x1 m)
  unfold B_X6_sum
  refine T_aload_n C.1 dX6_sum_0 0 rfl ?_
  refine T_iload_n C.1 dX6_sum_1 1 rfl ?_
  refine T_callVV (rm := (rmS_55 dd)) [.int x1] [] C.1 dX6_sum_2 mw_X6_product wm_4_33 wm_4_35 wm_p_22 (by constructor <;> (simp only [rmS_55]; omega)) ⟨rfl, rfl⟩ ⟨Nat.zero_le _, Nat.zero_le _⟩ rfl rfl (Nat.le_of_ble_eq_true rfl) sh16 (Nat.le_trans le16 hn) ⟨rfl, rfl⟩ (hf_X6_product x1 m) (fun u1 m2 => ?_)
  refine T_aload_n C.1 dX6_sum_5 0 rfl ?_
  refine T_callVI (rm := rm_X6_ahead) [] [] C.1 dX6_sum_6 mw_X6_ahead wm_4_41 wm_4_43 wm_p_24 (by constructor <;> (simp only [rmS_55, rm_X6_ahead]; omega)) ⟨rfl, rfl⟩ ⟨Nat.zero_le _, Nat.zero_le _⟩ rfl rfl (Nat.le_of_ble_eq_true rfl) sh16 (Nat.le_trans le16 hn) ⟨rfl, rfl⟩ (c_X6_ahead hn ll cx m2) (fun v3 m4 => ?_)
  refine T_istore_n (lv' := [(2, .int v3), (0, .ref (cx.2.2.1 + 16)), (1, .int x1)]) C.1 dX6_sum_9 (by decide) rfl ?_
  refine T_iconst C.1 dX6_sum_10 ?_
  refine T_istore_n (lv' := [(3, .int (iI 0)), (2, .int v3), (0, .ref (cx.2.2.1 + 16)), (1, .int x1)]) C.1 dX6_sum_11 (by decide) rfl ?_
  exact T_sub [2, 3, 1, 0] rfl (t_X6_sum_12 hn C hf_X6_product FU x1 v3 (iI 0) m4)
def R_55 : Nat → (Int32 → Mm → Option (Unit × Mm)) × (Int32 → Mm → Option (Unit × Mm)) × (Int32 → Mm → Option (Unit × Mm)) × (Int32 → Mm → Option (Unit × Mm)) × (Int32 → Mm → Option (Unit × Mm)) × (Int32 → Mm → Option (Unit × Mm))
  | 0 => (fun _ _ => none, fun _ _ => none, fun _ _ => none, fun _ _ => none, fun _ _ => none, fun _ _ => none)
  | d + 1 => (B_X6_both (R_55 d).2.1, B_X6_compared (R_55 d).2.2.2.2.2, B_X6_either (R_55 d).1, B_X6_operand (R_55 d).2.2.1 (R_55 d).2.2.2.1, B_X6_product (R_55 d).2.2.2.1, B_X6_sum (R_55 d).2.2.2.2.1)
set_option maxRecDepth 100000 in
set_option maxHeartbeats 4000000 in
theorem r_55 {wn : Nat} (hn : NN ≤ wn) (ll : Launch) (cx : CX) : ∀ d : Nat, (∀ (x1 : Int32) (m : Mm), MT ll yX6_both cX6_both 3 (none) (rmS_55 d) cx wn wn Lay cvV 0 0 [.ref (cx.2.2.1 + 16), .int x1] m ((R_55 d).1 x1 m)) ∧ (∀ (x1 : Int32) (m : Mm), MT ll yX6_compared cX6_compared 3 (none) (rmS_55 d) cx wn wn Lay cvV 0 0 [.ref (cx.2.2.1 + 16), .int x1] m ((R_55 d).2.1 x1 m)) ∧ (∀ (x1 : Int32) (m : Mm), MT ll yX6_either cX6_either 3 (none) (rmS_55 d) cx wn wn Lay cvV 0 0 [.ref (cx.2.2.1 + 16), .int x1] m ((R_55 d).2.2.1 x1 m)) ∧ (∀ (x1 : Int32) (m : Mm), MT ll yX6_operand cX6_operand 3 (none) (rmS_55 d) cx wn wn Lay cvV 0 0 [.ref (cx.2.2.1 + 16), .int x1] m ((R_55 d).2.2.2.1 x1 m)) ∧ (∀ (x1 : Int32) (m : Mm), MT ll yX6_product cX6_product 4 (none) (rmS_55 d) cx wn wn Lay cvV 0 0 [.ref (cx.2.2.1 + 16), .int x1] m ((R_55 d).2.2.2.2.1 x1 m)) ∧ (∀ (x1 : Int32) (m : Mm), MT ll yX6_sum cX6_sum 4 (none) (rmS_55 d) cx wn wn Lay cvV 0 0 [.ref (cx.2.2.1 + 16), .int x1] m ((R_55 d).2.2.2.2.2 x1 m))
  | 0 => ⟨fun _ _ => fun r μ1 h => (by cases (show (none : Option (Unit × Mm)) = some (r, μ1) from h)), fun _ _ => fun r μ1 h => (by cases (show (none : Option (Unit × Mm)) = some (r, μ1) from h)), fun _ _ => fun r μ1 h => (by cases (show (none : Option (Unit × Mm)) = some (r, μ1) from h)), fun _ _ => fun r μ1 h => (by cases (show (none : Option (Unit × Mm)) = some (r, μ1) from h)), fun _ _ => fun r μ1 h => (by cases (show (none : Option (Unit × Mm)) = some (r, μ1) from h)), fun _ _ => fun r μ1 h => (by cases (show (none : Option (Unit × Mm)) = some (r, μ1) from h))⟩
  | d + 1 => ⟨b_X6_both hn _ (r_55 hn ll cx d).2.1, b_X6_compared hn _ (r_55 hn ll cx d).2.2.2.2.2, b_X6_either hn _ (r_55 hn ll cx d).1, b_X6_operand hn _ _ (r_55 hn ll cx d).2.2.1 (r_55 hn ll cx d).2.2.2.1, b_X6_product hn _ (r_55 hn ll cx d).2.2.2.1, b_X6_sum hn _ (r_55 hn ll cx d).2.2.2.2.1⟩
def F_X6_both (x1 : Int32) (m : Mm) : Option (Unit × Mm) := (R_55 900).1 x1 m
theorem c_X6_both {wn : Nat} (hn : NN ≤ wn) (ll : Launch) (cx : CX) (x1 : Int32) (m : Mm) : MT ll yX6_both cX6_both 3 (none) (rmS_55 900) cx wn wn Lay cvV 0 0 [.ref (cx.2.2.1 + 16), .int x1] m (F_X6_both x1 m) := (r_55 hn ll cx 900).1 x1 m
def F_X6_compared (x1 : Int32) (m : Mm) : Option (Unit × Mm) := (R_55 900).2.1 x1 m
theorem c_X6_compared {wn : Nat} (hn : NN ≤ wn) (ll : Launch) (cx : CX) (x1 : Int32) (m : Mm) : MT ll yX6_compared cX6_compared 3 (none) (rmS_55 900) cx wn wn Lay cvV 0 0 [.ref (cx.2.2.1 + 16), .int x1] m (F_X6_compared x1 m) := (r_55 hn ll cx 900).2.1 x1 m
def F_X6_either (x1 : Int32) (m : Mm) : Option (Unit × Mm) := (R_55 900).2.2.1 x1 m
theorem c_X6_either {wn : Nat} (hn : NN ≤ wn) (ll : Launch) (cx : CX) (x1 : Int32) (m : Mm) : MT ll yX6_either cX6_either 3 (none) (rmS_55 900) cx wn wn Lay cvV 0 0 [.ref (cx.2.2.1 + 16), .int x1] m (F_X6_either x1 m) := (r_55 hn ll cx 900).2.2.1 x1 m
def F_X6_operand (x1 : Int32) (m : Mm) : Option (Unit × Mm) := (R_55 900).2.2.2.1 x1 m
theorem c_X6_operand {wn : Nat} (hn : NN ≤ wn) (ll : Launch) (cx : CX) (x1 : Int32) (m : Mm) : MT ll yX6_operand cX6_operand 3 (none) (rmS_55 900) cx wn wn Lay cvV 0 0 [.ref (cx.2.2.1 + 16), .int x1] m (F_X6_operand x1 m) := (r_55 hn ll cx 900).2.2.2.1 x1 m
def F_X6_product (x1 : Int32) (m : Mm) : Option (Unit × Mm) := (R_55 900).2.2.2.2.1 x1 m
theorem c_X6_product {wn : Nat} (hn : NN ≤ wn) (ll : Launch) (cx : CX) (x1 : Int32) (m : Mm) : MT ll yX6_product cX6_product 4 (none) (rmS_55 900) cx wn wn Lay cvV 0 0 [.ref (cx.2.2.1 + 16), .int x1] m (F_X6_product x1 m) := (r_55 hn ll cx 900).2.2.2.2.1 x1 m
def F_X6_sum (x1 : Int32) (m : Mm) : Option (Unit × Mm) := (R_55 900).2.2.2.2.2 x1 m
theorem c_X6_sum {wn : Nat} (hn : NN ≤ wn) (ll : Launch) (cx : CX) (x1 : Int32) (m : Mm) : MT ll yX6_sum cX6_sum 4 (none) (rmS_55 900) cx wn wn Lay cvV 0 0 [.ref (cx.2.2.1 + 16), .int x1] m (F_X6_sum x1 m) := (r_55 hn ll cx 900).2.2.2.2.2 x1 m
