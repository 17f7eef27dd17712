def rm_X9_valueAt : Room := { frames := 1, cells := 0, slots := 0, locals := 40 }
def F_X9_valueAt  (x1 : Int32) (x2 : Int32) (m : Mm) : Option (Int32 × Mm) :=
  (if x1 = iI 0 then
    rd 49 x2 fun j3 =>
    some ((gI m 114 j3), m)
  else
    (if x1 = (iI 1) then
      rd 49 x2 fun j2 =>
      some ((gI m 115 j2), m)
    else
      (if x1 = (iI 2) then
        rd 7 x2 fun j1 =>
        some ((gI m 116 j1), m)
      else
        (if x1 = (iI 3) then
          some ((gI m 113 5), m)
        else
          some ((gI m 113 6), m)))))
set_option maxRecDepth 100000 in
set_option maxHeartbeats 4000000 in
theorem c_X9_valueAt (ll : Launch) (cx : CX) (x1 : Int32) (x2 : Int32) (m : Mm) : MT ll yX9_valueAt cX9_valueAt 3 ((some .int)) rm_X9_valueAt cx NN NN Lay cvI 0 0 [.ref (cx.2.2.1 + 113), .int x1, .int x2] m (F_X9_valueAt x1 x2 m) := by
  refine MT_of (by decide) (Nat.le_of_ble_eq_true rfl) ?_
  intro pp ee ss mm aa bb me co hK hr hk hn
  have C : CM pp ss mm aa me co cX9_valueAt 3 RX9 cx ((some .int)) := ⟨hK, hr, hk⟩
  show TI pp ll ee rm_X9_valueAt ss mm aa bb me co 3 cx 0 [(0, .ref (cx.2.2.1 + 113)), (1, .int x1), (2, .int x2)] [] m (F_X9_valueAt x1 x2 m)
  unfold F_X9_valueAt
  refine T_iload_n C.1 dX9_valueAt_0 1 rfl ?_
  refine T_if_ne (tgt := 13) C.1 dX9_valueAt_1 (by decide) ?_ ?_
  · refine T_iload_n C.1 dX9_valueAt_13 1 rfl ?_
    refine T_iconst C.1 dX9_valueAt_14 ?_
    refine T_icmp_ne (tgt := 27) C.1 dX9_valueAt_15 (by decide) ?_ ?_
    · refine T_iload_n C.1 dX9_valueAt_27 1 rfl ?_
      refine T_iconst C.1 dX9_valueAt_28 ?_
      refine T_icmp_ne (tgt := 41) C.1 dX9_valueAt_29 (by decide) ?_ ?_
      · refine T_iload_n C.1 dX9_valueAt_41 1 rfl ?_
        refine T_iconst C.1 dX9_valueAt_42 ?_
        refine T_icmp_ne (tgt := 53) C.1 dX9_valueAt_43 (by decide) ?_ ?_
        · refine T_aload_n C.1 dX9_valueAt_53 0 rfl ?_
          refine T_getI C.1 fd_X9_177 (fun _ _ _ _ => rfl) sh113 le113 dX9_valueAt_54 ?_
          exact T_iret C.1 C.2.1 C.2.2 dX9_valueAt_57
        · refine T_aload_n C.1 dX9_valueAt_46 0 rfl ?_
          refine T_getI C.1 fd_X9_19 (fun _ _ _ _ => rfl) sh113 le113 dX9_valueAt_47 ?_
          refine T_goto (tgt := 57) C.1 dX9_valueAt_50 (by decide) ?_
          exact T_iret C.1 C.2.1 C.2.2 dX9_valueAt_57
      · refine T_aload_n C.1 dX9_valueAt_32 0 rfl ?_
        refine T_getR (x := 116) C.1 fd_X9_16 (fun _ _ _ _ => rfl) sh113 le113 (fun _ h => h) rfl (by decide) dX9_valueAt_33 ?_
        refine T_iload_n C.1 dX9_valueAt_36 2 rfl ?_
        refine T_iald C.1 dX9_valueAt_37 sh116 le116 (fun j1 => ?_)
        refine T_goto (tgt := 57) C.1 dX9_valueAt_38 (by decide) ?_
        exact T_iret C.1 C.2.1 C.2.2 dX9_valueAt_57
    · refine T_aload_n C.1 dX9_valueAt_18 0 rfl ?_
      refine T_getR (x := 115) C.1 fd_X9_13 (fun _ _ _ _ => rfl) sh113 le113 (fun _ h => h) rfl (by decide) dX9_valueAt_19 ?_
      refine T_iload_n C.1 dX9_valueAt_22 2 rfl ?_
      refine T_iald C.1 dX9_valueAt_23 sh115 le115 (fun j2 => ?_)
      refine T_goto (tgt := 57) C.1 dX9_valueAt_24 (by decide) ?_
      exact T_iret C.1 C.2.1 C.2.2 dX9_valueAt_57
  · refine T_aload_n C.1 dX9_valueAt_4 0 rfl ?_
    refine T_getR (x := 114) C.1 fd_X9_7 (fun _ _ _ _ => rfl) sh113 le113 (fun _ h => h) rfl (by decide) dX9_valueAt_5 ?_
    refine T_iload_n C.1 dX9_valueAt_8 2 rfl ?_
    refine T_iald C.1 dX9_valueAt_9 sh114 le114 (fun j3 => ?_)
    refine T_goto (tgt := 57) C.1 dX9_valueAt_10 (by decide) ?_
    exact T_iret C.1 C.2.1 C.2.2 dX9_valueAt_57
def rm_X9_lays : Room := { frames := 1, cells := 0, slots := 0, locals := 40 }
def F_X9_lays  (x1 : Int32) (x2 : Int32) (x3 : Int32) (m : Mm) : Option (Unit × Mm) :=
  (if x1 = iI 0 then
    wrI 49 m 114 x2 x3 fun m5 =>
    some ((), m5)
  else
    (if x1 = (iI 1) then
      wrI 49 m 115 x2 x3 fun m4 =>
      some ((), m4)
    else
      (if x1 = (iI 2) then
        wrI 7 m 116 x2 x3 fun m3 =>
        some ((), m3)
      else
        (if x1 = (iI 3) then
          nm (pI m 113 5 x3) fun m2 =>
          some ((), m2)
        else
          nm (pI m 113 6 x3) fun m1 =>
          some ((), m1)))))
set_option maxRecDepth 100000 in
set_option maxHeartbeats 4000000 in
theorem c_X9_lays (ll : Launch) (cx : CX) (x1 : Int32) (x2 : Int32) (x3 : Int32) (m : Mm) : MT ll yX9_lays cX9_lays 4 (none) rm_X9_lays cx NN NN Lay cvV 0 0 [.ref (cx.2.2.1 + 113), .int x1, .int x2, .int x3] m (F_X9_lays x1 x2 x3 m) := by
  refine MT_of (by decide) (Nat.le_of_ble_eq_true rfl) ?_
  intro pp ee ss mm aa bb me co hK hr hk hn
  have C : CM pp ss mm aa me co cX9_lays 4 RX9 cx (none) := ⟨hK, hr, hk⟩
  show TV pp ll ee rm_X9_lays ss mm aa bb me co 4 cx 0 [(0, .ref (cx.2.2.1 + 113)), (1, .int x1), (2, .int x2), (3, .int x3)] [] m (F_X9_lays x1 x2 x3 m)
  unfold F_X9_lays
  refine T_iload_n C.1 dX9_lays_0 1 rfl ?_
  refine T_if_ne (tgt := 14) C.1 dX9_lays_1 (by decide) ?_ ?_
  · refine T_iload_n C.1 dX9_lays_14 1 rfl ?_
    refine T_iconst C.1 dX9_lays_15 ?_
    refine T_icmp_ne (tgt := 29) C.1 dX9_lays_16 (by decide) ?_ ?_
    · refine T_iload_n C.1 dX9_lays_29 1 rfl ?_
      refine T_iconst C.1 dX9_lays_30 ?_
      refine T_icmp_ne (tgt := 44) C.1 dX9_lays_31 (by decide) ?_ ?_
      · refine T_iload_n C.1 dX9_lays_44 1 rfl ?_
        refine T_iconst C.1 dX9_lays_45 ?_
        refine T_icmp_ne (tgt := 57) C.1 dX9_lays_46 (by decide) ?_ ?_
        · refine T_aload_n C.1 dX9_lays_57 0 rfl ?_
          refine T_iload_n C.1 dX9_lays_58 3 rfl ?_
          refine T_putI C.1 LyI_Lay fd_X9_177 sh113 le113 dX9_lays_59 (fun m1 => ?_)
          exact T_vret C.1 C.2.1 C.2.2 dX9_lays_62
        · refine T_aload_n C.1 dX9_lays_49 0 rfl ?_
          refine T_iload_n C.1 dX9_lays_50 3 rfl ?_
          refine T_putI C.1 LyI_Lay fd_X9_19 sh113 le113 dX9_lays_51 (fun m2 => ?_)
          refine T_goto (tgt := 62) C.1 dX9_lays_54 (by decide) ?_
          exact T_vret C.1 C.2.1 C.2.2 dX9_lays_62
      · refine T_aload_n C.1 dX9_lays_34 0 rfl ?_
        refine T_getR (x := 116) C.1 fd_X9_16 (fun _ _ _ _ => rfl) sh113 le113 (fun _ h => h) rfl (by decide) dX9_lays_35 ?_
        refine T_iload_n C.1 dX9_lays_38 2 rfl ?_
        refine T_iload_n C.1 dX9_lays_39 3 rfl ?_
        refine T_iast C.1 LyI_Lay sh116 le116 dX9_lays_40 (fun m3 => ?_)
        refine T_goto (tgt := 62) C.1 dX9_lays_41 (by decide) ?_
        exact T_vret C.1 C.2.1 C.2.2 dX9_lays_62
    · refine T_aload_n C.1 dX9_lays_19 0 rfl ?_
      refine T_getR (x := 115) C.1 fd_X9_13 (fun _ _ _ _ => rfl) sh113 le113 (fun _ h => h) rfl (by decide) dX9_lays_20 ?_
      refine T_iload_n C.1 dX9_lays_23 2 rfl ?_
      refine T_iload_n C.1 dX9_lays_24 3 rfl ?_
      refine T_iast C.1 LyI_Lay sh115 le115 dX9_lays_25 (fun m4 => ?_)
      refine T_goto (tgt := 62) C.1 dX9_lays_26 (by decide) ?_
      exact T_vret C.1 C.2.1 C.2.2 dX9_lays_62
  · refine T_aload_n C.1 dX9_lays_4 0 rfl ?_
    refine T_getR (x := 114) C.1 fd_X9_7 (fun _ _ _ _ => rfl) sh113 le113 (fun _ h => h) rfl (by decide) dX9_lays_5 ?_
    refine T_iload_n C.1 dX9_lays_8 2 rfl ?_
    refine T_iload_n C.1 dX9_lays_9 3 rfl ?_
    refine T_iast C.1 LyI_Lay sh114 le114 dX9_lays_10 (fun m5 => ?_)
    refine T_goto (tgt := 62) C.1 dX9_lays_11 (by decide) ?_
    exact T_vret C.1 C.2.1 C.2.2 dX9_lays_62
def rm_X9_changes : Room := { frames := 2, cells := 0, slots := 0, locals := 63 }
def F_X9_changes_121  (a1 : Int32) (a2 : Int32) (a3 : Int32) (a4 : Int32) (m : Mm) : Option (Int32 × Mm) :=
  wrI 40 m 125 (gI m 113 20) a1 fun m1 =>
  wrI 40 m1 126 (gI m1 113 20) a2 fun m2 =>
  wrI 40 m2 127 (gI m2 113 20) a4 fun m3 =>
  wrI 40 m3 128 (gI m3 113 20) a3 fun m4 =>
  nm (pI m4 113 20 ((gI m4 113 20) + (iI 1))) fun m5 =>
  bnd (F_X9_lays a1 a2 a3 m5) fun _ m7 =>
  some (a4, m7)
set_option maxRecDepth 100000 in
set_option maxHeartbeats 4000000 in
theorem t_X9_changes_121 {pp : Program} {ll : Launch} {ee : Env} {ss : State} {mm : MethodId} {aa : Array Value} {bb : List Frame} {me : Method} {co : Code} {cx : CX}     (C : CM pp ss mm aa me co cX9_changes 6 RX9 cx ((some .int)))    (a1 : Int32) (a2 : Int32) (a3 : Int32) (a4 : Int32) (m : Mm) : TI pp ll ee rm_X9_changes ss mm aa bb me co 6 cx 121 [(0, .ref (cx.2.2.1 + 113)), (1, .int a1), (2, .int a2), (3, .int a3), (4, .int a4)] [] m (F_X9_changes_121  a1 a2 a3 a4 m) := by
  unfold F_X9_changes_121
  refine T_aload_n C.1 dX9_changes_121 0 rfl ?_
  refine T_getR (x := 125) C.1 fd_X9_50 (fun _ _ _ _ => rfl) sh113 le113 (fun _ h => h) rfl (by decide) dX9_changes_122 ?_
  refine T_aload_n C.1 dX9_changes_125 0 rfl ?_
  refine T_getI C.1 fd_X9_187 (fun _ _ _ _ => rfl) sh113 le113 dX9_changes_126 ?_
  refine T_iload_n C.1 dX9_changes_129 1 rfl ?_
  refine T_iast C.1 LyI_Lay sh125 le125 dX9_changes_130 (fun m1 => ?_)
  refine T_aload_n C.1 dX9_changes_131 0 rfl ?_
  refine T_getR (x := 126) C.1 fd_X9_53 (fun _ _ _ _ => rfl) sh113 le113 (fun _ h => h) rfl (by decide) dX9_changes_132 ?_
  refine T_aload_n C.1 dX9_changes_135 0 rfl ?_
  refine T_getI C.1 fd_X9_187 (fun _ _ _ _ => rfl) sh113 le113 dX9_changes_136 ?_
  refine T_iload_n C.1 dX9_changes_139 2 rfl ?_
  refine T_iast C.1 LyI_Lay sh126 le126 dX9_changes_140 (fun m2 => ?_)
  refine T_aload_n C.1 dX9_changes_141 0 rfl ?_
  refine T_getR (x := 127) C.1 fd_X9_56 (fun _ _ _ _ => rfl) sh113 le113 (fun _ h => h) rfl (by decide) dX9_changes_142 ?_
  refine T_aload_n C.1 dX9_changes_145 0 rfl ?_
  refine T_getI C.1 fd_X9_187 (fun _ _ _ _ => rfl) sh113 le113 dX9_changes_146 ?_
  refine T_iload C.1 dX9_changes_149 4 rfl ?_
  refine T_iast C.1 LyI_Lay sh127 le127 dX9_changes_151 (fun m3 => ?_)
  refine T_aload_n C.1 dX9_changes_152 0 rfl ?_
  refine T_getR (x := 128) C.1 fd_X9_59 (fun _ _ _ _ => rfl) sh113 le113 (fun _ h => h) rfl (by decide) dX9_changes_153 ?_
  refine T_aload_n C.1 dX9_changes_156 0 rfl ?_
  refine T_getI C.1 fd_X9_187 (fun _ _ _ _ => rfl) sh113 le113 dX9_changes_157 ?_
  refine T_iload_n C.1 dX9_changes_160 3 rfl ?_
  refine T_iast C.1 LyI_Lay sh128 le128 dX9_changes_161 (fun m4 => ?_)
  refine T_aload_n C.1 dX9_changes_162 0 rfl ?_
  refine T_dup C.1 dX9_changes_163 rfl ?_
  refine T_getI C.1 fd_X9_187 (fun _ _ _ _ => rfl) sh113 le113 dX9_changes_164 ?_
  refine T_iconst C.1 dX9_changes_167 ?_
  refine T_iadd C.1 dX9_changes_168 ?_
  refine T_putI C.1 LyI_Lay fd_X9_187 sh113 le113 dX9_changes_169 (fun m5 => ?_)
  refine T_aload_n C.1 dX9_changes_172 0 rfl ?_
  refine T_iload_n C.1 dX9_changes_173 1 rfl ?_
  refine T_iload_n C.1 dX9_changes_174 2 rfl ?_
  refine T_iload_n C.1 dX9_changes_175 3 rfl ?_
  refine T_callVV (rm := rm_X9_lays) [.int a1, .int a2, .int a3] [] C.1 dX9_changes_176 mw_X9_lays wm_5_167 wm_5_169 wm_p_37 ⟨Nat.le_of_ble_eq_true rfl, Nat.le_of_ble_eq_true rfl⟩ ⟨rfl, rfl⟩ ⟨Nat.zero_le _, Nat.zero_le _⟩ rfl rfl (Nat.le_of_ble_eq_true rfl) sh113 le113 ⟨rfl, rfl⟩ (c_X9_lays ll cx a1 a2 a3 m5) (fun u6 m7 => ?_)
  refine T_iload C.1 dX9_changes_179 4 rfl ?_
  exact T_iret C.1 C.2.1 C.2.2 dX9_changes_181
def F_X9_changes_34  : Nat → Int32 → Int32 → Int32 → Int32 → Int32 → Mm → Option (Int32 × Mm)
  | 0, _, _, _, _, _, _ => none
  | f + 1, a1, a2, a3, a4, a5, m =>
    (if (iI 40) ≤ a5 then
      nm (pI m 113 20 ((gI m 113 20) - (iI 1))) fun m1 =>
      F_X9_changes_121 a1 a2 a3 a4 m1
    else
      rd 40 a5 fun j2 =>
      wrI 40 m 125 (a5 - (iI 1)) (gI m 125 j2) fun m3 =>
      rd 40 a5 fun j4 =>
      wrI 40 m3 126 (a5 - (iI 1)) (gI m3 126 j4) fun m5 =>
      rd 40 a5 fun j6 =>
      wrI 40 m5 127 (a5 - (iI 1)) (gI m5 127 j6) fun m7 =>
      rd 40 a5 fun j8 =>
      wrI 40 m7 128 (a5 - (iI 1)) (gI m7 128 j8) fun m9 =>
      nm (a5 + (iI 1)) fun v10 =>
      F_X9_changes_34  f a1 a2 a3 a4 v10 m9)
set_option maxRecDepth 100000 in
set_option maxHeartbeats 4000000 in
theorem t_X9_changes_34 {pp : Program} {ll : Launch} {ee : Env} {ss : State} {mm : MethodId} {aa : Array Value} {bb : List Frame} {me : Method} {co : Code} {cx : CX}     (C : CM pp ss mm aa me co cX9_changes 6 RX9 cx ((some .int)))    : ∀ (f : Nat) (a1 : Int32) (a2 : Int32) (a3 : Int32) (a4 : Int32) (a5 : Int32) (m : Mm), TI pp ll ee rm_X9_changes ss mm aa bb me co 6 cx 34 [(0, .ref (cx.2.2.1 + 113)), (1, .int a1), (2, .int a2), (3, .int a3), (4, .int a4), (5, .int a5)] [] m (F_X9_changes_34  f a1 a2 a3 a4 a5 m) := by
  intro f
  induction f with
  | zero => exact fun _ _ _ _ _ _ => T_none
  | succ f ih =>
    intro a1 a2 a3 a4 a5 m
    unfold F_X9_changes_34
    refine T_iload C.1 dX9_changes_34 5 rfl ?_
    refine T_bipush C.1 dX9_changes_36 rfl ?_
    refine T_icmp_ge (tgt := 111) C.1 dX9_changes_38 (by decide) ?_ ?_
    · refine T_aload_n C.1 dX9_changes_111 0 rfl ?_
      refine T_dup C.1 dX9_changes_112 rfl ?_
      refine T_getI C.1 fd_X9_187 (fun _ _ _ _ => rfl) sh113 le113 dX9_changes_113 ?_
      refine T_iconst C.1 dX9_changes_116 ?_
      refine T_isub C.1 dX9_changes_117 ?_
      refine T_putI C.1 LyI_Lay fd_X9_187 sh113 le113 dX9_changes_118 (fun m1 => ?_)
      exact T_sub [0, 1, 2, 3, 4] rfl (t_X9_changes_121 C a1 a2 a3 a4 m1)
    · refine T_aload_n C.1 dX9_changes_41 0 rfl ?_
      refine T_getR (x := 125) C.1 fd_X9_50 (fun _ _ _ _ => rfl) sh113 le113 (fun _ h => h) rfl (by decide) dX9_changes_42 ?_
      refine T_iload C.1 dX9_changes_45 5 rfl ?_
      refine T_iconst C.1 dX9_changes_47 ?_
      refine T_isub C.1 dX9_changes_48 ?_
      refine T_aload_n C.1 dX9_changes_49 0 rfl ?_
      refine T_getR (x := 125) C.1 fd_X9_50 (fun _ _ _ _ => rfl) sh113 le113 (fun _ h => h) rfl (by decide) dX9_changes_50 ?_
      refine T_iload C.1 dX9_changes_53 5 rfl ?_
      refine T_iald C.1 dX9_changes_55 sh125 le125 (fun j2 => ?_)
      refine T_iast C.1 LyI_Lay sh125 le125 dX9_changes_56 (fun m3 => ?_)
      refine T_aload_n C.1 dX9_changes_57 0 rfl ?_
      refine T_getR (x := 126) C.1 fd_X9_53 (fun _ _ _ _ => rfl) sh113 le113 (fun _ h => h) rfl (by decide) dX9_changes_58 ?_
      refine T_iload C.1 dX9_changes_61 5 rfl ?_
      refine T_iconst C.1 dX9_changes_63 ?_
      refine T_isub C.1 dX9_changes_64 ?_
      refine T_aload_n C.1 dX9_changes_65 0 rfl ?_
      refine T_getR (x := 126) C.1 fd_X9_53 (fun _ _ _ _ => rfl) sh113 le113 (fun _ h => h) rfl (by decide) dX9_changes_66 ?_
      refine T_iload C.1 dX9_changes_69 5 rfl ?_
      refine T_iald C.1 dX9_changes_71 sh126 le126 (fun j4 => ?_)
      refine T_iast C.1 LyI_Lay sh126 le126 dX9_changes_72 (fun m5 => ?_)
      refine T_aload_n C.1 dX9_changes_73 0 rfl ?_
      refine T_getR (x := 127) C.1 fd_X9_56 (fun _ _ _ _ => rfl) sh113 le113 (fun _ h => h) rfl (by decide) dX9_changes_74 ?_
      refine T_iload C.1 dX9_changes_77 5 rfl ?_
      refine T_iconst C.1 dX9_changes_79 ?_
      refine T_isub C.1 dX9_changes_80 ?_
      refine T_aload_n C.1 dX9_changes_81 0 rfl ?_
      refine T_getR (x := 127) C.1 fd_X9_56 (fun _ _ _ _ => rfl) sh113 le113 (fun _ h => h) rfl (by decide) dX9_changes_82 ?_
      refine T_iload C.1 dX9_changes_85 5 rfl ?_
      refine T_iald C.1 dX9_changes_87 sh127 le127 (fun j6 => ?_)
      refine T_iast C.1 LyI_Lay sh127 le127 dX9_changes_88 (fun m7 => ?_)
      refine T_aload_n C.1 dX9_changes_89 0 rfl ?_
      refine T_getR (x := 128) C.1 fd_X9_59 (fun _ _ _ _ => rfl) sh113 le113 (fun _ h => h) rfl (by decide) dX9_changes_90 ?_
      refine T_iload C.1 dX9_changes_93 5 rfl ?_
      refine T_iconst C.1 dX9_changes_95 ?_
      refine T_isub C.1 dX9_changes_96 ?_
      refine T_aload_n C.1 dX9_changes_97 0 rfl ?_
      refine T_getR (x := 128) C.1 fd_X9_59 (fun _ _ _ _ => rfl) sh113 le113 (fun _ h => h) rfl (by decide) dX9_changes_98 ?_
      refine T_iload C.1 dX9_changes_101 5 rfl ?_
      refine T_iald C.1 dX9_changes_103 sh128 le128 (fun j8 => ?_)
      refine T_iast C.1 LyI_Lay sh128 le128 dX9_changes_104 (fun m9 => ?_)
      refine T_iincN C.1 (fun v10 => [(5, .int v10), (0, .ref (cx.2.2.1 + 113)), (1, .int a1), (2, .int a2), (3, .int a3), (4, .int a4)]) dX9_changes_105 5 rfl (by decide) (fun _ => rfl) (fun v10 => ?_)
      refine T_goto (tgt := 34) C.1 dX9_changes_108 (by decide) ?_
      exact T_sub [1, 2, 3, 4, 5, 0] rfl (ih a1 a2 a3 a4 v10 m9)
def F_X9_changes  (x1 : Int32) (x2 : Int32) (x3 : Int32) (m : Mm) : Option (Int32 × Mm) :=
  bnd (F_X9_valueAt x1 x2 m) fun v1 m2 =>
  (if v1 = x3 then
    some (v1, m2)
  else
    nm (pI m2 113 21 (iI 0)) fun m3 =>
    (if (gI m3 113 20) = (iI 40) then
      F_X9_changes_34 FU x1 x2 x3 v1 (iI 1) m3
    else
      F_X9_changes_121 x1 x2 x3 v1 m3))
set_option maxRecDepth 100000 in
set_option maxHeartbeats 4000000 in
theorem c_X9_changes (ll : Launch) (cx : CX) (x1 : Int32) (x2 : Int32) (x3 : Int32) (m : Mm) : MT ll yX9_changes cX9_changes 6 ((some .int)) rm_X9_changes cx NN NN Lay cvI 0 0 [.ref (cx.2.2.1 + 113), .int x1, .int x2, .int x3] m (F_X9_changes x1 x2 x3 m) := by
  refine MT_of (by decide) (Nat.le_of_ble_eq_true rfl) ?_
  intro pp ee ss mm aa bb me co hK hr hk hn
  have C : CM pp ss mm aa me co cX9_changes 6 RX9 cx ((some .int)) := ⟨hK, hr, hk⟩
  show TI pp ll ee rm_X9_changes ss mm aa bb me co 6 cx 0 [(0, .ref (cx.2.2.1 + 113)), (1, .int x1), (2, .int x2), (3, .int x3)] [] m (F_X9_changes x1 x2 x3 m)
  unfold F_X9_changes
  refine T_aload_n C.1 dX9_changes_0 0 rfl ?_
  refine T_iload_n C.1 dX9_changes_1 1 rfl ?_
  refine T_iload_n C.1 dX9_changes_2 2 rfl ?_
  refine T_callVI (rm := rm_X9_valueAt) [.int x1, .int x2] [] C.1 dX9_changes_3 mw_X9_valueAt wm_5_194 wm_5_196 wm_p_41 ⟨Nat.le_of_ble_eq_true rfl, Nat.le_of_ble_eq_true rfl⟩ ⟨rfl, rfl⟩ ⟨Nat.zero_le _, Nat.zero_le _⟩ rfl rfl (Nat.le_of_ble_eq_true rfl) sh113 le113 ⟨rfl, rfl⟩ (c_X9_valueAt ll cx x1 x2 m) (fun v1 m2 => ?_)
  refine T_istore (lv' := [(4, .int v1), (0, .ref (cx.2.2.1 + 113)), (1, .int x1), (2, .int x2), (3, .int x3)]) C.1 dX9_changes_6 (by decide) rfl ?_
  refine T_iload C.1 dX9_changes_8 0 rfl ?_
  refine T_iload_n C.1 dX9_changes_10 4 rfl ?_
  refine T_icmp_ne (tgt := 17) C.1 dX9_changes_11 (by decide) ?_ ?_
  · refine T_aload_n C.1 dX9_changes_17 1 rfl ?_
    refine T_iconst C.1 dX9_changes_18 ?_
    refine T_putI C.1 LyI_Lay fd_X9_184 sh113 le113 dX9_changes_19 (fun m3 => ?_)
    refine T_aload_n C.1 dX9_changes_22 1 rfl ?_
    refine T_getI C.1 fd_X9_187 (fun _ _ _ _ => rfl) sh113 le113 dX9_changes_23 ?_
    refine T_bipush C.1 dX9_changes_26 rfl ?_
    refine T_icmp_ne (tgt := 121) C.1 dX9_changes_28 (by decide) ?_ ?_
    · exact T_sub [1, 2, 3, 4, 0] rfl (t_X9_changes_121 C x1 x2 x3 v1 m3)
    · refine T_iconst C.1 dX9_changes_31 ?_
      refine T_istore (lv' := [(5, .int (iI 1)), (4, .int v1), (0, .ref (cx.2.2.1 + 113)), (1, .int x1), (2, .int x2), (3, .int x3)]) C.1 dX9_changes_32 (by decide) rfl ?_
      exact T_sub [2, 3, 4, 5, 1, 0] rfl (t_X9_changes_34 C FU x1 x2 x3 v1 (iI 1) m3)
  · refine T_iload C.1 dX9_changes_14 0 rfl ?_
    exact T_iret C.1 C.2.1 C.2.2 dX9_changes_16
def rm_X9_undo : Room := { frames := 2, cells := 0, slots := 0, locals := 63 }
def F_X9_undo   (m : Mm) : Option (Int32 × Mm) :=
  (if (gI m 113 20) = iI 0 then
    some ((iI (-5)), m)
  else
    nm (pI m 113 20 ((gI m 113 20) - (iI 1))) fun m1 =>
    nm (pI m1 113 21 ((gI m1 113 21) + (iI 1))) fun m2 =>
    rd 40 (gI m2 113 20) fun j3 =>
    rd 40 (gI m2 113 20) fun j4 =>
    rd 40 (gI m2 113 20) fun j5 =>
    bnd (F_X9_lays (gI m2 125 j3) (gI m2 126 j4) (gI m2 127 j5) m2) fun _ m7 =>
    some ((gI m7 113 20), m7))
set_option maxRecDepth 100000 in
set_option maxHeartbeats 4000000 in
theorem c_X9_undo (ll : Launch) (cx : CX)  (m : Mm) : MT ll yX9_undo cX9_undo 1 ((some .int)) rm_X9_undo cx NN NN Lay cvI 0 0 [.ref (cx.2.2.1 + 113)] m (F_X9_undo  m) := by
  refine MT_of (by decide) (Nat.le_of_ble_eq_true rfl) ?_
  intro pp ee ss mm aa bb me co hK hr hk hn
  have C : CM pp ss mm aa me co cX9_undo 1 RX9 cx ((some .int)) := ⟨hK, hr, hk⟩
  show TI pp ll ee rm_X9_undo ss mm aa bb me co 1 cx 0 [(0, .ref (cx.2.2.1 + 113))] [] m (F_X9_undo  m)
  unfold F_X9_undo
  refine T_aload_n C.1 dX9_undo_0 0 rfl ?_
  refine T_getI C.1 fd_X9_187 (fun _ _ _ _ => rfl) sh113 le113 dX9_undo_1 ?_
  refine T_if_ne (tgt := 10) C.1 dX9_undo_4 (by decide) ?_ ?_
  · refine T_aload_n C.1 dX9_undo_10 0 rfl ?_
    refine T_dup C.1 dX9_undo_11 rfl ?_
    refine T_getI C.1 fd_X9_187 (fun _ _ _ _ => rfl) sh113 le113 dX9_undo_12 ?_
    refine T_iconst C.1 dX9_undo_15 ?_
    refine T_isub C.1 dX9_undo_16 ?_
    refine T_putI C.1 LyI_Lay fd_X9_187 sh113 le113 dX9_undo_17 (fun m1 => ?_)
    refine T_aload_n C.1 dX9_undo_20 0 rfl ?_
    refine T_dup C.1 dX9_undo_21 rfl ?_
    refine T_getI C.1 fd_X9_184 (fun _ _ _ _ => rfl) sh113 le113 dX9_undo_22 ?_
    refine T_iconst C.1 dX9_undo_25 ?_
    refine T_iadd C.1 dX9_undo_26 ?_
    refine T_putI C.1 LyI_Lay fd_X9_184 sh113 le113 dX9_undo_27 (fun m2 => ?_)
    refine T_aload_n C.1 dX9_undo_30 0 rfl ?_
    refine T_aload_n C.1 dX9_undo_31 0 rfl ?_
    refine T_getR (x := 125) C.1 fd_X9_50 (fun _ _ _ _ => rfl) sh113 le113 (fun _ h => h) rfl (by decide) dX9_undo_32 ?_
    refine T_aload_n C.1 dX9_undo_35 0 rfl ?_
    refine T_getI C.1 fd_X9_187 (fun _ _ _ _ => rfl) sh113 le113 dX9_undo_36 ?_
    refine T_iald C.1 dX9_undo_39 sh125 le125 (fun j3 => ?_)
    refine T_aload_n C.1 dX9_undo_40 0 rfl ?_
    refine T_getR (x := 126) C.1 fd_X9_53 (fun _ _ _ _ => rfl) sh113 le113 (fun _ h => h) rfl (by decide) dX9_undo_41 ?_
    refine T_aload_n C.1 dX9_undo_44 0 rfl ?_
    refine T_getI C.1 fd_X9_187 (fun _ _ _ _ => rfl) sh113 le113 dX9_undo_45 ?_
    refine T_iald C.1 dX9_undo_48 sh126 le126 (fun j4 => ?_)
    refine T_aload_n C.1 dX9_undo_49 0 rfl ?_
    refine T_getR (x := 127) C.1 fd_X9_56 (fun _ _ _ _ => rfl) sh113 le113 (fun _ h => h) rfl (by decide) dX9_undo_50 ?_
    refine T_aload_n C.1 dX9_undo_53 0 rfl ?_
    refine T_getI C.1 fd_X9_187 (fun _ _ _ _ => rfl) sh113 le113 dX9_undo_54 ?_
    refine T_iald C.1 dX9_undo_57 sh127 le127 (fun j5 => ?_)
    refine T_callVV (rm := rm_X9_lays) [.int (gI m2 125 j3), .int (gI m2 126 j4), .int (gI m2 127 j5)] [] C.1 dX9_undo_58 mw_X9_lays wm_5_167 wm_5_169 wm_p_37 ⟨Nat.le_of_ble_eq_true rfl, Nat.le_of_ble_eq_true rfl⟩ ⟨rfl, rfl⟩ ⟨Nat.zero_le _, Nat.zero_le _⟩ rfl rfl (Nat.le_of_ble_eq_true rfl) sh113 le113 ⟨rfl, rfl⟩ (c_X9_lays ll cx (gI m2 125 j3) (gI m2 126 j4) (gI m2 127 j5) m2) (fun u6 m7 => ?_)
    refine T_aload_n C.1 dX9_undo_61 0 rfl ?_
    refine T_getI C.1 fd_X9_187 (fun _ _ _ _ => rfl) sh113 le113 dX9_undo_62 ?_
    exact T_iret C.1 C.2.1 C.2.2 dX9_undo_65
  · refine T_bipush C.1 dX9_undo_7 rfl ?_
    exact T_iret C.1 C.2.1 C.2.2 dX9_undo_9
def rm_X9_redo : Room := { frames := 2, cells := 0, slots := 0, locals := 63 }
def F_X9_redo   (m : Mm) : Option (Int32 × Mm) :=
  (if (gI m 113 21) = iI 0 then
    some ((iI (-5)), m)
  else
    rd 40 (gI m 113 20) fun j1 =>
    rd 40 (gI m 113 20) fun j2 =>
    rd 40 (gI m 113 20) fun j3 =>
    bnd (F_X9_lays (gI m 125 j1) (gI m 126 j2) (gI m 128 j3) m) fun _ m5 =>
    nm (pI m5 113 20 ((gI m5 113 20) + (iI 1))) fun m6 =>
    nm (pI m6 113 21 ((gI m6 113 21) - (iI 1))) fun m7 =>
    some ((gI m7 113 21), m7))
set_option maxRecDepth 100000 in
set_option maxHeartbeats 4000000 in
theorem c_X9_redo (ll : Launch) (cx : CX)  (m : Mm) : MT ll yX9_redo cX9_redo 1 ((some .int)) rm_X9_redo cx NN NN Lay cvI 0 0 [.ref (cx.2.2.1 + 113)] m (F_X9_redo  m) := by
  refine MT_of (by decide) (Nat.le_of_ble_eq_true rfl) ?_
  intro pp ee ss mm aa bb me co hK hr hk hn
  have C : CM pp ss mm aa me co cX9_redo 1 RX9 cx ((some .int)) := ⟨hK, hr, hk⟩
  show TI pp ll ee rm_X9_redo ss mm aa bb me co 1 cx 0 [(0, .ref (cx.2.2.1 + 113))] [] m (F_X9_redo  m)
  unfold F_X9_redo
  refine T_aload_n C.1 dX9_redo_0 0 rfl ?_
  refine T_getI C.1 fd_X9_184 (fun _ _ _ _ => rfl) sh113 le113 dX9_redo_1 ?_
  refine T_if_ne (tgt := 10) C.1 dX9_redo_4 (by decide) ?_ ?_
  · refine T_aload_n C.1 dX9_redo_10 0 rfl ?_
    refine T_aload_n C.1 dX9_redo_11 0 rfl ?_
    refine T_getR (x := 125) C.1 fd_X9_50 (fun _ _ _ _ => rfl) sh113 le113 (fun _ h => h) rfl (by decide) dX9_redo_12 ?_
    refine T_aload_n C.1 dX9_redo_15 0 rfl ?_
    refine T_getI C.1 fd_X9_187 (fun _ _ _ _ => rfl) sh113 le113 dX9_redo_16 ?_
    refine T_iald C.1 dX9_redo_19 sh125 le125 (fun j1 => ?_)
    refine T_aload_n C.1 dX9_redo_20 0 rfl ?_
    refine T_getR (x := 126) C.1 fd_X9_53 (fun _ _ _ _ => rfl) sh113 le113 (fun _ h => h) rfl (by decide) dX9_redo_21 ?_
    refine T_aload_n C.1 dX9_redo_24 0 rfl ?_
    refine T_getI C.1 fd_X9_187 (fun _ _ _ _ => rfl) sh113 le113 dX9_redo_25 ?_
    refine T_iald C.1 dX9_redo_28 sh126 le126 (fun j2 => ?_)
    refine T_aload_n C.1 dX9_redo_29 0 rfl ?_
    refine T_getR (x := 128) C.1 fd_X9_59 (fun _ _ _ _ => rfl) sh113 le113 (fun _ h => h) rfl (by decide) dX9_redo_30 ?_
    refine T_aload_n C.1 dX9_redo_33 0 rfl ?_
    refine T_getI C.1 fd_X9_187 (fun _ _ _ _ => rfl) sh113 le113 dX9_redo_34 ?_
    refine T_iald C.1 dX9_redo_37 sh128 le128 (fun j3 => ?_)
    refine T_callVV (rm := rm_X9_lays) [.int (gI m 125 j1), .int (gI m 126 j2), .int (gI m 128 j3)] [] C.1 dX9_redo_38 mw_X9_lays wm_5_167 wm_5_169 wm_p_37 ⟨Nat.le_of_ble_eq_true rfl, Nat.le_of_ble_eq_true rfl⟩ ⟨rfl, rfl⟩ ⟨Nat.zero_le _, Nat.zero_le _⟩ rfl rfl (Nat.le_of_ble_eq_true rfl) sh113 le113 ⟨rfl, rfl⟩ (c_X9_lays ll cx (gI m 125 j1) (gI m 126 j2) (gI m 128 j3) m) (fun u4 m5 => ?_)
    refine T_aload_n C.1 dX9_redo_41 0 rfl ?_
    refine T_dup C.1 dX9_redo_42 rfl ?_
    refine T_getI C.1 fd_X9_187 (fun _ _ _ _ => rfl) sh113 le113 dX9_redo_43 ?_
    refine T_iconst C.1 dX9_redo_46 ?_
    refine T_iadd C.1 dX9_redo_47 ?_
    refine T_putI C.1 LyI_Lay fd_X9_187 sh113 le113 dX9_redo_48 (fun m6 => ?_)
    refine T_aload_n C.1 dX9_redo_51 0 rfl ?_
    refine T_dup C.1 dX9_redo_52 rfl ?_
    refine T_getI C.1 fd_X9_184 (fun _ _ _ _ => rfl) sh113 le113 dX9_redo_53 ?_
    refine T_iconst C.1 dX9_redo_56 ?_
    refine T_isub C.1 dX9_redo_57 ?_
    refine T_putI C.1 LyI_Lay fd_X9_184 sh113 le113 dX9_redo_58 (fun m7 => ?_)
    refine T_aload_n C.1 dX9_redo_61 0 rfl ?_
    refine T_getI C.1 fd_X9_184 (fun _ _ _ _ => rfl) sh113 le113 dX9_redo_62 ?_
    exact T_iret C.1 C.2.1 C.2.2 dX9_redo_65
  · refine T_bipush C.1 dX9_redo_7 rfl ?_
    exact T_iret C.1 C.2.1 C.2.2 dX9_redo_9
def rm_X9_areBoth : Room := { frames := 3, cells := 0, slots := 0, locals := 83 }
def F_X9_areBoth  (x1 : Int32) (m : Mm) : Option (Int32 × Mm) :=
  (if x1 < iI 0 then
    rz (iI 0) m
  else
    dvI x1 (iI 10) fun v1 =>
    bnd (F_X9_isPerson v1 m) fun v2 m3 =>
    (if v2 = iI 0 then
      rz (iI 0) m3
    else
      rmI x1 (iI 10) fun v4 =>
      bnd (F_X9_isPerson v4 m3) fun v5 m6 =>
      (if v5 = iI 0 then
        rz (iI 0) m6
      else
        rz (iI 1) m6)))
set_option maxRecDepth 100000 in
set_option maxHeartbeats 4000000 in
theorem c_X9_areBoth (ll : Launch) (cx : CX) (x1 : Int32) (m : Mm) : MT ll yX9_areBoth cX9_areBoth 2 ((some .boolean)) rm_X9_areBoth cx NN NN Lay cvI 0 0 [.ref (cx.2.2.1 + 113), .int x1] m (F_X9_areBoth x1 m) := by
  refine MT_of (by decide) (Nat.le_of_ble_eq_true rfl) ?_
  intro pp ee ss mm aa bb me co hK hr hk hn
  have C : CM pp ss mm aa me co cX9_areBoth 2 RX9 cx ((some .boolean)) := ⟨hK, hr, hk⟩
  show TI pp ll ee rm_X9_areBoth ss mm aa bb me co 2 cx 0 [(0, .ref (cx.2.2.1 + 113)), (1, .int x1)] [] m (F_X9_areBoth x1 m)
  unfold F_X9_areBoth
  refine T_iload_n C.1 dX9_areBoth_0 1 rfl ?_
  refine T_if_lt (tgt := 30) C.1 dX9_areBoth_1 (by decide) ?_ ?_
  · refine T_iconst C.1 dX9_areBoth_30 ?_
    exact T_zret C.1 C.2.1 C.2.2 dX9_areBoth_31
  · refine T_aload_n C.1 dX9_areBoth_4 0 rfl ?_
    refine T_iload_n C.1 dX9_areBoth_5 1 rfl ?_
    refine T_bipush C.1 dX9_areBoth_6 rfl ?_
    refine T_idiv C.1 dX9_areBoth_8 (fun v1 => ?_)
    refine T_callVI (rm := rm_X9_isPerson) [.int v1] [] C.1 dX9_areBoth_9 mw_X9_isPerson wm_5_183 wm_5_185 wm_p_39 ⟨Nat.le_of_ble_eq_true rfl, Nat.le_of_ble_eq_true rfl⟩ ⟨rfl, rfl⟩ ⟨Nat.zero_le _, Nat.zero_le _⟩ rfl rfl (Nat.le_of_ble_eq_true rfl) sh113 le113 ⟨rfl, rfl⟩ (c_X9_isPerson ll cx v1 m) (fun v2 m3 => ?_)
    refine T_if_eq (tgt := 30) C.1 dX9_areBoth_12 (by decide) ?_ ?_
    · refine T_iconst C.1 dX9_areBoth_30 ?_
      exact T_zret C.1 C.2.1 C.2.2 dX9_areBoth_31
    · refine T_aload_n C.1 dX9_areBoth_15 0 rfl ?_
      refine T_iload_n C.1 dX9_areBoth_16 1 rfl ?_
      refine T_bipush C.1 dX9_areBoth_17 rfl ?_
      refine T_irem C.1 dX9_areBoth_19 (fun v4 => ?_)
      refine T_callVI (rm := rm_X9_isPerson) [.int v4] [] C.1 dX9_areBoth_20 mw_X9_isPerson wm_5_183 wm_5_185 wm_p_39 ⟨Nat.le_of_ble_eq_true rfl, Nat.le_of_ble_eq_true rfl⟩ ⟨rfl, rfl⟩ ⟨Nat.zero_le _, Nat.zero_le _⟩ rfl rfl (Nat.le_of_ble_eq_true rfl) sh113 le113 ⟨rfl, rfl⟩ (c_X9_isPerson ll cx v4 m3) (fun v5 m6 => ?_)
      refine T_if_eq (tgt := 30) C.1 dX9_areBoth_23 (by decide) ?_ ?_
      · refine T_iconst C.1 dX9_areBoth_30 ?_
        exact T_zret C.1 C.2.1 C.2.2 dX9_areBoth_31
      · refine T_iconst C.1 dX9_areBoth_26 ?_
        refine T_goto (tgt := 31) C.1 dX9_areBoth_27 (by decide) ?_
        exact T_zret C.1 C.2.1 C.2.2 dX9_areBoth_31
def rm_X9_place : Room := { frames := 1, cells := 0, slots := 0, locals := 40 }
def F_X9_place  (x1 : Int32) (m : Mm) : Option (Int32 × Mm) :=
  dvI x1 (iI 10) fun v1 =>
  rmI x1 (iI 10) fun v2 =>
  some ((((iI 7) * v1) + v2), m)
set_option maxRecDepth 100000 in
set_option maxHeartbeats 4000000 in
theorem c_X9_place (ll : Launch) (cx : CX) (x1 : Int32) (m : Mm) : MT ll yX9_place cX9_place 1 ((some .int)) rm_X9_place cx NN NN Lay cvI 0 0 [.int x1] m (F_X9_place x1 m) := by
  refine MT_of (by decide) (Nat.le_of_ble_eq_true rfl) ?_
  intro pp ee ss mm aa bb me co hK hr hk hn
  have C : CM pp ss mm aa me co cX9_place 1 RX9 cx ((some .int)) := ⟨hK, hr, hk⟩
  show TI pp ll ee rm_X9_place ss mm aa bb me co 1 cx 0 [(0, .int x1)] [] m (F_X9_place x1 m)
  unfold F_X9_place
  refine T_bipush C.1 dX9_place_0 rfl ?_
  refine T_iload_n C.1 dX9_place_2 0 rfl ?_
  refine T_bipush C.1 dX9_place_3 rfl ?_
  refine T_idiv C.1 dX9_place_5 (fun v1 => ?_)
  refine T_imul C.1 dX9_place_6 ?_
  refine T_iload_n C.1 dX9_place_7 0 rfl ?_
  refine T_bipush C.1 dX9_place_8 rfl ?_
  refine T_irem C.1 dX9_place_10 (fun v2 => ?_)
  refine T_iadd C.1 dX9_place_11 ?_
  exact T_iret C.1 C.2.1 C.2.2 dX9_place_12
def rm_X9_mend : Room := { frames := 4, cells := 0, slots := 0, locals := 104 }
def F_X9_mend  (x1 : Int32) (x2 : Int32) (x3 : Int32) (m : Mm) : Option (Int32 × Mm) :=
  tsw x2 (0) [(bnd (F_X9_areBoth x1 m) fun v1 m2 =>
  (if v1 = iI 0 then
    some ((iI (-1)), m2)
  else
    bnd (F_X9_in x3 (iI 0) (iI 99) m2) fun v3 m4 =>
    (if v3 = iI 0 then
      some ((iI (-1)), m4)
    else
      bnd (F_X9_place x1 m4) fun v5 m6 =>
      bnd (F_X9_changes (iI 0) v5 x3 m6) fun v7 m8 =>
      some (v7, m8)))),
   (bnd (F_X9_areBoth x1 m) fun v9 m10 =>
  (if v9 = iI 0 then
    some ((iI (-1)), m10)
  else
    dvI x1 (iI 10) fun v11 =>
    rmI x1 (iI 10) fun v12 =>
    (if v11 = v12 then
      some ((iI (-1)), m10)
    else
      bnd (F_X9_in x3 (iI 0) (iI 9) m10) fun v13 m14 =>
      (if v13 = iI 0 then
        some ((iI (-1)), m14)
      else
        bnd (F_X9_place x1 m14) fun v15 m16 =>
        bnd (F_X9_changes (iI 1) v15 x3 m16) fun v17 m18 =>
        some (v17, m18))))),
   (bnd (F_X9_isPerson x1 m) fun v19 m20 =>
  (if v19 = iI 0 then
    some ((iI (-1)), m20)
  else
    bnd (F_X9_in x3 (iI 0) (iI 2) m20) fun v21 m22 =>
    (if v21 = iI 0 then
      some ((iI (-1)), m22)
    else
      bnd (F_X9_changes (iI 2) x1 x3 m22) fun v23 m24 =>
      some (v23, m24)))),
   ((if x1 = iI 0 then
    bnd (F_X9_in x3 (iI 1) (iI 3) m) fun v25 m26 =>
    (if v25 = iI 0 then
      some ((iI (-1)), m26)
    else
      bnd (F_X9_changes (iI 3) (iI 0) x3 m26) fun v27 m28 =>
      some (v27, m28))
  else
    some ((iI (-1)), m))),
   ((if x1 = iI 0 then
    bnd (F_X9_in x3 (iI 0) (iI 1) m) fun v29 m30 =>
    (if v29 = iI 0 then
      some ((iI (-1)), m30)
    else
      bnd (F_X9_changes (iI 4) (iI 0) x3 m30) fun v31 m32 =>
      some (v31, m32))
  else
    some ((iI (-1)), m)))] (some ((iI (-1)), m))
set_option maxRecDepth 100000 in
set_option maxHeartbeats 4000000 in
theorem c_X9_mend (ll : Launch) (cx : CX) (x1 : Int32) (x2 : Int32) (x3 : Int32) (m : Mm) : MT ll yX9_mend cX9_mend 4 ((some .int)) rm_X9_mend cx NN NN Lay cvI 0 0 [.ref (cx.2.2.1 + 113), .int x1, .int x2, .int x3] m (F_X9_mend x1 x2 x3 m) := by
  refine MT_of (by decide) (Nat.le_of_ble_eq_true rfl) ?_
  intro pp ee ss mm aa bb me co hK hr hk hn
  have C : CM pp ss mm aa me co cX9_mend 4 RX9 cx ((some .int)) := ⟨hK, hr, hk⟩
  show TI pp ll ee rm_X9_mend ss mm aa bb me co 4 cx 0 [(0, .ref (cx.2.2.1 + 113)), (1, .int x1), (2, .int x2), (3, .int x3)] [] m (F_X9_mend x1 x2 x3 m)
  unfold F_X9_mend
  refine T_iload_n C.1 dX9_mend_0 2 rfl ?_
  refine T_tsw (lo := (0)) (os := [35, 68, 112, 141, 166]) C.1 dX9_mend_1 rfl (by decide) (tgd := 192) (by decide) ⟨⟨36, by decide, ?_⟩, ⟨69, by decide, ?_⟩, ⟨113, by decide, ?_⟩, ⟨142, by decide, ?_⟩, ⟨167, by decide, ?_⟩, trivial⟩ ?_
  · show TI pp ll ee rm_X9_mend ss mm aa bb me co 4 cx _ _ _ _ _
    refine T_aload_n C.1 dX9_mend_36 0 rfl ?_
    refine T_iload_n C.1 dX9_mend_37 1 rfl ?_
    refine T_callVI (rm := rm_X9_areBoth) [.int x1] [] C.1 dX9_mend_38 mw_X9_areBoth wm_5_179 wm_5_181 wm_p_38 ⟨Nat.le_of_ble_eq_true rfl, Nat.le_of_ble_eq_true rfl⟩ ⟨rfl, rfl⟩ ⟨Nat.zero_le _, Nat.zero_le _⟩ rfl rfl (Nat.le_of_ble_eq_true rfl) sh113 le113 ⟨rfl, rfl⟩ (c_X9_areBoth ll cx x1 m) (fun v1 m2 => ?_)
    refine T_if_eq (tgt := 67) C.1 dX9_mend_41 (by decide) ?_ ?_
    · refine T_iconst C.1 dX9_mend_67 ?_
      exact T_iret C.1 C.2.1 C.2.2 dX9_mend_68
    · refine T_iload_n C.1 dX9_mend_44 3 rfl ?_
      refine T_iconst C.1 dX9_mend_45 ?_
      refine T_bipush C.1 dX9_mend_46 rfl ?_
      refine T_callSI (rm := rm_X9_in) [.int x3, .int (iI 0), .int (iI 99)] [] C.1 dX9_mend_48 mw_X9_in wm_5_145 wm_5_146 ⟨Nat.le_of_ble_eq_true rfl, Nat.le_of_ble_eq_true rfl⟩ ⟨rfl, rfl⟩ ⟨Nat.zero_le _, Nat.zero_le _⟩ rfl rfl (Nat.le_of_ble_eq_true rfl) (c_X9_in ll cx x3 (iI 0) (iI 99) m2) (fun v3 m4 => ?_)
      refine T_if_eq (tgt := 67) C.1 dX9_mend_51 (by decide) ?_ ?_
      · refine T_iconst C.1 dX9_mend_67 ?_
        exact T_iret C.1 C.2.1 C.2.2 dX9_mend_68
      · refine T_aload_n C.1 dX9_mend_54 0 rfl ?_
        refine T_iconst C.1 dX9_mend_55 ?_
        refine T_iload_n C.1 dX9_mend_56 1 rfl ?_
        refine T_callSI (rm := rm_X9_place) [.int x1] [.int (iI 0), .ref (cx.2.2.1 + 113)] C.1 dX9_mend_57 mw_X9_place wm_5_187 wm_5_188 ⟨Nat.le_of_ble_eq_true rfl, Nat.le_of_ble_eq_true rfl⟩ ⟨rfl, rfl⟩ ⟨Nat.zero_le _, Nat.zero_le _⟩ rfl rfl (Nat.le_of_ble_eq_true rfl) (c_X9_place ll cx x1 m4) (fun v5 m6 => ?_)
        refine T_iload_n C.1 dX9_mend_60 3 rfl ?_
        refine T_callVI (rm := rm_X9_changes) [.int (iI 0), .int v5, .int x3] [] C.1 dX9_mend_61 mw_X9_changes wm_5_190 wm_5_192 wm_p_40 ⟨Nat.le_of_ble_eq_true rfl, Nat.le_of_ble_eq_true rfl⟩ ⟨rfl, rfl⟩ ⟨Nat.zero_le _, Nat.zero_le _⟩ rfl rfl (Nat.le_of_ble_eq_true rfl) sh113 le113 ⟨rfl, rfl⟩ (c_X9_changes ll cx (iI 0) v5 x3 m6) (fun v7 m8 => ?_)
        refine T_goto (tgt := 68) C.1 dX9_mend_64 (by decide) ?_
        exact T_iret C.1 C.2.1 C.2.2 dX9_mend_68
  · show TI pp ll ee rm_X9_mend ss mm aa bb me co 4 cx _ _ _ _ _
    refine T_aload_n C.1 dX9_mend_69 0 rfl ?_
    refine T_iload_n C.1 dX9_mend_70 1 rfl ?_
    refine T_callVI (rm := rm_X9_areBoth) [.int x1] [] C.1 dX9_mend_71 mw_X9_areBoth wm_5_179 wm_5_181 wm_p_38 ⟨Nat.le_of_ble_eq_true rfl, Nat.le_of_ble_eq_true rfl⟩ ⟨rfl, rfl⟩ ⟨Nat.zero_le _, Nat.zero_le _⟩ rfl rfl (Nat.le_of_ble_eq_true rfl) sh113 le113 ⟨rfl, rfl⟩ (c_X9_areBoth ll cx x1 m) (fun v9 m10 => ?_)
    refine T_if_eq (tgt := 111) C.1 dX9_mend_74 (by decide) ?_ ?_
    · refine T_iconst C.1 dX9_mend_111 ?_
      exact T_iret C.1 C.2.1 C.2.2 dX9_mend_112
    · refine T_iload_n C.1 dX9_mend_77 1 rfl ?_
      refine T_bipush C.1 dX9_mend_78 rfl ?_
      refine T_idiv C.1 dX9_mend_80 (fun v11 => ?_)
      refine T_iload_n C.1 dX9_mend_81 1 rfl ?_
      refine T_bipush C.1 dX9_mend_82 rfl ?_
      refine T_irem C.1 dX9_mend_84 (fun v12 => ?_)
      refine T_icmp_eq (tgt := 111) C.1 dX9_mend_85 (by decide) ?_ ?_
      · refine T_iconst C.1 dX9_mend_111 ?_
        exact T_iret C.1 C.2.1 C.2.2 dX9_mend_112
      · refine T_iload_n C.1 dX9_mend_88 3 rfl ?_
        refine T_iconst C.1 dX9_mend_89 ?_
        refine T_bipush C.1 dX9_mend_90 rfl ?_
        refine T_callSI (rm := rm_X9_in) [.int x3, .int (iI 0), .int (iI 9)] [] C.1 dX9_mend_92 mw_X9_in wm_5_145 wm_5_146 ⟨Nat.le_of_ble_eq_true rfl, Nat.le_of_ble_eq_true rfl⟩ ⟨rfl, rfl⟩ ⟨Nat.zero_le _, Nat.zero_le _⟩ rfl rfl (Nat.le_of_ble_eq_true rfl) (c_X9_in ll cx x3 (iI 0) (iI 9) m10) (fun v13 m14 => ?_)
        refine T_if_eq (tgt := 111) C.1 dX9_mend_95 (by decide) ?_ ?_
        · refine T_iconst C.1 dX9_mend_111 ?_
          exact T_iret C.1 C.2.1 C.2.2 dX9_mend_112
        · refine T_aload_n C.1 dX9_mend_98 0 rfl ?_
          refine T_iconst C.1 dX9_mend_99 ?_
          refine T_iload_n C.1 dX9_mend_100 1 rfl ?_
          refine T_callSI (rm := rm_X9_place) [.int x1] [.int (iI 1), .ref (cx.2.2.1 + 113)] C.1 dX9_mend_101 mw_X9_place wm_5_187 wm_5_188 ⟨Nat.le_of_ble_eq_true rfl, Nat.le_of_ble_eq_true rfl⟩ ⟨rfl, rfl⟩ ⟨Nat.zero_le _, Nat.zero_le _⟩ rfl rfl (Nat.le_of_ble_eq_true rfl) (c_X9_place ll cx x1 m14) (fun v15 m16 => ?_)
          refine T_iload_n C.1 dX9_mend_104 3 rfl ?_
          refine T_callVI (rm := rm_X9_changes) [.int (iI 1), .int v15, .int x3] [] C.1 dX9_mend_105 mw_X9_changes wm_5_190 wm_5_192 wm_p_40 ⟨Nat.le_of_ble_eq_true rfl, Nat.le_of_ble_eq_true rfl⟩ ⟨rfl, rfl⟩ ⟨Nat.zero_le _, Nat.zero_le _⟩ rfl rfl (Nat.le_of_ble_eq_true rfl) sh113 le113 ⟨rfl, rfl⟩ (c_X9_changes ll cx (iI 1) v15 x3 m16) (fun v17 m18 => ?_)
          refine T_goto (tgt := 112) C.1 dX9_mend_108 (by decide) ?_
          exact T_iret C.1 C.2.1 C.2.2 dX9_mend_112
  · show TI pp ll ee rm_X9_mend ss mm aa bb me co 4 cx _ _ _ _ _
    refine T_aload_n C.1 dX9_mend_113 0 rfl ?_
    refine T_iload_n C.1 dX9_mend_114 1 rfl ?_
    refine T_callVI (rm := rm_X9_isPerson) [.int x1] [] C.1 dX9_mend_115 mw_X9_isPerson wm_5_183 wm_5_185 wm_p_39 ⟨Nat.le_of_ble_eq_true rfl, Nat.le_of_ble_eq_true rfl⟩ ⟨rfl, rfl⟩ ⟨Nat.zero_le _, Nat.zero_le _⟩ rfl rfl (Nat.le_of_ble_eq_true rfl) sh113 le113 ⟨rfl, rfl⟩ (c_X9_isPerson ll cx x1 m) (fun v19 m20 => ?_)
    refine T_if_eq (tgt := 140) C.1 dX9_mend_118 (by decide) ?_ ?_
    · refine T_iconst C.1 dX9_mend_140 ?_
      exact T_iret C.1 C.2.1 C.2.2 dX9_mend_141
    · refine T_iload_n C.1 dX9_mend_121 3 rfl ?_
      refine T_iconst C.1 dX9_mend_122 ?_
      refine T_iconst C.1 dX9_mend_123 ?_
      refine T_callSI (rm := rm_X9_in) [.int x3, .int (iI 0), .int (iI 2)] [] C.1 dX9_mend_124 mw_X9_in wm_5_145 wm_5_146 ⟨Nat.le_of_ble_eq_true rfl, Nat.le_of_ble_eq_true rfl⟩ ⟨rfl, rfl⟩ ⟨Nat.zero_le _, Nat.zero_le _⟩ rfl rfl (Nat.le_of_ble_eq_true rfl) (c_X9_in ll cx x3 (iI 0) (iI 2) m20) (fun v21 m22 => ?_)
      refine T_if_eq (tgt := 140) C.1 dX9_mend_127 (by decide) ?_ ?_
      · refine T_iconst C.1 dX9_mend_140 ?_
        exact T_iret C.1 C.2.1 C.2.2 dX9_mend_141
      · refine T_aload_n C.1 dX9_mend_130 0 rfl ?_
        refine T_iconst C.1 dX9_mend_131 ?_
        refine T_iload_n C.1 dX9_mend_132 1 rfl ?_
        refine T_iload_n C.1 dX9_mend_133 3 rfl ?_
        refine T_callVI (rm := rm_X9_changes) [.int (iI 2), .int x1, .int x3] [] C.1 dX9_mend_134 mw_X9_changes wm_5_190 wm_5_192 wm_p_40 ⟨Nat.le_of_ble_eq_true rfl, Nat.le_of_ble_eq_true rfl⟩ ⟨rfl, rfl⟩ ⟨Nat.zero_le _, Nat.zero_le _⟩ rfl rfl (Nat.le_of_ble_eq_true rfl) sh113 le113 ⟨rfl, rfl⟩ (c_X9_changes ll cx (iI 2) x1 x3 m22) (fun v23 m24 => ?_)
        refine T_goto (tgt := 141) C.1 dX9_mend_137 (by decide) ?_
        exact T_iret C.1 C.2.1 C.2.2 dX9_mend_141
  · show TI pp ll ee rm_X9_mend ss mm aa bb me co 4 cx _ _ _ _ _
    refine T_iload_n C.1 dX9_mend_142 1 rfl ?_
    refine T_if_ne (tgt := 165) C.1 dX9_mend_143 (by decide) ?_ ?_
    · refine T_iconst C.1 dX9_mend_165 ?_
      exact T_iret C.1 C.2.1 C.2.2 dX9_mend_166
    · refine T_iload_n C.1 dX9_mend_146 3 rfl ?_
      refine T_iconst C.1 dX9_mend_147 ?_
      refine T_iconst C.1 dX9_mend_148 ?_
      refine T_callSI (rm := rm_X9_in) [.int x3, .int (iI 1), .int (iI 3)] [] C.1 dX9_mend_149 mw_X9_in wm_5_145 wm_5_146 ⟨Nat.le_of_ble_eq_true rfl, Nat.le_of_ble_eq_true rfl⟩ ⟨rfl, rfl⟩ ⟨Nat.zero_le _, Nat.zero_le _⟩ rfl rfl (Nat.le_of_ble_eq_true rfl) (c_X9_in ll cx x3 (iI 1) (iI 3) m) (fun v25 m26 => ?_)
      refine T_if_eq (tgt := 165) C.1 dX9_mend_152 (by decide) ?_ ?_
      · refine T_iconst C.1 dX9_mend_165 ?_
        exact T_iret C.1 C.2.1 C.2.2 dX9_mend_166
      · refine T_aload_n C.1 dX9_mend_155 0 rfl ?_
        refine T_iconst C.1 dX9_mend_156 ?_
        refine T_iconst C.1 dX9_mend_157 ?_
        refine T_iload_n C.1 dX9_mend_158 3 rfl ?_
        refine T_callVI (rm := rm_X9_changes) [.int (iI 3), .int (iI 0), .int x3] [] C.1 dX9_mend_159 mw_X9_changes wm_5_190 wm_5_192 wm_p_40 ⟨Nat.le_of_ble_eq_true rfl, Nat.le_of_ble_eq_true rfl⟩ ⟨rfl, rfl⟩ ⟨Nat.zero_le _, Nat.zero_le _⟩ rfl rfl (Nat.le_of_ble_eq_true rfl) sh113 le113 ⟨rfl, rfl⟩ (c_X9_changes ll cx (iI 3) (iI 0) x3 m26) (fun v27 m28 => ?_)
        refine T_goto (tgt := 166) C.1 dX9_mend_162 (by decide) ?_
        exact T_iret C.1 C.2.1 C.2.2 dX9_mend_166
  · show TI pp ll ee rm_X9_mend ss mm aa bb me co 4 cx _ _ _ _ _
    refine T_iload_n C.1 dX9_mend_167 1 rfl ?_
    refine T_if_ne (tgt := 190) C.1 dX9_mend_168 (by decide) ?_ ?_
    · refine T_iconst C.1 dX9_mend_190 ?_
      exact T_iret C.1 C.2.1 C.2.2 dX9_mend_191
    · refine T_iload_n C.1 dX9_mend_171 3 rfl ?_
      refine T_iconst C.1 dX9_mend_172 ?_
      refine T_iconst C.1 dX9_mend_173 ?_
      refine T_callSI (rm := rm_X9_in) [.int x3, .int (iI 0), .int (iI 1)] [] C.1 dX9_mend_174 mw_X9_in wm_5_145 wm_5_146 ⟨Nat.le_of_ble_eq_true rfl, Nat.le_of_ble_eq_true rfl⟩ ⟨rfl, rfl⟩ ⟨Nat.zero_le _, Nat.zero_le _⟩ rfl rfl (Nat.le_of_ble_eq_true rfl) (c_X9_in ll cx x3 (iI 0) (iI 1) m) (fun v29 m30 => ?_)
      refine T_if_eq (tgt := 190) C.1 dX9_mend_177 (by decide) ?_ ?_
      · refine T_iconst C.1 dX9_mend_190 ?_
        exact T_iret C.1 C.2.1 C.2.2 dX9_mend_191
      · refine T_aload_n C.1 dX9_mend_180 0 rfl ?_
        refine T_iconst C.1 dX9_mend_181 ?_
        refine T_iconst C.1 dX9_mend_182 ?_
        refine T_iload_n C.1 dX9_mend_183 3 rfl ?_
        refine T_callVI (rm := rm_X9_changes) [.int (iI 4), .int (iI 0), .int x3] [] C.1 dX9_mend_184 mw_X9_changes wm_5_190 wm_5_192 wm_p_40 ⟨Nat.le_of_ble_eq_true rfl, Nat.le_of_ble_eq_true rfl⟩ ⟨rfl, rfl⟩ ⟨Nat.zero_le _, Nat.zero_le _⟩ rfl rfl (Nat.le_of_ble_eq_true rfl) sh113 le113 ⟨rfl, rfl⟩ (c_X9_changes ll cx (iI 4) (iI 0) x3 m30) (fun v31 m32 => ?_)
        refine T_goto (tgt := 191) C.1 dX9_mend_187 (by decide) ?_
        exact T_iret C.1 C.2.1 C.2.2 dX9_mend_191
  · show TI pp ll ee rm_X9_mend ss mm aa bb me co 4 cx _ _ _ _ _
    refine T_iconst C.1 dX9_mend_192 ?_
    exact T_iret C.1 C.2.1 C.2.2 dX9_mend_193
def rm_X9_hasIn : Room := { frames := 1, cells := 0, slots := 0, locals := 40 }
def F_X9_hasIn_2  : Nat → Int32 → Int32 → Int32 → Mm → Option (Int32 × Mm)
  | 0, _, _, _, _ => none
  | f + 1, a1, a2, a3, m =>
    (if (gI m 113 1) ≤ a3 then
      some ((iI (-2)), m)
    else
      rd 14 (((iI 7) * a1) + a3) fun j1 =>
      (if (gI m 118 j1) = a2 then
        some (a3, m)
      else
        nm (a3 + (iI 1)) fun v2 =>
        F_X9_hasIn_2  f a1 a2 v2 m))
set_option maxRecDepth 100000 in
set_option maxHeartbeats 4000000 in
theorem t_X9_hasIn_2 {pp : Program} {ll : Launch} {ee : Env} {ss : State} {mm : MethodId} {aa : Array Value} {bb : List Frame} {me : Method} {co : Code} {cx : CX}     (C : CM pp ss mm aa me co cX9_hasIn 4 RX9 cx ((some .int)))    : ∀ (f : Nat) (a1 : Int32) (a2 : Int32) (a3 : Int32) (m : Mm), TI pp ll ee rm_X9_hasIn ss mm aa bb me co 4 cx 2 [(0, .ref (cx.2.2.1 + 113)), (1, .int a1), (2, .int a2), (3, .int a3)] [] m (F_X9_hasIn_2  f a1 a2 a3 m) := by
  intro f
  induction f with
  | zero => exact fun _ _ _ _ => T_none
  | succ f ih =>
    intro a1 a2 a3 m
    unfold F_X9_hasIn_2
    refine T_iload_n C.1 dX9_hasIn_2 3 rfl ?_
    refine T_aload_n C.1 dX9_hasIn_3 0 rfl ?_
    refine T_getI C.1 fd_X9_155 (fun _ _ _ _ => rfl) sh113 le113 dX9_hasIn_4 ?_
    refine T_icmp_ge (tgt := 33) C.1 dX9_hasIn_7 (by decide) ?_ ?_
    · refine T_bipush C.1 dX9_hasIn_33 rfl ?_
      exact T_iret C.1 C.2.1 C.2.2 dX9_hasIn_35
    · refine T_aload_n C.1 dX9_hasIn_10 0 rfl ?_
      refine T_getR (x := 118) C.1 fd_X9_26 (fun _ _ _ _ => rfl) sh113 le113 (fun _ h => h) rfl (by decide) dX9_hasIn_11 ?_
      refine T_bipush C.1 dX9_hasIn_14 rfl ?_
      refine T_iload_n C.1 dX9_hasIn_16 1 rfl ?_
      refine T_imul C.1 dX9_hasIn_17 ?_
      refine T_iload_n C.1 dX9_hasIn_18 3 rfl ?_
      refine T_iadd C.1 dX9_hasIn_19 ?_
      refine T_iald C.1 dX9_hasIn_20 sh118 le118 (fun j1 => ?_)
      refine T_iload_n C.1 dX9_hasIn_21 2 rfl ?_
      refine T_icmp_ne (tgt := 27) C.1 dX9_hasIn_22 (by decide) ?_ ?_
      · refine T_iincN C.1 (fun v2 => [(3, .int v2), (0, .ref (cx.2.2.1 + 113)), (1, .int a1), (2, .int a2)]) dX9_hasIn_27 3 rfl (by decide) (fun _ => rfl) (fun v2 => ?_)
        refine T_goto (tgt := 2) C.1 dX9_hasIn_30 (by decide) ?_
        exact T_sub [1, 2, 3, 0] rfl (ih a1 a2 v2 m)
      · refine T_iload_n C.1 dX9_hasIn_25 3 rfl ?_
        exact T_iret C.1 C.2.1 C.2.2 dX9_hasIn_26
def F_X9_hasIn  (x1 : Int32) (x2 : Int32) (m : Mm) : Option (Int32 × Mm) :=
  F_X9_hasIn_2 FU x1 x2 (iI 0) m
set_option maxRecDepth 100000 in
set_option maxHeartbeats 4000000 in
theorem c_X9_hasIn (ll : Launch) (cx : CX) (x1 : Int32) (x2 : Int32) (m : Mm) : MT ll yX9_hasIn cX9_hasIn 4 ((some .int)) rm_X9_hasIn cx NN NN Lay cvI 0 0 [.ref (cx.2.2.1 + 113), .int x1, .int x2] m (F_X9_hasIn x1 x2 m) := by
  refine MT_of (by decide) (Nat.le_of_ble_eq_true rfl) ?_
  intro pp ee ss mm aa bb me co hK hr hk hn
  have C : CM pp ss mm aa me co cX9_hasIn 4 RX9 cx ((some .int)) := ⟨hK, hr, hk⟩
  show TI pp ll ee rm_X9_hasIn ss mm aa bb me co 4 cx 0 [(0, .ref (cx.2.2.1 + 113)), (1, .int x1), (2, .int x2)] [] m (F_X9_hasIn x1 x2 m)
  unfold F_X9_hasIn
  refine T_iconst C.1 dX9_hasIn_0 ?_
  refine T_istore_n (lv' := [(3, .int (iI 0)), (0, .ref (cx.2.2.1 + 113)), (1, .int x1), (2, .int x2)]) C.1 dX9_hasIn_1 (by decide) rfl ?_
  exact T_sub [1, 2, 3, 0] rfl (t_X9_hasIn_2 C FU x1 x2 (iI 0) m)
def rm_X9_bit : Room := { frames := 1, cells := 0, slots := 0, locals := 40 }
def F_X9_bit  (x1 : Int32) (x2 : Int32) (m : Mm) : Option (Int32 × Mm) :=
  some (((x1 >>> (x2 &&& 31)) &&& (iI 1)), m)
set_option maxRecDepth 100000 in
set_option maxHeartbeats 4000000 in
theorem c_X9_bit (ll : Launch) (cx : CX) (x1 : Int32) (x2 : Int32) (m : Mm) : MT ll yX9_bit cX9_bit 2 ((some .int)) rm_X9_bit cx NN NN Lay cvI 0 0 [.int x1, .int x2] m (F_X9_bit x1 x2 m) := by
  refine MT_of (by decide) (Nat.le_of_ble_eq_true rfl) ?_
  intro pp ee ss mm aa bb me co hK hr hk hn
  have C : CM pp ss mm aa me co cX9_bit 2 RX9 cx ((some .int)) := ⟨hK, hr, hk⟩
  show TI pp ll ee rm_X9_bit ss mm aa bb me co 2 cx 0 [(0, .int x1), (1, .int x2)] [] m (F_X9_bit x1 x2 m)
  unfold F_X9_bit
  refine T_iload_n C.1 dX9_bit_0 0 rfl ?_
  refine T_iload_n C.1 dX9_bit_1 1 rfl ?_
  refine T_ishr C.1 dX9_bit_2 ?_
  refine T_iconst C.1 dX9_bit_3 ?_
  refine T_iand C.1 dX9_bit_4 ?_
  exact T_iret C.1 C.2.1 C.2.2 dX9_bit_5
def rm_X9_of : Room := { frames := 4, cells := 0, slots := 0, locals := 104 }
def F_X9_of  (x1 : Int32) (x2 : Int32) (m : Mm) : Option (Int32 × Mm) :=
  tsw x2 (0) [(bnd (F_X9_areBoth x1 m) fun v1 m2 =>
  (if v1 = iI 0 then
    some ((iI (-1)), m2)
  else
    bnd (F_X9_place x1 m2) fun v3 m4 =>
    rd 49 v3 fun j5 =>
    some ((gI m4 114 j5), m4))),
   (bnd (F_X9_areBoth x1 m) fun v6 m7 =>
  (if v6 = iI 0 then
    some ((iI (-1)), m7)
  else
    dvI x1 (iI 10) fun v8 =>
    rmI x1 (iI 10) fun v9 =>
    (if v8 = v9 then
      some ((iI (-1)), m7)
    else
      bnd (F_X9_place x1 m7) fun v10 m11 =>
      rd 49 v10 fun j12 =>
      some ((gI m11 115 j12), m11)))),
   (bnd (F_X9_isPerson x1 m) fun v13 m14 =>
  (if v13 = iI 0 then
    some ((iI (-1)), m14)
  else
    rd 7 x1 fun j15 =>
    some ((gI m14 116 j15), m14))),
   ((if x1 = iI 0 then
    some ((gI m 113 5), m)
  else
    some ((iI (-1)), m))),
   ((if x1 = iI 0 then
    some ((gI m 113 6), m)
  else
    some ((iI (-1)), m))),
   (some ((iI (-1)), m)),
   (some ((iI (-1)), m)),
   (some ((iI (-1)), m)),
   (some ((iI (-1)), m)),
   (some ((iI (-1)), m)),
   (bnd (F_X9_isPerson x1 m) fun v16 m17 =>
  (if v16 = iI 0 then
    some ((iI (-1)), m17)
  else
    rd 7 x1 fun j18 =>
    some ((gI m17 117 j18), m17))),
   (bnd (F_X9_isPerson x1 m) fun v19 m20 =>
  (if v19 = iI 0 then
    some ((iI (-1)), m20)
  else
    bnd (F_X9_hasIn (iI 0) x1 m20) fun v21 m22 =>
    some (v21, m22))),
   (bnd (F_X9_isPerson x1 m) fun v23 m24 =>
  (if v23 = iI 0 then
    some ((iI (-1)), m24)
  else
    rd 14 x1 fun j25 =>
    some ((gI m24 119 j25), m24))),
   (bnd (F_X9_isPerson x1 m) fun v26 m27 =>
  (if v26 = iI 0 then
    some ((iI (-1)), m27)
  else
    rd 2 (iI 0) fun j28 =>
    bnd (F_X9_bit (gI m27 120 j28) x1 m27) fun v29 m30 =>
    some (v29, m30)))] (some ((iI (-1)), m))
set_option maxRecDepth 100000 in
set_option maxHeartbeats 4000000 in
theorem c_X9_of (ll : Launch) (cx : CX) (x1 : Int32) (x2 : Int32) (m : Mm) : MT ll yX9_of cX9_of 3 ((some .int)) rm_X9_of cx NN NN Lay cvI 0 0 [.ref (cx.2.2.1 + 113), .int x1, .int x2] m (F_X9_of x1 x2 m) := by
  refine MT_of (by decide) (Nat.le_of_ble_eq_true rfl) ?_
  intro pp ee ss mm aa bb me co hK hr hk hn
  have C : CM pp ss mm aa me co cX9_of 3 RX9 cx ((some .int)) := ⟨hK, hr, hk⟩
  show TI pp ll ee rm_X9_of ss mm aa bb me co 3 cx 0 [(0, .ref (cx.2.2.1 + 113)), (1, .int x1), (2, .int x2)] [] m (F_X9_of x1 x2 m)
  unfold F_X9_of
  refine T_iload_n C.1 dX9_of_0 2 rfl ?_
  refine T_tsw (lo := (0)) (os := [71, 93, 126, 145, 158, 251, 251, 251, 251, 251, 171, 190, 209, 228]) C.1 dX9_of_1 rfl (by decide) (tgd := 252) (by decide) ⟨⟨72, by decide, ?_⟩, ⟨94, by decide, ?_⟩, ⟨127, by decide, ?_⟩, ⟨146, by decide, ?_⟩, ⟨159, by decide, ?_⟩, ⟨252, by decide, ?_⟩, ⟨252, by decide, ?_⟩, ⟨252, by decide, ?_⟩, ⟨252, by decide, ?_⟩, ⟨252, by decide, ?_⟩, ⟨172, by decide, ?_⟩, ⟨191, by decide, ?_⟩, ⟨210, by decide, ?_⟩, ⟨229, by decide, ?_⟩, trivial⟩ ?_
  · show TI pp ll ee rm_X9_of ss mm aa bb me co 3 cx _ _ _ _ _
    refine T_aload_n C.1 dX9_of_72 0 rfl ?_
    refine T_iload_n C.1 dX9_of_73 1 rfl ?_
    refine T_callVI (rm := rm_X9_areBoth) [.int x1] [] C.1 dX9_of_74 mw_X9_areBoth wm_5_179 wm_5_181 wm_p_38 ⟨Nat.le_of_ble_eq_true rfl, Nat.le_of_ble_eq_true rfl⟩ ⟨rfl, rfl⟩ ⟨Nat.zero_le _, Nat.zero_le _⟩ rfl rfl (Nat.le_of_ble_eq_true rfl) sh113 le113 ⟨rfl, rfl⟩ (c_X9_areBoth ll cx x1 m) (fun v1 m2 => ?_)
    refine T_if_eq (tgt := 92) C.1 dX9_of_77 (by decide) ?_ ?_
    · refine T_iconst C.1 dX9_of_92 ?_
      exact T_iret C.1 C.2.1 C.2.2 dX9_of_93
    · refine T_aload_n C.1 dX9_of_80 0 rfl ?_
      refine T_getR (x := 114) C.1 fd_X9_7 (fun _ _ _ _ => rfl) sh113 le113 (fun _ h => h) rfl (by decide) dX9_of_81 ?_
      refine T_iload_n C.1 dX9_of_84 1 rfl ?_
      refine T_callSI (rm := rm_X9_place) [.int x1] [.ref (cx.2.2.1 + 114)] C.1 dX9_of_85 mw_X9_place wm_5_187 wm_5_188 ⟨Nat.le_of_ble_eq_true rfl, Nat.le_of_ble_eq_true rfl⟩ ⟨rfl, rfl⟩ ⟨Nat.zero_le _, Nat.zero_le _⟩ rfl rfl (Nat.le_of_ble_eq_true rfl) (c_X9_place ll cx x1 m2) (fun v3 m4 => ?_)
      refine T_iald C.1 dX9_of_88 sh114 le114 (fun j5 => ?_)
      refine T_goto (tgt := 93) C.1 dX9_of_89 (by decide) ?_
      exact T_iret C.1 C.2.1 C.2.2 dX9_of_93
  · show TI pp ll ee rm_X9_of ss mm aa bb me co 3 cx _ _ _ _ _
    refine T_aload_n C.1 dX9_of_94 0 rfl ?_
    refine T_iload_n C.1 dX9_of_95 1 rfl ?_
    refine T_callVI (rm := rm_X9_areBoth) [.int x1] [] C.1 dX9_of_96 mw_X9_areBoth wm_5_179 wm_5_181 wm_p_38 ⟨Nat.le_of_ble_eq_true rfl, Nat.le_of_ble_eq_true rfl⟩ ⟨rfl, rfl⟩ ⟨Nat.zero_le _, Nat.zero_le _⟩ rfl rfl (Nat.le_of_ble_eq_true rfl) sh113 le113 ⟨rfl, rfl⟩ (c_X9_areBoth ll cx x1 m) (fun v6 m7 => ?_)
    refine T_if_eq (tgt := 125) C.1 dX9_of_99 (by decide) ?_ ?_
    · refine T_iconst C.1 dX9_of_125 ?_
      exact T_iret C.1 C.2.1 C.2.2 dX9_of_126
    · refine T_iload_n C.1 dX9_of_102 1 rfl ?_
      refine T_bipush C.1 dX9_of_103 rfl ?_
      refine T_idiv C.1 dX9_of_105 (fun v8 => ?_)
      refine T_iload_n C.1 dX9_of_106 1 rfl ?_
      refine T_bipush C.1 dX9_of_107 rfl ?_
      refine T_irem C.1 dX9_of_109 (fun v9 => ?_)
      refine T_icmp_eq (tgt := 125) C.1 dX9_of_110 (by decide) ?_ ?_
      · refine T_iconst C.1 dX9_of_125 ?_
        exact T_iret C.1 C.2.1 C.2.2 dX9_of_126
      · refine T_aload_n C.1 dX9_of_113 0 rfl ?_
        refine T_getR (x := 115) C.1 fd_X9_13 (fun _ _ _ _ => rfl) sh113 le113 (fun _ h => h) rfl (by decide) dX9_of_114 ?_
        refine T_iload_n C.1 dX9_of_117 1 rfl ?_
        refine T_callSI (rm := rm_X9_place) [.int x1] [.ref (cx.2.2.1 + 115)] C.1 dX9_of_118 mw_X9_place wm_5_187 wm_5_188 ⟨Nat.le_of_ble_eq_true rfl, Nat.le_of_ble_eq_true rfl⟩ ⟨rfl, rfl⟩ ⟨Nat.zero_le _, Nat.zero_le _⟩ rfl rfl (Nat.le_of_ble_eq_true rfl) (c_X9_place ll cx x1 m7) (fun v10 m11 => ?_)
        refine T_iald C.1 dX9_of_121 sh115 le115 (fun j12 => ?_)
        refine T_goto (tgt := 126) C.1 dX9_of_122 (by decide) ?_
        exact T_iret C.1 C.2.1 C.2.2 dX9_of_126
  · show TI pp ll ee rm_X9_of ss mm aa bb me co 3 cx _ _ _ _ _
    refine T_aload_n C.1 dX9_of_127 0 rfl ?_
    refine T_iload_n C.1 dX9_of_128 1 rfl ?_
    refine T_callVI (rm := rm_X9_isPerson) [.int x1] [] C.1 dX9_of_129 mw_X9_isPerson wm_5_183 wm_5_185 wm_p_39 ⟨Nat.le_of_ble_eq_true rfl, Nat.le_of_ble_eq_true rfl⟩ ⟨rfl, rfl⟩ ⟨Nat.zero_le _, Nat.zero_le _⟩ rfl rfl (Nat.le_of_ble_eq_true rfl) sh113 le113 ⟨rfl, rfl⟩ (c_X9_isPerson ll cx x1 m) (fun v13 m14 => ?_)
    refine T_if_eq (tgt := 144) C.1 dX9_of_132 (by decide) ?_ ?_
    · refine T_iconst C.1 dX9_of_144 ?_
      exact T_iret C.1 C.2.1 C.2.2 dX9_of_145
    · refine T_aload_n C.1 dX9_of_135 0 rfl ?_
      refine T_getR (x := 116) C.1 fd_X9_16 (fun _ _ _ _ => rfl) sh113 le113 (fun _ h => h) rfl (by decide) dX9_of_136 ?_
      refine T_iload_n C.1 dX9_of_139 1 rfl ?_
      refine T_iald C.1 dX9_of_140 sh116 le116 (fun j15 => ?_)
      refine T_goto (tgt := 145) C.1 dX9_of_141 (by decide) ?_
      exact T_iret C.1 C.2.1 C.2.2 dX9_of_145
  · show TI pp ll ee rm_X9_of ss mm aa bb me co 3 cx _ _ _ _ _
    refine T_iload_n C.1 dX9_of_146 1 rfl ?_
    refine T_if_ne (tgt := 157) C.1 dX9_of_147 (by decide) ?_ ?_
    · refine T_iconst C.1 dX9_of_157 ?_
      exact T_iret C.1 C.2.1 C.2.2 dX9_of_158
    · refine T_aload_n C.1 dX9_of_150 0 rfl ?_
      refine T_getI C.1 fd_X9_19 (fun _ _ _ _ => rfl) sh113 le113 dX9_of_151 ?_
      refine T_goto (tgt := 158) C.1 dX9_of_154 (by decide) ?_
      exact T_iret C.1 C.2.1 C.2.2 dX9_of_158
  · show TI pp ll ee rm_X9_of ss mm aa bb me co 3 cx _ _ _ _ _
    refine T_iload_n C.1 dX9_of_159 1 rfl ?_
    refine T_if_ne (tgt := 170) C.1 dX9_of_160 (by decide) ?_ ?_
    · refine T_iconst C.1 dX9_of_170 ?_
      exact T_iret C.1 C.2.1 C.2.2 dX9_of_171
    · refine T_aload_n C.1 dX9_of_163 0 rfl ?_
      refine T_getI C.1 fd_X9_177 (fun _ _ _ _ => rfl) sh113 le113 dX9_of_164 ?_
      refine T_goto (tgt := 171) C.1 dX9_of_167 (by decide) ?_
      exact T_iret C.1 C.2.1 C.2.2 dX9_of_171
  · show TI pp ll ee rm_X9_of ss mm aa bb me co 3 cx _ _ _ _ _
    refine T_iconst C.1 dX9_of_252 ?_
    exact T_iret C.1 C.2.1 C.2.2 dX9_of_253
  · show TI pp ll ee rm_X9_of ss mm aa bb me co 3 cx _ _ _ _ _
    refine T_iconst C.1 dX9_of_252 ?_
    exact T_iret C.1 C.2.1 C.2.2 dX9_of_253
  · show TI pp ll ee rm_X9_of ss mm aa bb me co 3 cx _ _ _ _ _
    refine T_iconst C.1 dX9_of_252 ?_
    exact T_iret C.1 C.2.1 C.2.2 dX9_of_253
  · show TI pp ll ee rm_X9_of ss mm aa bb me co 3 cx _ _ _ _ _
    refine T_iconst C.1 dX9_of_252 ?_
    exact T_iret C.1 C.2.1 C.2.2 dX9_of_253
  · show TI pp ll ee rm_X9_of ss mm aa bb me co 3 cx _ _ _ _ _
    refine T_iconst C.1 dX9_of_252 ?_
    exact T_iret C.1 C.2.1 C.2.2 dX9_of_253
  · show TI pp ll ee rm_X9_of ss mm aa bb me co 3 cx _ _ _ _ _
    refine T_aload_n C.1 dX9_of_172 0 rfl ?_
    refine T_iload_n C.1 dX9_of_173 1 rfl ?_
    refine T_callVI (rm := rm_X9_isPerson) [.int x1] [] C.1 dX9_of_174 mw_X9_isPerson wm_5_183 wm_5_185 wm_p_39 ⟨Nat.le_of_ble_eq_true rfl, Nat.le_of_ble_eq_true rfl⟩ ⟨rfl, rfl⟩ ⟨Nat.zero_le _, Nat.zero_le _⟩ rfl rfl (Nat.le_of_ble_eq_true rfl) sh113 le113 ⟨rfl, rfl⟩ (c_X9_isPerson ll cx x1 m) (fun v16 m17 => ?_)
    refine T_if_eq (tgt := 189) C.1 dX9_of_177 (by decide) ?_ ?_
    · refine T_iconst C.1 dX9_of_189 ?_
      exact T_iret C.1 C.2.1 C.2.2 dX9_of_190
    · refine T_aload_n C.1 dX9_of_180 0 rfl ?_
      refine T_getR (x := 117) C.1 fd_X9_23 (fun _ _ _ _ => rfl) sh113 le113 (fun _ h => h) rfl (by decide) dX9_of_181 ?_
      refine T_iload_n C.1 dX9_of_184 1 rfl ?_
      refine T_iald C.1 dX9_of_185 sh117 le117 (fun j18 => ?_)
      refine T_goto (tgt := 190) C.1 dX9_of_186 (by decide) ?_
      exact T_iret C.1 C.2.1 C.2.2 dX9_of_190
  · show TI pp ll ee rm_X9_of ss mm aa bb me co 3 cx _ _ _ _ _
    refine T_aload_n C.1 dX9_of_191 0 rfl ?_
    refine T_iload_n C.1 dX9_of_192 1 rfl ?_
    refine T_callVI (rm := rm_X9_isPerson) [.int x1] [] C.1 dX9_of_193 mw_X9_isPerson wm_5_183 wm_5_185 wm_p_39 ⟨Nat.le_of_ble_eq_true rfl, Nat.le_of_ble_eq_true rfl⟩ ⟨rfl, rfl⟩ ⟨Nat.zero_le _, Nat.zero_le _⟩ rfl rfl (Nat.le_of_ble_eq_true rfl) sh113 le113 ⟨rfl, rfl⟩ (c_X9_isPerson ll cx x1 m) (fun v19 m20 => ?_)
    refine T_if_eq (tgt := 208) C.1 dX9_of_196 (by decide) ?_ ?_
    · refine T_iconst C.1 dX9_of_208 ?_
      exact T_iret C.1 C.2.1 C.2.2 dX9_of_209
    · refine T_aload_n C.1 dX9_of_199 0 rfl ?_
      refine T_iconst C.1 dX9_of_200 ?_
      refine T_iload_n C.1 dX9_of_201 1 rfl ?_
      refine T_callVI (rm := rm_X9_hasIn) [.int (iI 0), .int x1] [] C.1 dX9_of_202 mw_X9_hasIn wm_5_202 wm_5_204 wm_p_42 ⟨Nat.le_of_ble_eq_true rfl, Nat.le_of_ble_eq_true rfl⟩ ⟨rfl, rfl⟩ ⟨Nat.zero_le _, Nat.zero_le _⟩ rfl rfl (Nat.le_of_ble_eq_true rfl) sh113 le113 ⟨rfl, rfl⟩ (c_X9_hasIn ll cx (iI 0) x1 m20) (fun v21 m22 => ?_)
      refine T_goto (tgt := 209) C.1 dX9_of_205 (by decide) ?_
      exact T_iret C.1 C.2.1 C.2.2 dX9_of_209
  · show TI pp ll ee rm_X9_of ss mm aa bb me co 3 cx _ _ _ _ _
    refine T_aload_n C.1 dX9_of_210 0 rfl ?_
    refine T_iload_n C.1 dX9_of_211 1 rfl ?_
    refine T_callVI (rm := rm_X9_isPerson) [.int x1] [] C.1 dX9_of_212 mw_X9_isPerson wm_5_183 wm_5_185 wm_p_39 ⟨Nat.le_of_ble_eq_true rfl, Nat.le_of_ble_eq_true rfl⟩ ⟨rfl, rfl⟩ ⟨Nat.zero_le _, Nat.zero_le _⟩ rfl rfl (Nat.le_of_ble_eq_true rfl) sh113 le113 ⟨rfl, rfl⟩ (c_X9_isPerson ll cx x1 m) (fun v23 m24 => ?_)
    refine T_if_eq (tgt := 227) C.1 dX9_of_215 (by decide) ?_ ?_
    · refine T_iconst C.1 dX9_of_227 ?_
      exact T_iret C.1 C.2.1 C.2.2 dX9_of_228
    · refine T_aload_n C.1 dX9_of_218 0 rfl ?_
      refine T_getR (x := 119) C.1 fd_X9_29 (fun _ _ _ _ => rfl) sh113 le113 (fun _ h => h) rfl (by decide) dX9_of_219 ?_
      refine T_iload_n C.1 dX9_of_222 1 rfl ?_
      refine T_iald C.1 dX9_of_223 sh119 le119 (fun j25 => ?_)
      refine T_goto (tgt := 228) C.1 dX9_of_224 (by decide) ?_
      exact T_iret C.1 C.2.1 C.2.2 dX9_of_228
  · show TI pp ll ee rm_X9_of ss mm aa bb me co 3 cx _ _ _ _ _
    refine T_aload_n C.1 dX9_of_229 0 rfl ?_
    refine T_iload_n C.1 dX9_of_230 1 rfl ?_
    refine T_callVI (rm := rm_X9_isPerson) [.int x1] [] C.1 dX9_of_231 mw_X9_isPerson wm_5_183 wm_5_185 wm_p_39 ⟨Nat.le_of_ble_eq_true rfl, Nat.le_of_ble_eq_true rfl⟩ ⟨rfl, rfl⟩ ⟨Nat.zero_le _, Nat.zero_le _⟩ rfl rfl (Nat.le_of_ble_eq_true rfl) sh113 le113 ⟨rfl, rfl⟩ (c_X9_isPerson ll cx x1 m) (fun v26 m27 => ?_)
    refine T_if_eq (tgt := 250) C.1 dX9_of_234 (by decide) ?_ ?_
    · refine T_iconst C.1 dX9_of_250 ?_
      exact T_iret C.1 C.2.1 C.2.2 dX9_of_251
    · refine T_aload_n C.1 dX9_of_237 0 rfl ?_
      refine T_getR (x := 120) C.1 fd_X9_32 (fun _ _ _ _ => rfl) sh113 le113 (fun _ h => h) rfl (by decide) dX9_of_238 ?_
      refine T_iconst C.1 dX9_of_241 ?_
      refine T_iald C.1 dX9_of_242 sh120 le120 (fun j28 => ?_)
      refine T_iload_n C.1 dX9_of_243 1 rfl ?_
      refine T_callSI (rm := rm_X9_bit) [.int (gI m27 120 j28), .int x1] [] C.1 dX9_of_244 mw_X9_bit wm_5_206 wm_5_207 ⟨Nat.le_of_ble_eq_true rfl, Nat.le_of_ble_eq_true rfl⟩ ⟨rfl, rfl⟩ ⟨Nat.zero_le _, Nat.zero_le _⟩ rfl rfl (Nat.le_of_ble_eq_true rfl) (c_X9_bit ll cx (gI m27 120 j28) x1 m27) (fun v29 m30 => ?_)
      refine T_goto (tgt := 251) C.1 dX9_of_247 (by decide) ?_
      exact T_iret C.1 C.2.1 C.2.2 dX9_of_251
  · show TI pp ll ee rm_X9_of ss mm aa bb me co 3 cx _ _ _ _ _
    refine T_iconst C.1 dX9_of_252 ?_
    exact T_iret C.1 C.2.1 C.2.2 dX9_of_253
def rm_X9_swapLot : Room := { frames := 1, cells := 0, slots := 0, locals := 40 }
def F_X9_swapLot  (x1 : Int32) (x2 : Int32) (m : Mm) : Option (Unit × Mm) :=
  rd 7 x1 fun j1 =>
  nm (gI m 117 j1) fun v2 =>
  rd 7 x2 fun j3 =>
  wrI 7 m 117 x1 (gI m 117 j3) fun m4 =>
  wrI 7 m4 117 x2 v2 fun m5 =>
  some ((), m5)
set_option maxRecDepth 100000 in
set_option maxHeartbeats 4000000 in
theorem c_X9_swapLot (ll : Launch) (cx : CX) (x1 : Int32) (x2 : Int32) (m : Mm) : MT ll yX9_swapLot cX9_swapLot 4 (none) rm_X9_swapLot cx NN NN Lay cvV 0 0 [.ref (cx.2.2.1 + 113), .int x1, .int x2] m (F_X9_swapLot x1 x2 m) := by
  refine MT_of (by decide) (Nat.le_of_ble_eq_true rfl) ?_
  intro pp ee ss mm aa bb me co hK hr hk hn
  have C : CM pp ss mm aa me co cX9_swapLot 4 RX9 cx (none) := ⟨hK, hr, hk⟩
  show TV pp ll ee rm_X9_swapLot ss mm aa bb me co 4 cx 0 [(0, .ref (cx.2.2.1 + 113)), (1, .int x1), (2, .int x2)] [] m (F_X9_swapLot x1 x2 m)
  unfold F_X9_swapLot
  refine T_aload_n C.1 dX9_swapLot_0 0 rfl ?_
  refine T_getR (x := 117) C.1 fd_X9_23 (fun _ _ _ _ => rfl) sh113 le113 (fun _ h => h) rfl (by decide) dX9_swapLot_1 ?_
  refine T_iload_n C.1 dX9_swapLot_4 1 rfl ?_
  refine T_iald C.1 dX9_swapLot_5 sh117 le117 (fun j1 => ?_)
  refine T_istore_nN C.1 (fun v2 => [(3, .int v2), (0, .ref (cx.2.2.1 + 113)), (1, .int x1), (2, .int x2)]) dX9_swapLot_6 (by decide) (fun _ => rfl) (fun v2 => ?_)
  refine T_aload_n C.1 dX9_swapLot_7 1 rfl ?_
  refine T_getR (x := 117) C.1 fd_X9_23 (fun _ _ _ _ => rfl) sh113 le113 (fun _ h => h) rfl (by decide) dX9_swapLot_8 ?_
  refine T_iload_n C.1 dX9_swapLot_11 2 rfl ?_
  refine T_aload_n C.1 dX9_swapLot_12 1 rfl ?_
  refine T_getR (x := 117) C.1 fd_X9_23 (fun _ _ _ _ => rfl) sh113 le113 (fun _ h => h) rfl (by decide) dX9_swapLot_13 ?_
  refine T_iload_n C.1 dX9_swapLot_16 3 rfl ?_
  refine T_iald C.1 dX9_swapLot_17 sh117 le117 (fun j3 => ?_)
  refine T_iast C.1 LyI_Lay sh117 le117 dX9_swapLot_18 (fun m4 => ?_)
  refine T_aload_n C.1 dX9_swapLot_19 1 rfl ?_
  refine T_getR (x := 117) C.1 fd_X9_23 (fun _ _ _ _ => rfl) sh113 le113 (fun _ h => h) rfl (by decide) dX9_swapLot_20 ?_
  refine T_iload_n C.1 dX9_swapLot_23 3 rfl ?_
  refine T_iload_n C.1 dX9_swapLot_24 0 rfl ?_
  refine T_iast C.1 LyI_Lay sh117 le117 dX9_swapLot_25 (fun m5 => ?_)
  exact T_vret C.1 C.2.1 C.2.2 dX9_swapLot_26
