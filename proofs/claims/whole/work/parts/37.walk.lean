def rm_X9_back : Room := { frames := 1, cells := 0, slots := 0, locals := 40 }
def F_X9_back_16  : Nat → Int32 → Mm → Option (Int32 × Mm)
  | 0, _, _ => none
  | f + 1, a1, m =>
    (if (gI m 113 1) ≤ a1 then
      rd 10 (iI 0) fun j1 =>
      wrI 2 m 120 (iI 0) (gI m 150 j1) fun m2 =>
      rd 10 (iI 1) fun j3 =>
      wrI 2 m2 121 (iI 0) (gI m2 150 j3) fun m4 =>
      rd 10 (iI 2) fun j5 =>
      wrI 2 m4 122 (iI 0) (gI m4 150 j5) fun m6 =>
      rd 10 (iI 3) fun j7 =>
      wrI 2 m6 123 (iI 0) (gI m6 150 j7) fun m8 =>
      rd 10 (iI 4) fun j9 =>
      wrI 2 m8 124 (iI 0) (gI m8 150 j9) fun m10 =>
      rd 10 (iI 5) fun j11 =>
      nm (pI m10 113 15 (gI m10 150 j11)) fun m12 =>
      rd 10 (iI 6) fun j13 =>
      nm (pI m12 113 16 (gI m12 150 j13)) fun m14 =>
      rd 10 (iI 7) fun j15 =>
      nm (pI m14 113 17 (gI m14 150 j15)) fun m16 =>
      rd 10 (iI 8) fun j17 =>
      nm (pI m16 113 18 (gI m16 150 j17)) fun m18 =>
      rd 10 (iI 9) fun j19 =>
      nm (pI m18 113 19 (gI m18 150 j19)) fun m20 =>
      some ((gI m20 113 1), m20)
    else
      rd 7 a1 fun j21 =>
      wrI 7 m 117 a1 (gI m 147 j21) fun m22 =>
      rd 7 a1 fun j23 =>
      wrI 14 m22 118 a1 (gI m22 148 j23) fun m24 =>
      rd 7 a1 fun j25 =>
      wrI 14 m24 119 a1 (gI m24 149 j25) fun m26 =>
      nm (a1 + (iI 1)) fun v27 =>
      F_X9_back_16  f v27 m26)
set_option maxRecDepth 100000 in
set_option maxHeartbeats 4000000 in
theorem t_X9_back_16 {pp : Program} {ll : Launch} {ee : Env} {ss : State} {mm : MethodId} {aa : Array Value} {bb : List Frame} {me : Method} {co : Code} {cx : CX}     (C : CM pp ss mm aa me co cX9_back 2 RX9 cx ((some .int)))    : ∀ (f : Nat) (a1 : Int32) (m : Mm), TI pp ll ee rm_X9_back ss mm aa bb me co 2 cx 16 [(0, .ref (cx.2.2.1 + 113)), (1, .int a1)] [] m (F_X9_back_16  f a1 m) := by
  intro f
  induction f with
  | zero => exact fun _ _ => T_none
  | succ f ih =>
    intro a1 m
    unfold F_X9_back_16
    refine T_iload_n C.1 dX9_back_16 1 rfl ?_
    refine T_aload_n C.1 dX9_back_17 0 rfl ?_
    refine T_getI C.1 fd_X9_155 (fun _ _ _ _ => rfl) sh113 le113 dX9_back_18 ?_
    refine T_icmp_ge (tgt := 66) C.1 dX9_back_21 (by decide) ?_ ?_
    · refine T_aload_n C.1 dX9_back_66 0 rfl ?_
      refine T_getR (x := 120) C.1 fd_X9_32 (fun _ _ _ _ => rfl) sh113 le113 (fun _ h => h) rfl (by decide) dX9_back_67 ?_
      refine T_iconst C.1 dX9_back_70 ?_
      refine T_aload_n C.1 dX9_back_71 0 rfl ?_
      refine T_getR (x := 150) C.1 fd_X9_130 (fun _ _ _ _ => rfl) sh113 le113 (fun _ h => h) rfl (by decide) dX9_back_72 ?_
      refine T_iconst C.1 dX9_back_75 ?_
      refine T_iald C.1 dX9_back_76 sh150 le150 (fun j1 => ?_)
      refine T_iast C.1 LyI_Lay sh120 le120 dX9_back_77 (fun m2 => ?_)
      refine T_aload_n C.1 dX9_back_78 0 rfl ?_
      refine T_getR (x := 121) C.1 fd_X9_35 (fun _ _ _ _ => rfl) sh113 le113 (fun _ h => h) rfl (by decide) dX9_back_79 ?_
      refine T_iconst C.1 dX9_back_82 ?_
      refine T_aload_n C.1 dX9_back_83 0 rfl ?_
      refine T_getR (x := 150) C.1 fd_X9_130 (fun _ _ _ _ => rfl) sh113 le113 (fun _ h => h) rfl (by decide) dX9_back_84 ?_
      refine T_iconst C.1 dX9_back_87 ?_
      refine T_iald C.1 dX9_back_88 sh150 le150 (fun j3 => ?_)
      refine T_iast C.1 LyI_Lay sh121 le121 dX9_back_89 (fun m4 => ?_)
      refine T_aload_n C.1 dX9_back_90 0 rfl ?_
      refine T_getR (x := 122) C.1 fd_X9_38 (fun _ _ _ _ => rfl) sh113 le113 (fun _ h => h) rfl (by decide) dX9_back_91 ?_
      refine T_iconst C.1 dX9_back_94 ?_
      refine T_aload_n C.1 dX9_back_95 0 rfl ?_
      refine T_getR (x := 150) C.1 fd_X9_130 (fun _ _ _ _ => rfl) sh113 le113 (fun _ h => h) rfl (by decide) dX9_back_96 ?_
      refine T_iconst C.1 dX9_back_99 ?_
      refine T_iald C.1 dX9_back_100 sh150 le150 (fun j5 => ?_)
      refine T_iast C.1 LyI_Lay sh122 le122 dX9_back_101 (fun m6 => ?_)
      refine T_aload_n C.1 dX9_back_102 0 rfl ?_
      refine T_getR (x := 123) C.1 fd_X9_41 (fun _ _ _ _ => rfl) sh113 le113 (fun _ h => h) rfl (by decide) dX9_back_103 ?_
      refine T_iconst C.1 dX9_back_106 ?_
      refine T_aload_n C.1 dX9_back_107 0 rfl ?_
      refine T_getR (x := 150) C.1 fd_X9_130 (fun _ _ _ _ => rfl) sh113 le113 (fun _ h => h) rfl (by decide) dX9_back_108 ?_
      refine T_iconst C.1 dX9_back_111 ?_
      refine T_iald C.1 dX9_back_112 sh150 le150 (fun j7 => ?_)
      refine T_iast C.1 LyI_Lay sh123 le123 dX9_back_113 (fun m8 => ?_)
      refine T_aload_n C.1 dX9_back_114 0 rfl ?_
      refine T_getR (x := 124) C.1 fd_X9_44 (fun _ _ _ _ => rfl) sh113 le113 (fun _ h => h) rfl (by decide) dX9_back_115 ?_
      refine T_iconst C.1 dX9_back_118 ?_
      refine T_aload_n C.1 dX9_back_119 0 rfl ?_
      refine T_getR (x := 150) C.1 fd_X9_130 (fun _ _ _ _ => rfl) sh113 le113 (fun _ h => h) rfl (by decide) dX9_back_120 ?_
      refine T_iconst C.1 dX9_back_123 ?_
      refine T_iald C.1 dX9_back_124 sh150 le150 (fun j9 => ?_)
      refine T_iast C.1 LyI_Lay sh124 le124 dX9_back_125 (fun m10 => ?_)
      refine T_aload_n C.1 dX9_back_126 0 rfl ?_
      refine T_aload_n C.1 dX9_back_127 0 rfl ?_
      refine T_getR (x := 150) C.1 fd_X9_130 (fun _ _ _ _ => rfl) sh113 le113 (fun _ h => h) rfl (by decide) dX9_back_128 ?_
      refine T_iconst C.1 dX9_back_131 ?_
      refine T_iald C.1 dX9_back_132 sh150 le150 (fun j11 => ?_)
      refine T_putI C.1 LyI_Lay fd_X9_166 sh113 le113 dX9_back_133 (fun m12 => ?_)
      refine T_aload_n C.1 dX9_back_136 0 rfl ?_
      refine T_aload_n C.1 dX9_back_137 0 rfl ?_
      refine T_getR (x := 150) C.1 fd_X9_130 (fun _ _ _ _ => rfl) sh113 le113 (fun _ h => h) rfl (by decide) dX9_back_138 ?_
      refine T_bipush C.1 dX9_back_141 rfl ?_
      refine T_iald C.1 dX9_back_143 sh150 le150 (fun j13 => ?_)
      refine T_putI C.1 LyI_Lay fd_X9_326 sh113 le113 dX9_back_144 (fun m14 => ?_)
      refine T_aload_n C.1 dX9_back_147 0 rfl ?_
      refine T_aload_n C.1 dX9_back_148 0 rfl ?_
      refine T_getR (x := 150) C.1 fd_X9_130 (fun _ _ _ _ => rfl) sh113 le113 (fun _ h => h) rfl (by decide) dX9_back_149 ?_
      refine T_bipush C.1 dX9_back_152 rfl ?_
      refine T_iald C.1 dX9_back_154 sh150 le150 (fun j15 => ?_)
      refine T_putI C.1 LyI_Lay fd_X9_47 sh113 le113 dX9_back_155 (fun m16 => ?_)
      refine T_aload_n C.1 dX9_back_158 0 rfl ?_
      refine T_aload_n C.1 dX9_back_159 0 rfl ?_
      refine T_getR (x := 150) C.1 fd_X9_130 (fun _ _ _ _ => rfl) sh113 le113 (fun _ h => h) rfl (by decide) dX9_back_160 ?_
      refine T_bipush C.1 dX9_back_163 rfl ?_
      refine T_iald C.1 dX9_back_165 sh150 le150 (fun j17 => ?_)
      refine T_putI C.1 LyI_Lay fd_X9_314 sh113 le113 dX9_back_166 (fun m18 => ?_)
      refine T_aload_n C.1 dX9_back_169 0 rfl ?_
      refine T_aload_n C.1 dX9_back_170 0 rfl ?_
      refine T_getR (x := 150) C.1 fd_X9_130 (fun _ _ _ _ => rfl) sh113 le113 (fun _ h => h) rfl (by decide) dX9_back_171 ?_
      refine T_bipush C.1 dX9_back_174 rfl ?_
      refine T_iald C.1 dX9_back_176 sh150 le150 (fun j19 => ?_)
      refine T_putI C.1 LyI_Lay fd_X9_317 sh113 le113 dX9_back_177 (fun m20 => ?_)
      refine T_aload_n C.1 dX9_back_180 0 rfl ?_
      refine T_getI C.1 fd_X9_155 (fun _ _ _ _ => rfl) sh113 le113 dX9_back_181 ?_
      exact T_iret C.1 C.2.1 C.2.2 dX9_back_184
    · refine T_aload_n C.1 dX9_back_24 0 rfl ?_
      refine T_getR (x := 117) C.1 fd_X9_23 (fun _ _ _ _ => rfl) sh113 le113 (fun _ h => h) rfl (by decide) dX9_back_25 ?_
      refine T_iload_n C.1 dX9_back_28 1 rfl ?_
      refine T_aload_n C.1 dX9_back_29 0 rfl ?_
      refine T_getR (x := 147) C.1 fd_X9_121 (fun _ _ _ _ => rfl) sh113 le113 (fun _ h => h) rfl (by decide) dX9_back_30 ?_
      refine T_iload_n C.1 dX9_back_33 1 rfl ?_
      refine T_iald C.1 dX9_back_34 sh147 le147 (fun j21 => ?_)
      refine T_iast C.1 LyI_Lay sh117 le117 dX9_back_35 (fun m22 => ?_)
      refine T_aload_n C.1 dX9_back_36 0 rfl ?_
      refine T_getR (x := 118) C.1 fd_X9_26 (fun _ _ _ _ => rfl) sh113 le113 (fun _ h => h) rfl (by decide) dX9_back_37 ?_
      refine T_iload_n C.1 dX9_back_40 1 rfl ?_
      refine T_aload_n C.1 dX9_back_41 0 rfl ?_
      refine T_getR (x := 148) C.1 fd_X9_124 (fun _ _ _ _ => rfl) sh113 le113 (fun _ h => h) rfl (by decide) dX9_back_42 ?_
      refine T_iload_n C.1 dX9_back_45 1 rfl ?_
      refine T_iald C.1 dX9_back_46 sh148 le148 (fun j23 => ?_)
      refine T_iast C.1 LyI_Lay sh118 le118 dX9_back_47 (fun m24 => ?_)
      refine T_aload_n C.1 dX9_back_48 0 rfl ?_
      refine T_getR (x := 119) C.1 fd_X9_29 (fun _ _ _ _ => rfl) sh113 le113 (fun _ h => h) rfl (by decide) dX9_back_49 ?_
      refine T_iload_n C.1 dX9_back_52 1 rfl ?_
      refine T_aload_n C.1 dX9_back_53 0 rfl ?_
      refine T_getR (x := 149) C.1 fd_X9_127 (fun _ _ _ _ => rfl) sh113 le113 (fun _ h => h) rfl (by decide) dX9_back_54 ?_
      refine T_iload_n C.1 dX9_back_57 1 rfl ?_
      refine T_iald C.1 dX9_back_58 sh149 le149 (fun j25 => ?_)
      refine T_iast C.1 LyI_Lay sh119 le119 dX9_back_59 (fun m26 => ?_)
      refine T_iincN C.1 (fun v27 => [(1, .int v27), (0, .ref (cx.2.2.1 + 113))]) dX9_back_60 1 rfl (by decide) (fun _ => rfl) (fun v27 => ?_)
      refine T_goto (tgt := 16) C.1 dX9_back_63 (by decide) ?_
      exact T_sub [1, 0] rfl (ih v27 m26)
def F_X9_back   (m : Mm) : Option (Int32 × Mm) :=
  (if (gI m 113 51) = (gI m 113 1) then
    F_X9_back_16 FU (iI 0) m
  else
    some ((iI (-5)), m))
set_option maxRecDepth 100000 in
set_option maxHeartbeats 4000000 in
theorem c_X9_back (ll : Launch) (cx : CX)  (m : Mm) : MT ll yX9_back cX9_back 2 ((some .int)) rm_X9_back cx NN NN Lay cvI 0 0 [.ref (cx.2.2.1 + 113)] m (F_X9_back  m) := by
  refine MT_of (by decide) (Nat.le_of_ble_eq_true rfl) ?_
  intro pp ee ss mm aa bb me co hK hr hk hn
  have C : CM pp ss mm aa me co cX9_back 2 RX9 cx ((some .int)) := ⟨hK, hr, hk⟩
  show TI pp ll ee rm_X9_back ss mm aa bb me co 2 cx 0 [(0, .ref (cx.2.2.1 + 113))] [] m (F_X9_back  m)
  unfold F_X9_back
  refine T_aload_n C.1 dX9_back_0 0 rfl ?_
  refine T_getI C.1 fd_X9_118 (fun _ _ _ _ => rfl) sh113 le113 dX9_back_1 ?_
  refine T_aload_n C.1 dX9_back_4 0 rfl ?_
  refine T_getI C.1 fd_X9_155 (fun _ _ _ _ => rfl) sh113 le113 dX9_back_5 ?_
  refine T_icmp_eq (tgt := 14) C.1 dX9_back_8 (by decide) ?_ ?_
  · refine T_iconst C.1 dX9_back_14 ?_
    refine T_istore_n (lv' := [(1, .int (iI 0)), (0, .ref (cx.2.2.1 + 113))]) C.1 dX9_back_15 (by decide) rfl ?_
    exact T_sub [1, 0] rfl (t_X9_back_16 C FU (iI 0) m)
  · refine T_bipush C.1 dX9_back_11 rfl ?_
    exact T_iret C.1 C.2.1 C.2.2 dX9_back_13
def rm_X9_safeMany : Room := { frames := 1, cells := 0, slots := 0, locals := 40 }
def F_X9_safeMany_28 (k_4 : Int32 → Int32 → Mm → Option (Int32 × Mm)) (a1 : Int32) (a2 : Int32) (m : Mm) : Option (Int32 × Mm) :=
  nm (a2 + (iI 1)) fun v1 =>
  k_4 a1 v1 m
set_option maxRecDepth 100000 in
set_option maxHeartbeats 4000000 in
theorem t_X9_safeMany_28 {pp : Program} {ll : Launch} {ee : Env} {ss : State} {mm : MethodId} {aa : Array Value} {bb : List Frame} {me : Method} {co : Code} {cx : CX}  {k_4 : Int32 → Int32 → Mm → Option (Int32 × Mm)}   (C : CM pp ss mm aa me co cX9_safeMany 3 RX9 cx ((some .int)))   (hk_4 : ∀ (a1 : Int32) (a2 : Int32) (m : Mm), TI pp ll ee rm_X9_safeMany ss mm aa bb me co 3 cx 4 [(0, .ref (cx.2.2.1 + 113)), (1, .int a1), (2, .int a2)] [] m (k_4 a1 a2 m)) (a1 : Int32) (a2 : Int32) (m : Mm) : TI pp ll ee rm_X9_safeMany ss mm aa bb me co 3 cx 28 [(0, .ref (cx.2.2.1 + 113)), (1, .int a1), (2, .int a2)] [] m (F_X9_safeMany_28 k_4 a1 a2 m) := by
  unfold F_X9_safeMany_28
  refine T_iincN C.1 (fun v1 => [(2, .int v1), (0, .ref (cx.2.2.1 + 113)), (1, .int a1)]) dX9_safeMany_28 2 rfl (by decide) (fun _ => rfl) (fun v1 => ?_)
  refine T_goto (tgt := 4) C.1 dX9_safeMany_31 (by decide) ?_
  exact T_sub [1, 2, 0] rfl (hk_4 a1 v1 m)
def F_X9_safeMany_4  : Nat → Int32 → Int32 → Mm → Option (Int32 × Mm)
  | 0, _, _, _ => none
  | f + 1, a1, a2, m =>
    (if (gI m 113 1) ≤ a2 then
      some (a1, m)
    else
      rd 14 a2 fun j1 =>
      (if (gI m 119 j1) < (gI m 113 5) then
        F_X9_safeMany_28 (F_X9_safeMany_4  f) a1 a2 m
      else
        nm (a1 + (iI 1)) fun v2 =>
        F_X9_safeMany_28 (F_X9_safeMany_4  f) v2 a2 m))
set_option maxRecDepth 100000 in
set_option maxHeartbeats 4000000 in
theorem t_X9_safeMany_4 {pp : Program} {ll : Launch} {ee : Env} {ss : State} {mm : MethodId} {aa : Array Value} {bb : List Frame} {me : Method} {co : Code} {cx : CX}     (C : CM pp ss mm aa me co cX9_safeMany 3 RX9 cx ((some .int)))    : ∀ (f : Nat) (a1 : Int32) (a2 : Int32) (m : Mm), TI pp ll ee rm_X9_safeMany ss mm aa bb me co 3 cx 4 [(0, .ref (cx.2.2.1 + 113)), (1, .int a1), (2, .int a2)] [] m (F_X9_safeMany_4  f a1 a2 m) := by
  intro f
  induction f with
  | zero => exact fun _ _ _ => T_none
  | succ f ih =>
    intro a1 a2 m
    unfold F_X9_safeMany_4
    refine T_iload_n C.1 dX9_safeMany_4 2 rfl ?_
    refine T_aload_n C.1 dX9_safeMany_5 0 rfl ?_
    refine T_getI C.1 fd_X9_155 (fun _ _ _ _ => rfl) sh113 le113 dX9_safeMany_6 ?_
    refine T_icmp_ge (tgt := 34) C.1 dX9_safeMany_9 (by decide) ?_ ?_
    · refine T_iload_n C.1 dX9_safeMany_34 1 rfl ?_
      exact T_iret C.1 C.2.1 C.2.2 dX9_safeMany_35
    · refine T_aload_n C.1 dX9_safeMany_12 0 rfl ?_
      refine T_getR (x := 119) C.1 fd_X9_29 (fun _ _ _ _ => rfl) sh113 le113 (fun _ h => h) rfl (by decide) dX9_safeMany_13 ?_
      refine T_iload_n C.1 dX9_safeMany_16 2 rfl ?_
      refine T_iald C.1 dX9_safeMany_17 sh119 le119 (fun j1 => ?_)
      refine T_aload_n C.1 dX9_safeMany_18 0 rfl ?_
      refine T_getI C.1 fd_X9_19 (fun _ _ _ _ => rfl) sh113 le113 dX9_safeMany_19 ?_
      refine T_icmp_lt (tgt := 28) C.1 dX9_safeMany_22 (by decide) ?_ ?_
      · exact T_sub [0, 1, 2] rfl (t_X9_safeMany_28 C (ih) a1 a2 m)
      · refine T_iincN C.1 (fun v2 => [(1, .int v2), (0, .ref (cx.2.2.1 + 113)), (2, .int a2)]) dX9_safeMany_25 1 rfl (by decide) (fun _ => rfl) (fun v2 => ?_)
        exact T_sub [1, 0, 2] rfl (t_X9_safeMany_28 C (ih) v2 a2 m)
def F_X9_safeMany   (m : Mm) : Option (Int32 × Mm) :=
  F_X9_safeMany_4 FU (iI 0) (iI 0) m
set_option maxRecDepth 100000 in
set_option maxHeartbeats 4000000 in
theorem c_X9_safeMany (ll : Launch) (cx : CX)  (m : Mm) : MT ll yX9_safeMany cX9_safeMany 3 ((some .int)) rm_X9_safeMany cx NN NN Lay cvI 0 0 [.ref (cx.2.2.1 + 113)] m (F_X9_safeMany  m) := by
  refine MT_of (by decide) (Nat.le_of_ble_eq_true rfl) ?_
  intro pp ee ss mm aa bb me co hK hr hk hn
  have C : CM pp ss mm aa me co cX9_safeMany 3 RX9 cx ((some .int)) := ⟨hK, hr, hk⟩
  show TI pp ll ee rm_X9_safeMany ss mm aa bb me co 3 cx 0 [(0, .ref (cx.2.2.1 + 113))] [] m (F_X9_safeMany  m)
  unfold F_X9_safeMany
  refine T_iconst C.1 dX9_safeMany_0 ?_
  refine T_istore_n (lv' := [(1, .int (iI 0)), (0, .ref (cx.2.2.1 + 113))]) C.1 dX9_safeMany_1 (by decide) rfl ?_
  refine T_iconst C.1 dX9_safeMany_2 ?_
  refine T_istore_n (lv' := [(2, .int (iI 0)), (1, .int (iI 0)), (0, .ref (cx.2.2.1 + 113))]) C.1 dX9_safeMany_3 (by decide) rfl ?_
  exact T_sub [2, 1, 0] rfl (t_X9_safeMany_4 C FU (iI 0) (iI 0) m)
def rm_X9_isBody : Room := { frames := 2, cells := 0, slots := 0, locals := 62 }
def F_X9_isBody  (x1 : Int32) (m : Mm) : Option (Int32 × Mm) :=
  bnd (F_X9_in x1 (iI 0) ((gI m 113 56) - (iI 1)) m) fun v1 m2 =>
  rz v1 m2
set_option maxRecDepth 100000 in
set_option maxHeartbeats 4000000 in
theorem c_X9_isBody (ll : Launch) (cx : CX) (x1 : Int32) (m : Mm) : MT ll yX9_isBody cX9_isBody 2 ((some .boolean)) rm_X9_isBody cx NN NN Lay cvI 0 0 [.ref (cx.2.2.1 + 113), .int x1] m (F_X9_isBody x1 m) := by
  refine MT_of (by decide) (Nat.le_of_ble_eq_true rfl) ?_
  intro pp ee ss mm aa bb me co hK hr hk hn
  have C : CM pp ss mm aa me co cX9_isBody 2 RX9 cx ((some .boolean)) := ⟨hK, hr, hk⟩
  show TI pp ll ee rm_X9_isBody ss mm aa bb me co 2 cx 0 [(0, .ref (cx.2.2.1 + 113)), (1, .int x1)] [] m (F_X9_isBody x1 m)
  unfold F_X9_isBody
  refine T_iload_n C.1 dX9_isBody_0 1 rfl ?_
  refine T_iconst C.1 dX9_isBody_1 ?_
  refine T_aload_n C.1 dX9_isBody_2 0 rfl ?_
  refine T_getI C.1 fd_X9_374 (fun _ _ _ _ => rfl) sh113 le113 dX9_isBody_3 ?_
  refine T_iconst C.1 dX9_isBody_6 ?_
  refine T_isub C.1 dX9_isBody_7 ?_
  refine T_callSI (rm := rm_X9_in) [.int x1, .int (iI 0), .int ((gI m 113 56) - (iI 1))] [] C.1 dX9_isBody_8 mw_X9_in wm_5_145 wm_5_146 ⟨Nat.le_of_ble_eq_true rfl, Nat.le_of_ble_eq_true rfl⟩ ⟨rfl, rfl⟩ ⟨Nat.zero_le _, Nat.zero_le _⟩ rfl rfl (Nat.le_of_ble_eq_true rfl) (c_X9_in ll cx x1 (iI 0) ((gI m 113 56) - (iI 1)) m) (fun v1 m2 => ?_)
  exact T_zret C.1 C.2.1 C.2.2 dX9_isBody_11
def rm_X9_ran : Room := { frames := 1, cells := 0, slots := 0, locals := 40 }
def F_X9_ran_19   (m : Mm) : Option (Unit × Mm) :=
  nm (pI m 113 58 ((gI m 113 58) + (iI 1))) fun m1 =>
  some ((), m1)
set_option maxRecDepth 100000 in
set_option maxHeartbeats 4000000 in
theorem t_X9_ran_19 {pp : Program} {ll : Launch} {ee : Env} {ss : State} {mm : MethodId} {aa : Array Value} {bb : List Frame} {me : Method} {co : Code} {cx : CX}     (C : CM pp ss mm aa me co cX9_ran 2 RX9 cx (none))     (m : Mm) : TV pp ll ee rm_X9_ran ss mm aa bb me co 2 cx 19 [(0, .ref (cx.2.2.1 + 113))] [] m (F_X9_ran_19  m) := by
  unfold F_X9_ran_19
  refine T_aload_n C.1 dX9_ran_19 0 rfl ?_
  refine T_dup C.1 dX9_ran_20 rfl ?_
  refine T_getI C.1 fd_X9_377 (fun _ _ _ _ => rfl) sh113 le113 dX9_ran_21 ?_
  refine T_iconst C.1 dX9_ran_24 ?_
  refine T_iadd C.1 dX9_ran_25 ?_
  refine T_putI C.1 LyI_Lay fd_X9_377 sh113 le113 dX9_ran_26 (fun m1 => ?_)
  exact T_vret C.1 C.2.1 C.2.2 dX9_ran_29
def F_X9_ran  (x1 : Int32) (m : Mm) : Option (Unit × Mm) :=
  (if (iI 24) ≤ (gI m 113 58) then
    F_X9_ran_19 m
  else
    wrI 24 m 152 (gI m 113 58) x1 fun m1 =>
    F_X9_ran_19 m1)
set_option maxRecDepth 100000 in
set_option maxHeartbeats 4000000 in
theorem c_X9_ran (ll : Launch) (cx : CX) (x1 : Int32) (m : Mm) : MT ll yX9_ran cX9_ran 2 (none) rm_X9_ran cx NN NN Lay cvV 0 0 [.ref (cx.2.2.1 + 113), .int x1] m (F_X9_ran x1 m) := by
  refine MT_of (by decide) (Nat.le_of_ble_eq_true rfl) ?_
  intro pp ee ss mm aa bb me co hK hr hk hn
  have C : CM pp ss mm aa me co cX9_ran 2 RX9 cx (none) := ⟨hK, hr, hk⟩
  show TV pp ll ee rm_X9_ran ss mm aa bb me co 2 cx 0 [(0, .ref (cx.2.2.1 + 113)), (1, .int x1)] [] m (F_X9_ran x1 m)
  unfold F_X9_ran
  refine T_aload_n C.1 dX9_ran_0 0 rfl ?_
  refine T_getI C.1 fd_X9_377 (fun _ _ _ _ => rfl) sh113 le113 dX9_ran_1 ?_
  refine T_bipush C.1 dX9_ran_4 rfl ?_
  refine T_icmp_ge (tgt := 19) C.1 dX9_ran_6 (by decide) ?_ ?_
  · exact T_sub [0] rfl (t_X9_ran_19 C m)
  · refine T_aload_n C.1 dX9_ran_9 0 rfl ?_
    refine T_getR (x := 152) C.1 fd_X9_136 (fun _ _ _ _ => rfl) sh113 le113 (fun _ h => h) rfl (by decide) dX9_ran_10 ?_
    refine T_aload_n C.1 dX9_ran_13 0 rfl ?_
    refine T_getI C.1 fd_X9_377 (fun _ _ _ _ => rfl) sh113 le113 dX9_ran_14 ?_
    refine T_iload_n C.1 dX9_ran_17 1 rfl ?_
    refine T_iast C.1 LyI_Lay sh152 le152 dX9_ran_18 (fun m1 => ?_)
    exact T_sub [0] rfl (t_X9_ran_19 C m1)
def rm_X9_trace : Room := { frames := 1, cells := 0, slots := 0, locals := 40 }
def F_X9_trace  (x1 : Int32) (m : Mm) : Option (Int32 × Mm) :=
  (if x1 < iI 0 then
    some ((iI (-1)), m)
  else
    (if (gI m 113 58) ≤ x1 then
      some ((iI (-1)), m)
    else
      (if (iI 24) ≤ x1 then
        some ((iI (-1)), m)
      else
        rd 24 x1 fun j1 =>
        some ((gI m 152 j1), m))))
set_option maxRecDepth 100000 in
set_option maxHeartbeats 4000000 in
theorem c_X9_trace (ll : Launch) (cx : CX) (x1 : Int32) (m : Mm) : MT ll yX9_trace cX9_trace 2 ((some .int)) rm_X9_trace cx NN NN Lay cvI 0 0 [.ref (cx.2.2.1 + 113), .int x1] m (F_X9_trace x1 m) := by
  refine MT_of (by decide) (Nat.le_of_ble_eq_true rfl) ?_
  intro pp ee ss mm aa bb me co hK hr hk hn
  have C : CM pp ss mm aa me co cX9_trace 2 RX9 cx ((some .int)) := ⟨hK, hr, hk⟩
  show TI pp ll ee rm_X9_trace ss mm aa bb me co 2 cx 0 [(0, .ref (cx.2.2.1 + 113)), (1, .int x1)] [] m (F_X9_trace x1 m)
  unfold F_X9_trace
  refine T_iload_n C.1 dX9_trace_0 1 rfl ?_
  refine T_if_lt (tgt := 27) C.1 dX9_trace_1 (by decide) ?_ ?_
  · refine T_iconst C.1 dX9_trace_27 ?_
    exact T_iret C.1 C.2.1 C.2.2 dX9_trace_28
  · refine T_iload_n C.1 dX9_trace_4 1 rfl ?_
    refine T_aload_n C.1 dX9_trace_5 0 rfl ?_
    refine T_getI C.1 fd_X9_377 (fun _ _ _ _ => rfl) sh113 le113 dX9_trace_6 ?_
    refine T_icmp_ge (tgt := 27) C.1 dX9_trace_9 (by decide) ?_ ?_
    · refine T_iconst C.1 dX9_trace_27 ?_
      exact T_iret C.1 C.2.1 C.2.2 dX9_trace_28
    · refine T_iload_n C.1 dX9_trace_12 1 rfl ?_
      refine T_bipush C.1 dX9_trace_13 rfl ?_
      refine T_icmp_ge (tgt := 27) C.1 dX9_trace_15 (by decide) ?_ ?_
      · refine T_iconst C.1 dX9_trace_27 ?_
        exact T_iret C.1 C.2.1 C.2.2 dX9_trace_28
      · refine T_aload_n C.1 dX9_trace_18 0 rfl ?_
        refine T_getR (x := 152) C.1 fd_X9_136 (fun _ _ _ _ => rfl) sh113 le113 (fun _ h => h) rfl (by decide) dX9_trace_19 ?_
        refine T_iload_n C.1 dX9_trace_22 1 rfl ?_
        refine T_iald C.1 dX9_trace_23 sh152 le152 (fun j1 => ?_)
        refine T_goto (tgt := 28) C.1 dX9_trace_24 (by decide) ?_
        exact T_iret C.1 C.2.1 C.2.2 dX9_trace_28
def rm_X9_body : Room := { frames := 2, cells := 0, slots := 0, locals := 62 }
def F_X9_body  (x1 : Int32) (m : Mm) : Option (Int32 × Mm) :=
  bnd (F_X9_in x1 (iI 0) (iI 7) m) fun v1 m2 =>
  (if v1 = iI 0 then
    some ((iI (-1)), m2)
  else
    (if (gI m2 113 56) = (iI 50) then
      some ((iI (-3)), m2)
    else
      wrI 50 m2 151 (gI m2 113 56) x1 fun m3 =>
      nm (pI m3 113 56 ((gI m3 113 56) + (iI 1))) fun m4 =>
      some (((gI m4 113 56) - (iI 1)), m4)))
set_option maxRecDepth 100000 in
set_option maxHeartbeats 4000000 in
theorem c_X9_body (ll : Launch) (cx : CX) (x1 : Int32) (m : Mm) : MT ll yX9_body cX9_body 2 ((some .int)) rm_X9_body cx NN NN Lay cvI 0 0 [.ref (cx.2.2.1 + 113), .int x1] m (F_X9_body x1 m) := by
  refine MT_of (by decide) (Nat.le_of_ble_eq_true rfl) ?_
  intro pp ee ss mm aa bb me co hK hr hk hn
  have C : CM pp ss mm aa me co cX9_body 2 RX9 cx ((some .int)) := ⟨hK, hr, hk⟩
  show TI pp ll ee rm_X9_body ss mm aa bb me co 2 cx 0 [(0, .ref (cx.2.2.1 + 113)), (1, .int x1)] [] m (F_X9_body x1 m)
  unfold F_X9_body
  refine T_iload_n C.1 dX9_body_0 1 rfl ?_
  refine T_iconst C.1 dX9_body_1 ?_
  refine T_bipush C.1 dX9_body_2 rfl ?_
  refine T_callSI (rm := rm_X9_in) [.int x1, .int (iI 0), .int (iI 7)] [] C.1 dX9_body_4 mw_X9_in wm_5_145 wm_5_146 ⟨Nat.le_of_ble_eq_true rfl, Nat.le_of_ble_eq_true rfl⟩ ⟨rfl, rfl⟩ ⟨Nat.zero_le _, Nat.zero_le _⟩ rfl rfl (Nat.le_of_ble_eq_true rfl) (c_X9_in ll cx x1 (iI 0) (iI 7) m) (fun v1 m2 => ?_)
  refine T_if_ne (tgt := 12) C.1 dX9_body_7 (by decide) ?_ ?_
  · refine T_aload_n C.1 dX9_body_12 0 rfl ?_
    refine T_getI C.1 fd_X9_374 (fun _ _ _ _ => rfl) sh113 le113 dX9_body_13 ?_
    refine T_bipush C.1 dX9_body_16 rfl ?_
    refine T_icmp_ne (tgt := 24) C.1 dX9_body_18 (by decide) ?_ ?_
    · refine T_aload_n C.1 dX9_body_24 0 rfl ?_
      refine T_getR (x := 151) C.1 fd_X9_133 (fun _ _ _ _ => rfl) sh113 le113 (fun _ h => h) rfl (by decide) dX9_body_25 ?_
      refine T_aload_n C.1 dX9_body_28 0 rfl ?_
      refine T_getI C.1 fd_X9_374 (fun _ _ _ _ => rfl) sh113 le113 dX9_body_29 ?_
      refine T_iload_n C.1 dX9_body_32 1 rfl ?_
      refine T_iast C.1 LyI_Lay sh151 le151 dX9_body_33 (fun m3 => ?_)
      refine T_aload_n C.1 dX9_body_34 0 rfl ?_
      refine T_dup C.1 dX9_body_35 rfl ?_
      refine T_getI C.1 fd_X9_374 (fun _ _ _ _ => rfl) sh113 le113 dX9_body_36 ?_
      refine T_iconst C.1 dX9_body_39 ?_
      refine T_iadd C.1 dX9_body_40 ?_
      refine T_putI C.1 LyI_Lay fd_X9_374 sh113 le113 dX9_body_41 (fun m4 => ?_)
      refine T_aload_n C.1 dX9_body_44 0 rfl ?_
      refine T_getI C.1 fd_X9_374 (fun _ _ _ _ => rfl) sh113 le113 dX9_body_45 ?_
      refine T_iconst C.1 dX9_body_48 ?_
      refine T_isub C.1 dX9_body_49 ?_
      exact T_iret C.1 C.2.1 C.2.2 dX9_body_50
    · refine T_bipush C.1 dX9_body_21 rfl ?_
      exact T_iret C.1 C.2.1 C.2.2 dX9_body_23
  · refine T_iconst C.1 dX9_body_10 ?_
    exact T_iret C.1 C.2.1 C.2.2 dX9_body_11
def rm_X9_isUnder : Room := { frames := 1, cells := 0, slots := 0, locals := 40 }
def F_X9_isUnder_56   (m : Mm) : Option (Int32 × Mm) :=
  rz (iI 1) m
set_option maxRecDepth 100000 in
set_option maxHeartbeats 4000000 in
theorem t_X9_isUnder_56 {pp : Program} {ll : Launch} {ee : Env} {ss : State} {mm : MethodId} {aa : Array Value} {bb : List Frame} {me : Method} {co : Code} {cx : CX}     (C : CM pp ss mm aa me co cX9_isUnder 2 RX9 cx ((some .boolean)))     (m : Mm) : TI pp ll ee rm_X9_isUnder ss mm aa bb me co 2 cx 56 [] [] m (F_X9_isUnder_56  m) := by
  unfold F_X9_isUnder_56
  refine T_iconst C.1 dX9_isUnder_56 ?_
  refine T_goto (tgt := 61) C.1 dX9_isUnder_57 (by decide) ?_
  exact T_zret C.1 C.2.1 C.2.2 dX9_isUnder_61
def F_X9_isUnder_44  (a1 : Int32) (a2 : Int32) (m : Mm) : Option (Int32 × Mm) :=
  (if a2 = (iI 6) then
    (if a1 = (iI 7) then
      F_X9_isUnder_56 m
    else
      rz (iI 0) m)
  else
    rz (iI 0) m)
set_option maxRecDepth 100000 in
set_option maxHeartbeats 4000000 in
theorem t_X9_isUnder_44 {pp : Program} {ll : Launch} {ee : Env} {ss : State} {mm : MethodId} {aa : Array Value} {bb : List Frame} {me : Method} {co : Code} {cx : CX}     (C : CM pp ss mm aa me co cX9_isUnder 2 RX9 cx ((some .boolean)))    (a1 : Int32) (a2 : Int32) (m : Mm) : TI pp ll ee rm_X9_isUnder ss mm aa bb me co 2 cx 44 [(0, .int a1), (1, .int a2)] [] m (F_X9_isUnder_44  a1 a2 m) := by
  unfold F_X9_isUnder_44
  refine T_iload_n C.1 dX9_isUnder_44 1 rfl ?_
  refine T_bipush C.1 dX9_isUnder_45 rfl ?_
  refine T_icmp_ne (tgt := 60) C.1 dX9_isUnder_47 (by decide) ?_ ?_
  · refine T_iconst C.1 dX9_isUnder_60 ?_
    exact T_zret C.1 C.2.1 C.2.2 dX9_isUnder_61
  · refine T_iload_n C.1 dX9_isUnder_50 0 rfl ?_
    refine T_bipush C.1 dX9_isUnder_51 rfl ?_
    refine T_icmp_ne (tgt := 60) C.1 dX9_isUnder_53 (by decide) ?_ ?_
    · refine T_iconst C.1 dX9_isUnder_60 ?_
      exact T_zret C.1 C.2.1 C.2.2 dX9_isUnder_61
    · exact T_sub [] rfl (t_X9_isUnder_56 C m)
def F_X9_isUnder_34  (a1 : Int32) (a2 : Int32) (m : Mm) : Option (Int32 × Mm) :=
  (if a2 = (iI 3) then
    (if a1 = (iI 5) then
      F_X9_isUnder_56 m
    else
      F_X9_isUnder_44 a1 a2 m)
  else
    F_X9_isUnder_44 a1 a2 m)
set_option maxRecDepth 100000 in
set_option maxHeartbeats 4000000 in
theorem t_X9_isUnder_34 {pp : Program} {ll : Launch} {ee : Env} {ss : State} {mm : MethodId} {aa : Array Value} {bb : List Frame} {me : Method} {co : Code} {cx : CX}     (C : CM pp ss mm aa me co cX9_isUnder 2 RX9 cx ((some .boolean)))    (a1 : Int32) (a2 : Int32) (m : Mm) : TI pp ll ee rm_X9_isUnder ss mm aa bb me co 2 cx 34 [(0, .int a1), (1, .int a2)] [] m (F_X9_isUnder_34  a1 a2 m) := by
  unfold F_X9_isUnder_34
  refine T_iload_n C.1 dX9_isUnder_34 1 rfl ?_
  refine T_iconst C.1 dX9_isUnder_35 ?_
  refine T_icmp_ne (tgt := 44) C.1 dX9_isUnder_36 (by decide) ?_ ?_
  · exact T_sub [0, 1] rfl (t_X9_isUnder_44 C a1 a2 m)
  · refine T_iload_n C.1 dX9_isUnder_39 0 rfl ?_
    refine T_iconst C.1 dX9_isUnder_40 ?_
    refine T_icmp_eq (tgt := 56) C.1 dX9_isUnder_41 (by decide) ?_ ?_
    · exact T_sub [] rfl (t_X9_isUnder_56 C m)
    · exact T_sub [0, 1] rfl (t_X9_isUnder_44 C a1 a2 m)
def F_X9_isUnder_19  (a1 : Int32) (a2 : Int32) (m : Mm) : Option (Int32 × Mm) :=
  (if a2 = (iI 2) then
    (if a1 = (iI 3) then
      F_X9_isUnder_56 m
    else
      (if a1 = (iI 5) then
        F_X9_isUnder_56 m
      else
        F_X9_isUnder_34 a1 a2 m))
  else
    F_X9_isUnder_34 a1 a2 m)
set_option maxRecDepth 100000 in
set_option maxHeartbeats 4000000 in
theorem t_X9_isUnder_19 {pp : Program} {ll : Launch} {ee : Env} {ss : State} {mm : MethodId} {aa : Array Value} {bb : List Frame} {me : Method} {co : Code} {cx : CX}     (C : CM pp ss mm aa me co cX9_isUnder 2 RX9 cx ((some .boolean)))    (a1 : Int32) (a2 : Int32) (m : Mm) : TI pp ll ee rm_X9_isUnder ss mm aa bb me co 2 cx 19 [(0, .int a1), (1, .int a2)] [] m (F_X9_isUnder_19  a1 a2 m) := by
  unfold F_X9_isUnder_19
  refine T_iload_n C.1 dX9_isUnder_19 1 rfl ?_
  refine T_iconst C.1 dX9_isUnder_20 ?_
  refine T_icmp_ne (tgt := 34) C.1 dX9_isUnder_21 (by decide) ?_ ?_
  · exact T_sub [0, 1] rfl (t_X9_isUnder_34 C a1 a2 m)
  · refine T_iload_n C.1 dX9_isUnder_24 0 rfl ?_
    refine T_iconst C.1 dX9_isUnder_25 ?_
    refine T_icmp_eq (tgt := 56) C.1 dX9_isUnder_26 (by decide) ?_ ?_
    · exact T_sub [] rfl (t_X9_isUnder_56 C m)
    · refine T_iload_n C.1 dX9_isUnder_29 0 rfl ?_
      refine T_iconst C.1 dX9_isUnder_30 ?_
      refine T_icmp_eq (tgt := 56) C.1 dX9_isUnder_31 (by decide) ?_ ?_
      · exact T_sub [] rfl (t_X9_isUnder_56 C m)
      · exact T_sub [0, 1] rfl (t_X9_isUnder_34 C a1 a2 m)
def F_X9_isUnder  (x1 : Int32) (x2 : Int32) (m : Mm) : Option (Int32 × Mm) :=
  (if x2 = iI 0 then
    F_X9_isUnder_56 m
  else
    (if x1 = x2 then
      F_X9_isUnder_56 m
    else
      (if x2 = (iI 1) then
        (if x1 = (iI 4) then
          F_X9_isUnder_56 m
        else
          F_X9_isUnder_19 x1 x2 m)
      else
        F_X9_isUnder_19 x1 x2 m)))
set_option maxRecDepth 100000 in
set_option maxHeartbeats 4000000 in
theorem c_X9_isUnder (ll : Launch) (cx : CX) (x1 : Int32) (x2 : Int32) (m : Mm) : MT ll yX9_isUnder cX9_isUnder 2 ((some .boolean)) rm_X9_isUnder cx NN NN Lay cvI 0 0 [.int x1, .int x2] m (F_X9_isUnder x1 x2 m) := by
  refine MT_of (by decide) (Nat.le_of_ble_eq_true rfl) ?_
  intro pp ee ss mm aa bb me co hK hr hk hn
  have C : CM pp ss mm aa me co cX9_isUnder 2 RX9 cx ((some .boolean)) := ⟨hK, hr, hk⟩
  show TI pp ll ee rm_X9_isUnder ss mm aa bb me co 2 cx 0 [(0, .int x1), (1, .int x2)] [] m (F_X9_isUnder x1 x2 m)
  unfold F_X9_isUnder
  refine T_iload_n C.1 dX9_isUnder_0 1 rfl ?_
  refine T_if_eq (tgt := 56) C.1 dX9_isUnder_1 (by decide) ?_ ?_
  · exact T_sub [] rfl (t_X9_isUnder_56 C m)
  · refine T_iload_n C.1 dX9_isUnder_4 0 rfl ?_
    refine T_iload_n C.1 dX9_isUnder_5 1 rfl ?_
    refine T_icmp_eq (tgt := 56) C.1 dX9_isUnder_6 (by decide) ?_ ?_
    · exact T_sub [] rfl (t_X9_isUnder_56 C m)
    · refine T_iload_n C.1 dX9_isUnder_9 1 rfl ?_
      refine T_iconst C.1 dX9_isUnder_10 ?_
      refine T_icmp_ne (tgt := 19) C.1 dX9_isUnder_11 (by decide) ?_ ?_
      · exact T_sub [0, 1] rfl (t_X9_isUnder_19 C x1 x2 m)
      · refine T_iload_n C.1 dX9_isUnder_14 0 rfl ?_
        refine T_iconst C.1 dX9_isUnder_15 ?_
        refine T_icmp_eq (tgt := 56) C.1 dX9_isUnder_16 (by decide) ?_ ?_
        · exact T_sub [] rfl (t_X9_isUnder_56 C m)
        · exact T_sub [0, 1] rfl (t_X9_isUnder_19 C x1 x2 m)
def rm_X9_plainOpens : Room := { frames := 2, cells := 0, slots := 0, locals := 61 }
def F_X9_plainOpens  (x1 : Int32) (x2 : Int32) (m : Mm) : Option (Int32 × Mm) :=
  bnd (F_X9_ran (iI 1) m) fun _ m2 =>
  some ((x2 + x1), m2)
set_option maxRecDepth 100000 in
set_option maxHeartbeats 4000000 in
theorem c_X9_plainOpens (ll : Launch) (cx : CX) (x1 : Int32) (x2 : Int32) (m : Mm) : MT ll yX9_plainOpens cX9_plainOpens 3 ((some .int)) rm_X9_plainOpens cx NN NN Lay cvI 0 0 [.ref (cx.2.2.1 + 113), .int x1, .int x2] m (F_X9_plainOpens x1 x2 m) := by
  refine MT_of (by decide) (Nat.le_of_ble_eq_true rfl) ?_
  intro pp ee ss mm aa bb me co hK hr hk hn
  have C : CM pp ss mm aa me co cX9_plainOpens 3 RX9 cx ((some .int)) := ⟨hK, hr, hk⟩
  show TI pp ll ee rm_X9_plainOpens ss mm aa bb me co 3 cx 0 [(0, .ref (cx.2.2.1 + 113)), (1, .int x1), (2, .int x2)] [] m (F_X9_plainOpens x1 x2 m)
  unfold F_X9_plainOpens
  refine T_aload_n C.1 dX9_plainOpens_0 0 rfl ?_
  refine T_iconst C.1 dX9_plainOpens_1 ?_
  refine T_callVV (rm := rm_X9_ran) [.int (iI 1)] [] C.1 dX9_plainOpens_2 mw_X9_ran wm_6_238 wm_7_0 wm_p_84 ⟨Nat.le_of_ble_eq_true rfl, Nat.le_of_ble_eq_true rfl⟩ ⟨rfl, rfl⟩ ⟨Nat.zero_le _, Nat.zero_le _⟩ rfl rfl (Nat.le_of_ble_eq_true rfl) sh113 le113 ⟨rfl, rfl⟩ (c_X9_ran ll cx (iI 1) m) (fun u1 m2 => ?_)
  refine T_iload_n C.1 dX9_plainOpens_5 2 rfl ?_
  refine T_iload_n C.1 dX9_plainOpens_6 1 rfl ?_
  refine T_iadd C.1 dX9_plainOpens_7 ?_
  exact T_iret C.1 C.2.1 C.2.2 dX9_plainOpens_8
def rm_X9_knownOpens : Room := { frames := 3, cells := 0, slots := 0, locals := 83 }
def F_X9_knownOpens  (x1 : Int32) (x2 : Int32) (m : Mm) : Option (Int32 × Mm) :=
  bnd (F_X9_ran (iI 70) m) fun _ m2 =>
  bnd (F_X9_plainOpens x1 x2 m2) fun v3 m4 =>
  some ((v3 * (iI 2)), m4)
set_option maxRecDepth 100000 in
set_option maxHeartbeats 4000000 in
theorem c_X9_knownOpens (ll : Launch) (cx : CX) (x1 : Int32) (x2 : Int32) (m : Mm) : MT ll yX9_knownOpens cX9_knownOpens 3 ((some .int)) rm_X9_knownOpens cx NN NN Lay cvI 0 0 [.ref (cx.2.2.1 + 113), .int x1, .int x2] m (F_X9_knownOpens x1 x2 m) := by
  refine MT_of (by decide) (Nat.le_of_ble_eq_true rfl) ?_
  intro pp ee ss mm aa bb me co hK hr hk hn
  have C : CM pp ss mm aa me co cX9_knownOpens 3 RX9 cx ((some .int)) := ⟨hK, hr, hk⟩
  show TI pp ll ee rm_X9_knownOpens ss mm aa bb me co 3 cx 0 [(0, .ref (cx.2.2.1 + 113)), (1, .int x1), (2, .int x2)] [] m (F_X9_knownOpens x1 x2 m)
  unfold F_X9_knownOpens
  refine T_aload_n C.1 dX9_knownOpens_0 0 rfl ?_
  refine T_bipush C.1 dX9_knownOpens_1 rfl ?_
  refine T_callVV (rm := rm_X9_ran) [.int (iI 70)] [] C.1 dX9_knownOpens_3 mw_X9_ran wm_6_238 wm_7_0 wm_p_84 ⟨Nat.le_of_ble_eq_true rfl, Nat.le_of_ble_eq_true rfl⟩ ⟨rfl, rfl⟩ ⟨Nat.zero_le _, Nat.zero_le _⟩ rfl rfl (Nat.le_of_ble_eq_true rfl) sh113 le113 ⟨rfl, rfl⟩ (c_X9_ran ll cx (iI 70) m) (fun u1 m2 => ?_)
  refine T_aload_n C.1 dX9_knownOpens_6 0 rfl ?_
  refine T_iload_n C.1 dX9_knownOpens_7 1 rfl ?_
  refine T_iload_n C.1 dX9_knownOpens_8 2 rfl ?_
  refine T_callVI (rm := rm_X9_plainOpens) [.int x1, .int x2] [] C.1 dX9_knownOpens_9 mw_X9_plainOpens wm_7_2 wm_7_4 wm_p_85 ⟨Nat.le_of_ble_eq_true rfl, Nat.le_of_ble_eq_true rfl⟩ ⟨rfl, rfl⟩ ⟨Nat.zero_le _, Nat.zero_le _⟩ rfl rfl (Nat.le_of_ble_eq_true rfl) sh113 le113 ⟨rfl, rfl⟩ (c_X9_plainOpens ll cx x1 x2 m2) (fun v3 m4 => ?_)
  refine T_iconst C.1 dX9_knownOpens_12 ?_
  refine T_imul C.1 dX9_knownOpens_13 ?_
  exact T_iret C.1 C.2.1 C.2.2 dX9_knownOpens_14
def rm_X9_opening : Room := { frames := 4, cells := 0, slots := 0, locals := 105 }
def F_X9_opening  (x1 : Int32) (x2 : Int32) (m : Mm) : Option (Int32 × Mm) :=
  rd 50 x1 fun j1 =>
  bnd (F_X9_isUnder (gI m 151 j1) (iI 1) m) fun v2 m3 =>
  (if v2 = iI 0 then
    rd 50 x1 fun j4 =>
    (if (gI m3 151 j4) = (iI 7) then
      bnd (F_X9_ran (iI 81) m3) fun _ m11 =>
      bnd (F_X9_knownOpens x1 x2 m11) fun v12 m13 =>
      some ((v12 - (iI 1)), m13)
    else
      rd 50 x1 fun j5 =>
      (if (gI m3 151 j5) = (iI 6) then
        bnd (F_X9_knownOpens x1 x2 m3) fun v8 m9 =>
        some (v8, m9)
      else
        bnd (F_X9_plainOpens x1 x2 m3) fun v6 m7 =>
        some (v6, m7)))
  else
    bnd (F_X9_ran (iI 20) m3) fun _ m15 =>
    bnd (F_X9_plainOpens x1 x2 m15) fun v16 m17 =>
    some ((v16 + (iI 3)), m17))
set_option maxRecDepth 100000 in
set_option maxHeartbeats 4000000 in
theorem c_X9_opening (ll : Launch) (cx : CX) (x1 : Int32) (x2 : Int32) (m : Mm) : MT ll yX9_opening cX9_opening 3 ((some .int)) rm_X9_opening cx NN NN Lay cvI 0 0 [.ref (cx.2.2.1 + 113), .int x1, .int x2] m (F_X9_opening x1 x2 m) := by
  refine MT_of (by decide) (Nat.le_of_ble_eq_true rfl) ?_
  intro pp ee ss mm aa bb me co hK hr hk hn
  have C : CM pp ss mm aa me co cX9_opening 3 RX9 cx ((some .int)) := ⟨hK, hr, hk⟩
  show TI pp ll ee rm_X9_opening ss mm aa bb me co 3 cx 0 [(0, .ref (cx.2.2.1 + 113)), (1, .int x1), (2, .int x2)] [] m (F_X9_opening x1 x2 m)
  unfold F_X9_opening
  refine T_aload_n C.1 dX9_opening_0 0 rfl ?_
  refine T_getR (x := 151) C.1 fd_X9_133 (fun _ _ _ _ => rfl) sh113 le113 (fun _ h => h) rfl (by decide) dX9_opening_1 ?_
  refine T_iload_n C.1 dX9_opening_4 1 rfl ?_
  refine T_iald C.1 dX9_opening_5 sh151 le151 (fun j1 => ?_)
  refine T_iconst C.1 dX9_opening_6 ?_
  refine T_callSI (rm := rm_X9_isUnder) [.int (gI m 151 j1), .int (iI 1)] [] C.1 dX9_opening_7 mw_X9_isUnder wm_6_235 wm_6_236 ⟨Nat.le_of_ble_eq_true rfl, Nat.le_of_ble_eq_true rfl⟩ ⟨rfl, rfl⟩ ⟨Nat.zero_le _, Nat.zero_le _⟩ rfl rfl (Nat.le_of_ble_eq_true rfl) (c_X9_isUnder ll cx (gI m 151 j1) (iI 1) m) (fun v2 m3 => ?_)
  refine T_if_eq (tgt := 28) C.1 dX9_opening_10 (by decide) ?_ ?_
  · refine T_aload_n C.1 dX9_opening_28 0 rfl ?_
    refine T_getR (x := 151) C.1 fd_X9_133 (fun _ _ _ _ => rfl) sh113 le113 (fun _ h => h) rfl (by decide) dX9_opening_29 ?_
    refine T_iload_n C.1 dX9_opening_32 1 rfl ?_
    refine T_iald C.1 dX9_opening_33 sh151 le151 (fun j4 => ?_)
    refine T_bipush C.1 dX9_opening_34 rfl ?_
    refine T_icmp_ne (tgt := 54) C.1 dX9_opening_36 (by decide) ?_ ?_
    · refine T_aload_n C.1 dX9_opening_54 0 rfl ?_
      refine T_getR (x := 151) C.1 fd_X9_133 (fun _ _ _ _ => rfl) sh113 le113 (fun _ h => h) rfl (by decide) dX9_opening_55 ?_
      refine T_iload_n C.1 dX9_opening_58 1 rfl ?_
      refine T_iald C.1 dX9_opening_59 sh151 le151 (fun j5 => ?_)
      refine T_bipush C.1 dX9_opening_60 rfl ?_
      refine T_icmp_ne (tgt := 74) C.1 dX9_opening_62 (by decide) ?_ ?_
      · refine T_aload_n C.1 dX9_opening_74 0 rfl ?_
        refine T_iload_n C.1 dX9_opening_75 1 rfl ?_
        refine T_iload_n C.1 dX9_opening_76 2 rfl ?_
        refine T_callVI (rm := rm_X9_plainOpens) [.int x1, .int x2] [] C.1 dX9_opening_77 mw_X9_plainOpens wm_7_2 wm_7_4 wm_p_85 ⟨Nat.le_of_ble_eq_true rfl, Nat.le_of_ble_eq_true rfl⟩ ⟨rfl, rfl⟩ ⟨Nat.zero_le _, Nat.zero_le _⟩ rfl rfl (Nat.le_of_ble_eq_true rfl) sh113 le113 ⟨rfl, rfl⟩ (c_X9_plainOpens ll cx x1 x2 m3) (fun v6 m7 => ?_)
        exact T_iret C.1 C.2.1 C.2.2 dX9_opening_80
      · refine T_aload_n C.1 dX9_opening_65 0 rfl ?_
        refine T_iload_n C.1 dX9_opening_66 1 rfl ?_
        refine T_iload_n C.1 dX9_opening_67 2 rfl ?_
        refine T_callVI (rm := rm_X9_knownOpens) [.int x1, .int x2] [] C.1 dX9_opening_68 mw_X9_knownOpens wm_7_6 wm_7_8 wm_p_86 ⟨Nat.le_of_ble_eq_true rfl, Nat.le_of_ble_eq_true rfl⟩ ⟨rfl, rfl⟩ ⟨Nat.zero_le _, Nat.zero_le _⟩ rfl rfl (Nat.le_of_ble_eq_true rfl) sh113 le113 ⟨rfl, rfl⟩ (c_X9_knownOpens ll cx x1 x2 m3) (fun v8 m9 => ?_)
        refine T_goto (tgt := 80) C.1 dX9_opening_71 (by decide) ?_
        exact T_iret C.1 C.2.1 C.2.2 dX9_opening_80
    · refine T_aload_n C.1 dX9_opening_39 0 rfl ?_
      refine T_bipush C.1 dX9_opening_40 rfl ?_
      refine T_callVV (rm := rm_X9_ran) [.int (iI 81)] [] C.1 dX9_opening_42 mw_X9_ran wm_6_238 wm_7_0 wm_p_84 ⟨Nat.le_of_ble_eq_true rfl, Nat.le_of_ble_eq_true rfl⟩ ⟨rfl, rfl⟩ ⟨Nat.zero_le _, Nat.zero_le _⟩ rfl rfl (Nat.le_of_ble_eq_true rfl) sh113 le113 ⟨rfl, rfl⟩ (c_X9_ran ll cx (iI 81) m3) (fun u10 m11 => ?_)
      refine T_aload_n C.1 dX9_opening_45 0 rfl ?_
      refine T_iload_n C.1 dX9_opening_46 1 rfl ?_
      refine T_iload_n C.1 dX9_opening_47 2 rfl ?_
      refine T_callVI (rm := rm_X9_knownOpens) [.int x1, .int x2] [] C.1 dX9_opening_48 mw_X9_knownOpens wm_7_6 wm_7_8 wm_p_86 ⟨Nat.le_of_ble_eq_true rfl, Nat.le_of_ble_eq_true rfl⟩ ⟨rfl, rfl⟩ ⟨Nat.zero_le _, Nat.zero_le _⟩ rfl rfl (Nat.le_of_ble_eq_true rfl) sh113 le113 ⟨rfl, rfl⟩ (c_X9_knownOpens ll cx x1 x2 m11) (fun v12 m13 => ?_)
      refine T_iconst C.1 dX9_opening_51 ?_
      refine T_isub C.1 dX9_opening_52 ?_
      exact T_iret C.1 C.2.1 C.2.2 dX9_opening_53
  · refine T_aload_n C.1 dX9_opening_13 0 rfl ?_
    refine T_bipush C.1 dX9_opening_14 rfl ?_
    refine T_callVV (rm := rm_X9_ran) [.int (iI 20)] [] C.1 dX9_opening_16 mw_X9_ran wm_6_238 wm_7_0 wm_p_84 ⟨Nat.le_of_ble_eq_true rfl, Nat.le_of_ble_eq_true rfl⟩ ⟨rfl, rfl⟩ ⟨Nat.zero_le _, Nat.zero_le _⟩ rfl rfl (Nat.le_of_ble_eq_true rfl) sh113 le113 ⟨rfl, rfl⟩ (c_X9_ran ll cx (iI 20) m3) (fun u14 m15 => ?_)
    refine T_aload_n C.1 dX9_opening_19 0 rfl ?_
    refine T_iload_n C.1 dX9_opening_20 1 rfl ?_
    refine T_iload_n C.1 dX9_opening_21 2 rfl ?_
    refine T_callVI (rm := rm_X9_plainOpens) [.int x1, .int x2] [] C.1 dX9_opening_22 mw_X9_plainOpens wm_7_2 wm_7_4 wm_p_85 ⟨Nat.le_of_ble_eq_true rfl, Nat.le_of_ble_eq_true rfl⟩ ⟨rfl, rfl⟩ ⟨Nat.zero_le _, Nat.zero_le _⟩ rfl rfl (Nat.le_of_ble_eq_true rfl) sh113 le113 ⟨rfl, rfl⟩ (c_X9_plainOpens ll cx x1 x2 m15) (fun v16 m17 => ?_)
    refine T_iconst C.1 dX9_opening_25 ?_
    refine T_iadd C.1 dX9_opening_26 ?_
    exact T_iret C.1 C.2.1 C.2.2 dX9_opening_27
def rm_X9_plainTakes : Room := { frames := 5, cells := 0, slots := 0, locals := 127 }
def F_X9_plainTakes  (x1 : Int32) (x2 : Int32) (m : Mm) : Option (Int32 × Mm) :=
  bnd (F_X9_ran (iI 10) m) fun _ m2 =>
  bnd (F_X9_opening x1 x2 m2) fun v3 m4 =>
  some ((v3 * (iI 2)), m4)
set_option maxRecDepth 100000 in
set_option maxHeartbeats 4000000 in
theorem c_X9_plainTakes (ll : Launch) (cx : CX) (x1 : Int32) (x2 : Int32) (m : Mm) : MT ll yX9_plainTakes cX9_plainTakes 3 ((some .int)) rm_X9_plainTakes cx NN NN Lay cvI 0 0 [.ref (cx.2.2.1 + 113), .int x1, .int x2] m (F_X9_plainTakes x1 x2 m) := by
  refine MT_of (by decide) (Nat.le_of_ble_eq_true rfl) ?_
  intro pp ee ss mm aa bb me co hK hr hk hn
  have C : CM pp ss mm aa me co cX9_plainTakes 3 RX9 cx ((some .int)) := ⟨hK, hr, hk⟩
  show TI pp ll ee rm_X9_plainTakes ss mm aa bb me co 3 cx 0 [(0, .ref (cx.2.2.1 + 113)), (1, .int x1), (2, .int x2)] [] m (F_X9_plainTakes x1 x2 m)
  unfold F_X9_plainTakes
  refine T_aload_n C.1 dX9_plainTakes_0 0 rfl ?_
  refine T_bipush C.1 dX9_plainTakes_1 rfl ?_
  refine T_callVV (rm := rm_X9_ran) [.int (iI 10)] [] C.1 dX9_plainTakes_3 mw_X9_ran wm_6_238 wm_7_0 wm_p_84 ⟨Nat.le_of_ble_eq_true rfl, Nat.le_of_ble_eq_true rfl⟩ ⟨rfl, rfl⟩ ⟨Nat.zero_le _, Nat.zero_le _⟩ rfl rfl (Nat.le_of_ble_eq_true rfl) sh113 le113 ⟨rfl, rfl⟩ (c_X9_ran ll cx (iI 10) m) (fun u1 m2 => ?_)
  refine T_aload_n C.1 dX9_plainTakes_6 0 rfl ?_
  refine T_iload_n C.1 dX9_plainTakes_7 1 rfl ?_
  refine T_iload_n C.1 dX9_plainTakes_8 2 rfl ?_
  refine T_callVI (rm := rm_X9_opening) [.int x1, .int x2] [] C.1 dX9_plainTakes_9 mw_X9_opening wm_6_231 wm_6_233 wm_p_83 ⟨Nat.le_of_ble_eq_true rfl, Nat.le_of_ble_eq_true rfl⟩ ⟨rfl, rfl⟩ ⟨Nat.zero_le _, Nat.zero_le _⟩ rfl rfl (Nat.le_of_ble_eq_true rfl) sh113 le113 ⟨rfl, rfl⟩ (c_X9_opening ll cx x1 x2 m2) (fun v3 m4 => ?_)
  refine T_iconst C.1 dX9_plainTakes_12 ?_
  refine T_imul C.1 dX9_plainTakes_13 ?_
  exact T_iret C.1 C.2.1 C.2.2 dX9_plainTakes_14
def rm_X9_openTakes : Room := { frames := 6, cells := 0, slots := 0, locals := 149 }
def F_X9_openTakes  (x1 : Int32) (x2 : Int32) (m : Mm) : Option (Int32 × Mm) :=
  bnd (F_X9_ran (iI 30) m) fun _ m2 =>
  bnd (F_X9_plainTakes x1 x2 m2) fun v3 m4 =>
  some ((-v3), m4)
set_option maxRecDepth 100000 in
set_option maxHeartbeats 4000000 in
theorem c_X9_openTakes (ll : Launch) (cx : CX) (x1 : Int32) (x2 : Int32) (m : Mm) : MT ll yX9_openTakes cX9_openTakes 3 ((some .int)) rm_X9_openTakes cx NN NN Lay cvI 0 0 [.ref (cx.2.2.1 + 113), .int x1, .int x2] m (F_X9_openTakes x1 x2 m) := by
  refine MT_of (by decide) (Nat.le_of_ble_eq_true rfl) ?_
  intro pp ee ss mm aa bb me co hK hr hk hn
  have C : CM pp ss mm aa me co cX9_openTakes 3 RX9 cx ((some .int)) := ⟨hK, hr, hk⟩
  show TI pp ll ee rm_X9_openTakes ss mm aa bb me co 3 cx 0 [(0, .ref (cx.2.2.1 + 113)), (1, .int x1), (2, .int x2)] [] m (F_X9_openTakes x1 x2 m)
  unfold F_X9_openTakes
  refine T_aload_n C.1 dX9_openTakes_0 0 rfl ?_
  refine T_bipush C.1 dX9_openTakes_1 rfl ?_
  refine T_callVV (rm := rm_X9_ran) [.int (iI 30)] [] C.1 dX9_openTakes_3 mw_X9_ran wm_6_238 wm_7_0 wm_p_84 ⟨Nat.le_of_ble_eq_true rfl, Nat.le_of_ble_eq_true rfl⟩ ⟨rfl, rfl⟩ ⟨Nat.zero_le _, Nat.zero_le _⟩ rfl rfl (Nat.le_of_ble_eq_true rfl) sh113 le113 ⟨rfl, rfl⟩ (c_X9_ran ll cx (iI 30) m) (fun u1 m2 => ?_)
  refine T_aload_n C.1 dX9_openTakes_6 0 rfl ?_
  refine T_iload_n C.1 dX9_openTakes_7 1 rfl ?_
  refine T_iload_n C.1 dX9_openTakes_8 2 rfl ?_
  refine T_callVI (rm := rm_X9_plainTakes) [.int x1, .int x2] [] C.1 dX9_openTakes_9 mw_X9_plainTakes wm_7_18 wm_7_20 wm_p_89 ⟨Nat.le_of_ble_eq_true rfl, Nat.le_of_ble_eq_true rfl⟩ ⟨rfl, rfl⟩ ⟨Nat.zero_le _, Nat.zero_le _⟩ rfl rfl (Nat.le_of_ble_eq_true rfl) sh113 le113 ⟨rfl, rfl⟩ (c_X9_plainTakes ll cx x1 x2 m2) (fun v3 m4 => ?_)
  refine T_ineg C.1 dX9_openTakes_12 ?_
  exact T_iret C.1 C.2.1 C.2.2 dX9_openTakes_13
def rm_X9_plainLooks : Room := { frames := 2, cells := 0, slots := 0, locals := 61 }
def F_X9_plainLooks  (x1 : Int32) (x2 : Int32) (m : Mm) : Option (Int32 × Mm) :=
  bnd (F_X9_ran (iI 11) m) fun _ m2 =>
  some ((x2 ^^^ x1), m2)
set_option maxRecDepth 100000 in
set_option maxHeartbeats 4000000 in
theorem c_X9_plainLooks (ll : Launch) (cx : CX) (x1 : Int32) (x2 : Int32) (m : Mm) : MT ll yX9_plainLooks cX9_plainLooks 3 ((some .int)) rm_X9_plainLooks cx NN NN Lay cvI 0 0 [.ref (cx.2.2.1 + 113), .int x1, .int x2] m (F_X9_plainLooks x1 x2 m) := by
  refine MT_of (by decide) (Nat.le_of_ble_eq_true rfl) ?_
  intro pp ee ss mm aa bb me co hK hr hk hn
  have C : CM pp ss mm aa me co cX9_plainLooks 3 RX9 cx ((some .int)) := ⟨hK, hr, hk⟩
  show TI pp ll ee rm_X9_plainLooks ss mm aa bb me co 3 cx 0 [(0, .ref (cx.2.2.1 + 113)), (1, .int x1), (2, .int x2)] [] m (F_X9_plainLooks x1 x2 m)
  unfold F_X9_plainLooks
  refine T_aload_n C.1 dX9_plainLooks_0 0 rfl ?_
  refine T_bipush C.1 dX9_plainLooks_1 rfl ?_
  refine T_callVV (rm := rm_X9_ran) [.int (iI 11)] [] C.1 dX9_plainLooks_3 mw_X9_ran wm_6_238 wm_7_0 wm_p_84 ⟨Nat.le_of_ble_eq_true rfl, Nat.le_of_ble_eq_true rfl⟩ ⟨rfl, rfl⟩ ⟨Nat.zero_le _, Nat.zero_le _⟩ rfl rfl (Nat.le_of_ble_eq_true rfl) sh113 le113 ⟨rfl, rfl⟩ (c_X9_ran ll cx (iI 11) m) (fun u1 m2 => ?_)
  refine T_iload_n C.1 dX9_plainLooks_6 2 rfl ?_
  refine T_iload_n C.1 dX9_plainLooks_7 1 rfl ?_
  refine T_ixor C.1 dX9_plainLooks_8 ?_
  exact T_iret C.1 C.2.1 C.2.2 dX9_plainLooks_9
def rm_X9_hotLooks : Room := { frames := 3, cells := 0, slots := 0, locals := 83 }
def F_X9_hotLooks  (x1 : Int32) (x2 : Int32) (m : Mm) : Option (Int32 × Mm) :=
  bnd (F_X9_ran (iI 40) m) fun _ m2 =>
  bnd (F_X9_plainLooks x1 x2 m2) fun v3 m4 =>
  some ((v3 * (iI 3)), m4)
set_option maxRecDepth 100000 in
set_option maxHeartbeats 4000000 in
theorem c_X9_hotLooks (ll : Launch) (cx : CX) (x1 : Int32) (x2 : Int32) (m : Mm) : MT ll yX9_hotLooks cX9_hotLooks 3 ((some .int)) rm_X9_hotLooks cx NN NN Lay cvI 0 0 [.ref (cx.2.2.1 + 113), .int x1, .int x2] m (F_X9_hotLooks x1 x2 m) := by
  refine MT_of (by decide) (Nat.le_of_ble_eq_true rfl) ?_
  intro pp ee ss mm aa bb me co hK hr hk hn
  have C : CM pp ss mm aa me co cX9_hotLooks 3 RX9 cx ((some .int)) := ⟨hK, hr, hk⟩
  show TI pp ll ee rm_X9_hotLooks ss mm aa bb me co 3 cx 0 [(0, .ref (cx.2.2.1 + 113)), (1, .int x1), (2, .int x2)] [] m (F_X9_hotLooks x1 x2 m)
  unfold F_X9_hotLooks
  refine T_aload_n C.1 dX9_hotLooks_0 0 rfl ?_
  refine T_bipush C.1 dX9_hotLooks_1 rfl ?_
  refine T_callVV (rm := rm_X9_ran) [.int (iI 40)] [] C.1 dX9_hotLooks_3 mw_X9_ran wm_6_238 wm_7_0 wm_p_84 ⟨Nat.le_of_ble_eq_true rfl, Nat.le_of_ble_eq_true rfl⟩ ⟨rfl, rfl⟩ ⟨Nat.zero_le _, Nat.zero_le _⟩ rfl rfl (Nat.le_of_ble_eq_true rfl) sh113 le113 ⟨rfl, rfl⟩ (c_X9_ran ll cx (iI 40) m) (fun u1 m2 => ?_)
  refine T_aload_n C.1 dX9_hotLooks_6 0 rfl ?_
  refine T_iload_n C.1 dX9_hotLooks_7 1 rfl ?_
  refine T_iload_n C.1 dX9_hotLooks_8 2 rfl ?_
  refine T_callVI (rm := rm_X9_plainLooks) [.int x1, .int x2] [] C.1 dX9_hotLooks_9 mw_X9_plainLooks wm_7_30 wm_7_32 wm_p_92 ⟨Nat.le_of_ble_eq_true rfl, Nat.le_of_ble_eq_true rfl⟩ ⟨rfl, rfl⟩ ⟨Nat.zero_le _, Nat.zero_le _⟩ rfl rfl (Nat.le_of_ble_eq_true rfl) sh113 le113 ⟨rfl, rfl⟩ (c_X9_plainLooks ll cx x1 x2 m2) (fun v3 m4 => ?_)
  refine T_iconst C.1 dX9_hotLooks_12 ?_
  refine T_imul C.1 dX9_hotLooks_13 ?_
  exact T_iret C.1 C.2.1 C.2.2 dX9_hotLooks_14
def rm_X9_looking : Room := { frames := 5, cells := 0, slots := 0, locals := 127 }
def F_X9_looking  (x1 : Int32) (x2 : Int32) (m : Mm) : Option (Int32 × Mm) :=
  rd 50 x1 fun j1 =>
  (if (gI m 151 j1) = (iI 5) then
    bnd (F_X9_ran (iI 60) m) fun _ m8 =>
    bnd (F_X9_hotLooks x1 x2 m8) fun v9 m10 =>
    bnd (F_X9_opening x1 (iI 2) m10) fun v11 m12 =>
    some ((v9 - v11), m12)
  else
    rd 50 x1 fun j2 =>
    (if (gI m 151 j2) = (iI 3) then
      bnd (F_X9_hotLooks x1 x2 m) fun v5 m6 =>
      some (v5, m6)
    else
      bnd (F_X9_plainLooks x1 x2 m) fun v3 m4 =>
      some (v3, m4)))
set_option maxRecDepth 100000 in
set_option maxHeartbeats 4000000 in
theorem c_X9_looking (ll : Launch) (cx : CX) (x1 : Int32) (x2 : Int32) (m : Mm) : MT ll yX9_looking cX9_looking 4 ((some .int)) rm_X9_looking cx NN NN Lay cvI 0 0 [.ref (cx.2.2.1 + 113), .int x1, .int x2] m (F_X9_looking x1 x2 m) := by
  refine MT_of (by decide) (Nat.le_of_ble_eq_true rfl) ?_
  intro pp ee ss mm aa bb me co hK hr hk hn
  have C : CM pp ss mm aa me co cX9_looking 4 RX9 cx ((some .int)) := ⟨hK, hr, hk⟩
  show TI pp ll ee rm_X9_looking ss mm aa bb me co 4 cx 0 [(0, .ref (cx.2.2.1 + 113)), (1, .int x1), (2, .int x2)] [] m (F_X9_looking x1 x2 m)
  unfold F_X9_looking
  refine T_aload_n C.1 dX9_looking_0 0 rfl ?_
  refine T_getR (x := 151) C.1 fd_X9_133 (fun _ _ _ _ => rfl) sh113 le113 (fun _ h => h) rfl (by decide) dX9_looking_1 ?_
  refine T_iload_n C.1 dX9_looking_4 1 rfl ?_
  refine T_iald C.1 dX9_looking_5 sh151 le151 (fun j1 => ?_)
  refine T_iconst C.1 dX9_looking_6 ?_
  refine T_icmp_ne (tgt := 32) C.1 dX9_looking_7 (by decide) ?_ ?_
  · refine T_aload_n C.1 dX9_looking_32 0 rfl ?_
    refine T_getR (x := 151) C.1 fd_X9_133 (fun _ _ _ _ => rfl) sh113 le113 (fun _ h => h) rfl (by decide) dX9_looking_33 ?_
    refine T_iload_n C.1 dX9_looking_36 1 rfl ?_
    refine T_iald C.1 dX9_looking_37 sh151 le151 (fun j2 => ?_)
    refine T_iconst C.1 dX9_looking_38 ?_
    refine T_icmp_ne (tgt := 51) C.1 dX9_looking_39 (by decide) ?_ ?_
    · refine T_aload_n C.1 dX9_looking_51 0 rfl ?_
      refine T_iload_n C.1 dX9_looking_52 1 rfl ?_
      refine T_iload_n C.1 dX9_looking_53 2 rfl ?_
      refine T_callVI (rm := rm_X9_plainLooks) [.int x1, .int x2] [] C.1 dX9_looking_54 mw_X9_plainLooks wm_7_30 wm_7_32 wm_p_92 ⟨Nat.le_of_ble_eq_true rfl, Nat.le_of_ble_eq_true rfl⟩ ⟨rfl, rfl⟩ ⟨Nat.zero_le _, Nat.zero_le _⟩ rfl rfl (Nat.le_of_ble_eq_true rfl) sh113 le113 ⟨rfl, rfl⟩ (c_X9_plainLooks ll cx x1 x2 m) (fun v3 m4 => ?_)
      exact T_iret C.1 C.2.1 C.2.2 dX9_looking_57
    · refine T_aload_n C.1 dX9_looking_42 0 rfl ?_
      refine T_iload_n C.1 dX9_looking_43 1 rfl ?_
      refine T_iload_n C.1 dX9_looking_44 2 rfl ?_
      refine T_callVI (rm := rm_X9_hotLooks) [.int x1, .int x2] [] C.1 dX9_looking_45 mw_X9_hotLooks wm_7_26 wm_7_28 wm_p_91 ⟨Nat.le_of_ble_eq_true rfl, Nat.le_of_ble_eq_true rfl⟩ ⟨rfl, rfl⟩ ⟨Nat.zero_le _, Nat.zero_le _⟩ rfl rfl (Nat.le_of_ble_eq_true rfl) sh113 le113 ⟨rfl, rfl⟩ (c_X9_hotLooks ll cx x1 x2 m) (fun v5 m6 => ?_)
      refine T_goto (tgt := 57) C.1 dX9_looking_48 (by decide) ?_
      exact T_iret C.1 C.2.1 C.2.2 dX9_looking_57
  · refine T_aload_n C.1 dX9_looking_10 0 rfl ?_
    refine T_bipush C.1 dX9_looking_11 rfl ?_
    refine T_callVV (rm := rm_X9_ran) [.int (iI 60)] [] C.1 dX9_looking_13 mw_X9_ran wm_6_238 wm_7_0 wm_p_84 ⟨Nat.le_of_ble_eq_true rfl, Nat.le_of_ble_eq_true rfl⟩ ⟨rfl, rfl⟩ ⟨Nat.zero_le _, Nat.zero_le _⟩ rfl rfl (Nat.le_of_ble_eq_true rfl) sh113 le113 ⟨rfl, rfl⟩ (c_X9_ran ll cx (iI 60) m) (fun u7 m8 => ?_)
    refine T_aload_n C.1 dX9_looking_16 0 rfl ?_
    refine T_iload_n C.1 dX9_looking_17 1 rfl ?_
    refine T_iload_n C.1 dX9_looking_18 2 rfl ?_
    refine T_callVI (rm := rm_X9_hotLooks) [.int x1, .int x2] [] C.1 dX9_looking_19 mw_X9_hotLooks wm_7_26 wm_7_28 wm_p_91 ⟨Nat.le_of_ble_eq_true rfl, Nat.le_of_ble_eq_true rfl⟩ ⟨rfl, rfl⟩ ⟨Nat.zero_le _, Nat.zero_le _⟩ rfl rfl (Nat.le_of_ble_eq_true rfl) sh113 le113 ⟨rfl, rfl⟩ (c_X9_hotLooks ll cx x1 x2 m8) (fun v9 m10 => ?_)
    refine T_istore_n (lv' := [(3, .int v9), (0, .ref (cx.2.2.1 + 113)), (1, .int x1), (2, .int x2)]) C.1 dX9_looking_22 (by decide) rfl ?_
    refine T_iload_n C.1 dX9_looking_23 0 rfl ?_
    refine T_aload_n C.1 dX9_looking_24 1 rfl ?_
    refine T_iload_n C.1 dX9_looking_25 2 rfl ?_
    refine T_iconst C.1 dX9_looking_26 ?_
    refine T_callVI (rm := rm_X9_opening) [.int x1, .int (iI 2)] [.int v9] C.1 dX9_looking_27 mw_X9_opening wm_6_231 wm_6_233 wm_p_83 ⟨Nat.le_of_ble_eq_true rfl, Nat.le_of_ble_eq_true rfl⟩ ⟨rfl, rfl⟩ ⟨Nat.zero_le _, Nat.zero_le _⟩ rfl rfl (Nat.le_of_ble_eq_true rfl) sh113 le113 ⟨rfl, rfl⟩ (c_X9_opening ll cx x1 (iI 2) m10) (fun v11 m12 => ?_)
    refine T_isub C.1 dX9_looking_30 ?_
    exact T_iret C.1 C.2.1 C.2.2 dX9_looking_31
def rm_X9_taking : Room := { frames := 7, cells := 0, slots := 0, locals := 171 }
def F_X9_taking  (x1 : Int32) (x2 : Int32) (m : Mm) : Option (Int32 × Mm) :=
  rd 50 x1 fun j1 =>
  bnd (F_X9_isUnder (gI m 151 j1) (iI 3) m) fun v2 m3 =>
  (if v2 = iI 0 then
    rd 50 x1 fun j4 =>
    (if (gI m3 151 j4) = (iI 7) then
      bnd (F_X9_ran (iI 80) m3) fun _ m11 =>
      bnd (F_X9_plainTakes x1 x2 m11) fun v12 m13 =>
      bnd (F_X9_looking x1 (iI 2) m13) fun v14 m15 =>
      some ((v12 + v14), m15)
    else
      rd 50 x1 fun j5 =>
      (if (gI m3 151 j5) = (iI 2) then
        bnd (F_X9_openTakes x1 x2 m3) fun v8 m9 =>
        some (v8, m9)
      else
        bnd (F_X9_plainTakes x1 x2 m3) fun v6 m7 =>
        some (v6, m7)))
  else
    bnd (F_X9_ran (iI 41) m3) fun _ m17 =>
    bnd (F_X9_openTakes x1 (x2 + (iI 1)) m17) fun v18 m19 =>
    some (v18, m19))
set_option maxRecDepth 100000 in
set_option maxHeartbeats 4000000 in
theorem c_X9_taking (ll : Launch) (cx : CX) (x1 : Int32) (x2 : Int32) (m : Mm) : MT ll yX9_taking cX9_taking 4 ((some .int)) rm_X9_taking cx NN NN Lay cvI 0 0 [.ref (cx.2.2.1 + 113), .int x1, .int x2] m (F_X9_taking x1 x2 m) := by
  refine MT_of (by decide) (Nat.le_of_ble_eq_true rfl) ?_
  intro pp ee ss mm aa bb me co hK hr hk hn
  have C : CM pp ss mm aa me co cX9_taking 4 RX9 cx ((some .int)) := ⟨hK, hr, hk⟩
  show TI pp ll ee rm_X9_taking ss mm aa bb me co 4 cx 0 [(0, .ref (cx.2.2.1 + 113)), (1, .int x1), (2, .int x2)] [] m (F_X9_taking x1 x2 m)
  unfold F_X9_taking
  refine T_aload_n C.1 dX9_taking_0 0 rfl ?_
  refine T_getR (x := 151) C.1 fd_X9_133 (fun _ _ _ _ => rfl) sh113 le113 (fun _ h => h) rfl (by decide) dX9_taking_1 ?_
  refine T_iload_n C.1 dX9_taking_4 1 rfl ?_
  refine T_iald C.1 dX9_taking_5 sh151 le151 (fun j1 => ?_)
  refine T_iconst C.1 dX9_taking_6 ?_
  refine T_callSI (rm := rm_X9_isUnder) [.int (gI m 151 j1), .int (iI 3)] [] C.1 dX9_taking_7 mw_X9_isUnder wm_6_235 wm_6_236 ⟨Nat.le_of_ble_eq_true rfl, Nat.le_of_ble_eq_true rfl⟩ ⟨rfl, rfl⟩ ⟨Nat.zero_le _, Nat.zero_le _⟩ rfl rfl (Nat.le_of_ble_eq_true rfl) (c_X9_isUnder ll cx (gI m 151 j1) (iI 3) m) (fun v2 m3 => ?_)
  refine T_if_eq (tgt := 28) C.1 dX9_taking_10 (by decide) ?_ ?_
  · refine T_aload_n C.1 dX9_taking_28 0 rfl ?_
    refine T_getR (x := 151) C.1 fd_X9_133 (fun _ _ _ _ => rfl) sh113 le113 (fun _ h => h) rfl (by decide) dX9_taking_29 ?_
    refine T_iload_n C.1 dX9_taking_32 1 rfl ?_
    refine T_iald C.1 dX9_taking_33 sh151 le151 (fun j4 => ?_)
    refine T_bipush C.1 dX9_taking_34 rfl ?_
    refine T_icmp_ne (tgt := 61) C.1 dX9_taking_36 (by decide) ?_ ?_
    · refine T_aload_n C.1 dX9_taking_61 0 rfl ?_
      refine T_getR (x := 151) C.1 fd_X9_133 (fun _ _ _ _ => rfl) sh113 le113 (fun _ h => h) rfl (by decide) dX9_taking_62 ?_
      refine T_iload_n C.1 dX9_taking_65 1 rfl ?_
      refine T_iald C.1 dX9_taking_66 sh151 le151 (fun j5 => ?_)
      refine T_iconst C.1 dX9_taking_67 ?_
      refine T_icmp_ne (tgt := 80) C.1 dX9_taking_68 (by decide) ?_ ?_
      · refine T_aload_n C.1 dX9_taking_80 0 rfl ?_
        refine T_iload_n C.1 dX9_taking_81 1 rfl ?_
        refine T_iload_n C.1 dX9_taking_82 2 rfl ?_
        refine T_callVI (rm := rm_X9_plainTakes) [.int x1, .int x2] [] C.1 dX9_taking_83 mw_X9_plainTakes wm_7_18 wm_7_20 wm_p_89 ⟨Nat.le_of_ble_eq_true rfl, Nat.le_of_ble_eq_true rfl⟩ ⟨rfl, rfl⟩ ⟨Nat.zero_le _, Nat.zero_le _⟩ rfl rfl (Nat.le_of_ble_eq_true rfl) sh113 le113 ⟨rfl, rfl⟩ (c_X9_plainTakes ll cx x1 x2 m3) (fun v6 m7 => ?_)
        exact T_iret C.1 C.2.1 C.2.2 dX9_taking_86
      · refine T_aload_n C.1 dX9_taking_71 0 rfl ?_
        refine T_iload_n C.1 dX9_taking_72 1 rfl ?_
        refine T_iload_n C.1 dX9_taking_73 2 rfl ?_
        refine T_callVI (rm := rm_X9_openTakes) [.int x1, .int x2] [] C.1 dX9_taking_74 mw_X9_openTakes wm_7_14 wm_7_16 wm_p_88 ⟨Nat.le_of_ble_eq_true rfl, Nat.le_of_ble_eq_true rfl⟩ ⟨rfl, rfl⟩ ⟨Nat.zero_le _, Nat.zero_le _⟩ rfl rfl (Nat.le_of_ble_eq_true rfl) sh113 le113 ⟨rfl, rfl⟩ (c_X9_openTakes ll cx x1 x2 m3) (fun v8 m9 => ?_)
        refine T_goto (tgt := 86) C.1 dX9_taking_77 (by decide) ?_
        exact T_iret C.1 C.2.1 C.2.2 dX9_taking_86
    · refine T_aload_n C.1 dX9_taking_39 0 rfl ?_
      refine T_bipush C.1 dX9_taking_40 rfl ?_
      refine T_callVV (rm := rm_X9_ran) [.int (iI 80)] [] C.1 dX9_taking_42 mw_X9_ran wm_6_238 wm_7_0 wm_p_84 ⟨Nat.le_of_ble_eq_true rfl, Nat.le_of_ble_eq_true rfl⟩ ⟨rfl, rfl⟩ ⟨Nat.zero_le _, Nat.zero_le _⟩ rfl rfl (Nat.le_of_ble_eq_true rfl) sh113 le113 ⟨rfl, rfl⟩ (c_X9_ran ll cx (iI 80) m3) (fun u10 m11 => ?_)
      refine T_aload_n C.1 dX9_taking_45 0 rfl ?_
      refine T_iload_n C.1 dX9_taking_46 1 rfl ?_
      refine T_iload_n C.1 dX9_taking_47 2 rfl ?_
      refine T_callVI (rm := rm_X9_plainTakes) [.int x1, .int x2] [] C.1 dX9_taking_48 mw_X9_plainTakes wm_7_18 wm_7_20 wm_p_89 ⟨Nat.le_of_ble_eq_true rfl, Nat.le_of_ble_eq_true rfl⟩ ⟨rfl, rfl⟩ ⟨Nat.zero_le _, Nat.zero_le _⟩ rfl rfl (Nat.le_of_ble_eq_true rfl) sh113 le113 ⟨rfl, rfl⟩ (c_X9_plainTakes ll cx x1 x2 m11) (fun v12 m13 => ?_)
      refine T_istore_n (lv' := [(3, .int v12), (0, .ref (cx.2.2.1 + 113)), (1, .int x1), (2, .int x2)]) C.1 dX9_taking_51 (by decide) rfl ?_
      refine T_iload_n C.1 dX9_taking_52 0 rfl ?_
      refine T_aload_n C.1 dX9_taking_53 1 rfl ?_
      refine T_iload_n C.1 dX9_taking_54 2 rfl ?_
      refine T_iconst C.1 dX9_taking_55 ?_
      refine T_callVI (rm := rm_X9_looking) [.int x1, .int (iI 2)] [.int v12] C.1 dX9_taking_56 mw_X9_looking wm_7_22 wm_7_24 wm_p_90 ⟨Nat.le_of_ble_eq_true rfl, Nat.le_of_ble_eq_true rfl⟩ ⟨rfl, rfl⟩ ⟨Nat.zero_le _, Nat.zero_le _⟩ rfl rfl (Nat.le_of_ble_eq_true rfl) sh113 le113 ⟨rfl, rfl⟩ (c_X9_looking ll cx x1 (iI 2) m13) (fun v14 m15 => ?_)
      refine T_iadd C.1 dX9_taking_59 ?_
      exact T_iret C.1 C.2.1 C.2.2 dX9_taking_60
  · refine T_aload_n C.1 dX9_taking_13 0 rfl ?_
    refine T_bipush C.1 dX9_taking_14 rfl ?_
    refine T_callVV (rm := rm_X9_ran) [.int (iI 41)] [] C.1 dX9_taking_16 mw_X9_ran wm_6_238 wm_7_0 wm_p_84 ⟨Nat.le_of_ble_eq_true rfl, Nat.le_of_ble_eq_true rfl⟩ ⟨rfl, rfl⟩ ⟨Nat.zero_le _, Nat.zero_le _⟩ rfl rfl (Nat.le_of_ble_eq_true rfl) sh113 le113 ⟨rfl, rfl⟩ (c_X9_ran ll cx (iI 41) m3) (fun u16 m17 => ?_)
    refine T_aload_n C.1 dX9_taking_19 0 rfl ?_
    refine T_iload_n C.1 dX9_taking_20 1 rfl ?_
    refine T_iload_n C.1 dX9_taking_21 2 rfl ?_
    refine T_iconst C.1 dX9_taking_22 ?_
    refine T_iadd C.1 dX9_taking_23 ?_
    refine T_callVI (rm := rm_X9_openTakes) [.int x1, .int (x2 + (iI 1))] [] C.1 dX9_taking_24 mw_X9_openTakes wm_7_14 wm_7_16 wm_p_88 ⟨Nat.le_of_ble_eq_true rfl, Nat.le_of_ble_eq_true rfl⟩ ⟨rfl, rfl⟩ ⟨Nat.zero_le _, Nat.zero_le _⟩ rfl rfl (Nat.le_of_ble_eq_true rfl) sh113 le113 ⟨rfl, rfl⟩ (c_X9_openTakes ll cx x1 (x2 + (iI 1)) m17) (fun v18 m19 => ?_)
    exact T_iret C.1 C.2.1 C.2.2 dX9_taking_27
def rm_X9_plainKeeps : Room := { frames := 8, cells := 0, slots := 0, locals := 194 }
def F_X9_plainKeeps  (x1 : Int32) (x2 : Int32) (m : Mm) : Option (Int32 × Mm) :=
  bnd (F_X9_ran (iI 2) m) fun _ m2 =>
  bnd (F_X9_taking x1 x2 m2) fun v3 m4 =>
  bnd (F_X9_looking x1 (iI 1) m4) fun v5 m6 =>
  some ((v3 - v5), m6)
set_option maxRecDepth 100000 in
set_option maxHeartbeats 4000000 in
theorem c_X9_plainKeeps (ll : Launch) (cx : CX) (x1 : Int32) (x2 : Int32) (m : Mm) : MT ll yX9_plainKeeps cX9_plainKeeps 4 ((some .int)) rm_X9_plainKeeps cx NN NN Lay cvI 0 0 [.ref (cx.2.2.1 + 113), .int x1, .int x2] m (F_X9_plainKeeps x1 x2 m) := by
  refine MT_of (by decide) (Nat.le_of_ble_eq_true rfl) ?_
  intro pp ee ss mm aa bb me co hK hr hk hn
  have C : CM pp ss mm aa me co cX9_plainKeeps 4 RX9 cx ((some .int)) := ⟨hK, hr, hk⟩
  show TI pp ll ee rm_X9_plainKeeps ss mm aa bb me co 4 cx 0 [(0, .ref (cx.2.2.1 + 113)), (1, .int x1), (2, .int x2)] [] m (F_X9_plainKeeps x1 x2 m)
  unfold F_X9_plainKeeps
  refine T_aload_n C.1 dX9_plainKeeps_0 0 rfl ?_
  refine T_iconst C.1 dX9_plainKeeps_1 ?_
  refine T_callVV (rm := rm_X9_ran) [.int (iI 2)] [] C.1 dX9_plainKeeps_2 mw_X9_ran wm_6_238 wm_7_0 wm_p_84 ⟨Nat.le_of_ble_eq_true rfl, Nat.le_of_ble_eq_true rfl⟩ ⟨rfl, rfl⟩ ⟨Nat.zero_le _, Nat.zero_le _⟩ rfl rfl (Nat.le_of_ble_eq_true rfl) sh113 le113 ⟨rfl, rfl⟩ (c_X9_ran ll cx (iI 2) m) (fun u1 m2 => ?_)
  refine T_aload_n C.1 dX9_plainKeeps_5 0 rfl ?_
  refine T_iload_n C.1 dX9_plainKeeps_6 1 rfl ?_
  refine T_iload_n C.1 dX9_plainKeeps_7 2 rfl ?_
  refine T_callVI (rm := rm_X9_taking) [.int x1, .int x2] [] C.1 dX9_plainKeeps_8 mw_X9_taking wm_7_10 wm_7_12 wm_p_87 ⟨Nat.le_of_ble_eq_true rfl, Nat.le_of_ble_eq_true rfl⟩ ⟨rfl, rfl⟩ ⟨Nat.zero_le _, Nat.zero_le _⟩ rfl rfl (Nat.le_of_ble_eq_true rfl) sh113 le113 ⟨rfl, rfl⟩ (c_X9_taking ll cx x1 x2 m2) (fun v3 m4 => ?_)
  refine T_istore_n (lv' := [(3, .int v3), (0, .ref (cx.2.2.1 + 113)), (1, .int x1), (2, .int x2)]) C.1 dX9_plainKeeps_11 (by decide) rfl ?_
  refine T_iload_n C.1 dX9_plainKeeps_12 0 rfl ?_
  refine T_aload_n C.1 dX9_plainKeeps_13 1 rfl ?_
  refine T_iload_n C.1 dX9_plainKeeps_14 2 rfl ?_
  refine T_iconst C.1 dX9_plainKeeps_15 ?_
  refine T_callVI (rm := rm_X9_looking) [.int x1, .int (iI 1)] [.int v3] C.1 dX9_plainKeeps_16 mw_X9_looking wm_7_22 wm_7_24 wm_p_90 ⟨Nat.le_of_ble_eq_true rfl, Nat.le_of_ble_eq_true rfl⟩ ⟨rfl, rfl⟩ ⟨Nat.zero_le _, Nat.zero_le _⟩ rfl rfl (Nat.le_of_ble_eq_true rfl) sh113 le113 ⟨rfl, rfl⟩ (c_X9_looking ll cx x1 (iI 1) m4) (fun v5 m6 => ?_)
  refine T_isub C.1 dX9_plainKeeps_19 ?_
  exact T_iret C.1 C.2.1 C.2.2 dX9_plainKeeps_20
