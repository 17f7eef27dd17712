def rm_X9_line : Room := { frames := 904, cells := 0, slots := 0, locals := 19004 }
def F_X9_line_66  (a1 : Int32) (m : Mm) : Option (Unit × Mm) :=
  wrI 122 m 134 a1 (nS ((gI m 113 31).toInt16.toInt32)) fun m1 =>
  rd 2 (iI 1) fun j2 =>
  wrI 2 m1 132 (iI 1) ((gI m1 132 j2) + (iI 1)) fun m3 =>
  some ((), m3)
set_option maxRecDepth 100000 in
set_option maxHeartbeats 4000000 in
theorem t_X9_line_66 {pp : Program} {ll : Launch} {ee : Env} {ss : State} {mm : MethodId} {aa : Array Value} {bb : List Frame} {me : Method} {co : Code} {cx : CX}     (C : CM pp ss mm aa me co cX9_line 2 RX9 cx (none))    (a1 : Int32) (m : Mm) : TV pp ll ee rm_X9_line ss mm aa bb me co 2 cx 66 [(0, .ref (cx.2.2.1 + 113)), (1, .int a1)] [] m (F_X9_line_66  a1 m) := by
  unfold F_X9_line_66
  refine T_aload_n C.1 dX9_line_66 0 rfl ?_
  refine T_getR (x := 134) C.1 fd_X9_79 (fun _ _ _ _ => rfl) sh113 le113 (fun _ h => h) rfl (by decide) dX9_line_67 ?_
  refine T_iload_n C.1 dX9_line_70 1 rfl ?_
  refine T_aload_n C.1 dX9_line_71 0 rfl ?_
  refine T_getI C.1 fd_X9_226 (fun _ _ _ _ => rfl) sh113 le113 dX9_line_72 ?_
  refine T_i2s C.1 dX9_line_75 ?_
  refine T_sast C.1 LyI_Lay sh134 le134 dX9_line_76 (fun m1 => ?_)
  refine T_aload_n C.1 dX9_line_77 0 rfl ?_
  refine T_getR (x := 132) C.1 fd_X9_72 (fun _ _ _ _ => rfl) sh113 le113 (fun _ h => h) rfl (by decide) dX9_line_78 ?_
  refine T_iconst C.1 dX9_line_81 ?_
  refine T_dup2 C.1 dX9_line_82 rfl rfl ?_
  refine T_iald C.1 dX9_line_83 sh132 le132 (fun j2 => ?_)
  refine T_iconst C.1 dX9_line_84 ?_
  refine T_iadd C.1 dX9_line_85 ?_
  refine T_iast C.1 LyI_Lay sh132 le132 dX9_line_86 (fun m3 => ?_)
  exact T_vret C.1 C.2.1 C.2.2 dX9_line_87
def F_X9_line   (m : Mm) : Option (Unit × Mm) :=
  rd 2 (iI 1) fun j1 =>
  nm ((iI 61) + (gI m 132 j1)) fun v2 =>
  wrI 122 m 133 v2 (nS ((gI m 113 31).toInt16.toInt32)) fun m3 =>
  bnd (F_X9_either m3) fun _ m5 =>
  (if iI 0 ≤ (gI m5 113 29) then
    F_X9_line_66 v2 m5
  else
    bnd (F_X9_look m5) fun v6 m7 =>
    (if v6 = (iI 63) then
      nm (pI m7 113 28 ((gI m7 113 28) + (iI 1))) fun m8 =>
      wrI 122 m8 133 v2 (nS ((gI m8 113 31).toInt16.toInt32)) fun m9 =>
      bnd (F_X9_either m9) fun _ m11 =>
      F_X9_line_66 v2 m11
    else
      F_X9_line_66 v2 m7))
set_option maxRecDepth 100000 in
set_option maxHeartbeats 4000000 in
theorem c_X9_line (ll : Launch) (cx : CX)  (m : Mm) : MT ll yX9_line cX9_line 2 (none) rm_X9_line cx NN NN Lay cvV 0 0 [.ref (cx.2.2.1 + 113)] m (F_X9_line  m) := by
  refine MT_of (by decide) (Nat.le_of_ble_eq_true rfl) ?_
  intro pp ee ss mm aa bb me co hK hr hk hn
  have C : CM pp ss mm aa me co cX9_line 2 RX9 cx (none) := ⟨hK, hr, hk⟩
  show TV pp ll ee rm_X9_line ss mm aa bb me co 2 cx 0 [(0, .ref (cx.2.2.1 + 113))] [] m (F_X9_line  m)
  unfold F_X9_line
  refine T_bipush C.1 dX9_line_0 rfl ?_
  refine T_aload_n C.1 dX9_line_2 0 rfl ?_
  refine T_getR (x := 132) C.1 fd_X9_72 (fun _ _ _ _ => rfl) sh113 le113 (fun _ h => h) rfl (by decide) dX9_line_3 ?_
  refine T_iconst C.1 dX9_line_6 ?_
  refine T_iald C.1 dX9_line_7 sh132 le132 (fun j1 => ?_)
  refine T_iadd C.1 dX9_line_8 ?_
  refine T_istore_nN C.1 (fun v2 => [(1, .int v2), (0, .ref (cx.2.2.1 + 113))]) dX9_line_9 (by decide) (fun _ => rfl) (fun v2 => ?_)
  refine T_aload_n C.1 dX9_line_10 1 rfl ?_
  refine T_getR (x := 133) C.1 fd_X9_75 (fun _ _ _ _ => rfl) sh113 le113 (fun _ h => h) rfl (by decide) dX9_line_11 ?_
  refine T_iload_n C.1 dX9_line_14 0 rfl ?_
  refine T_aload_n C.1 dX9_line_15 1 rfl ?_
  refine T_getI C.1 fd_X9_226 (fun _ _ _ _ => rfl) sh113 le113 dX9_line_16 ?_
  refine T_i2s C.1 dX9_line_19 ?_
  refine T_sast C.1 LyI_Lay sh133 le133 dX9_line_20 (fun m3 => ?_)
  refine T_aload_n C.1 dX9_line_21 1 rfl ?_
  refine T_callVV (rm := (rmS_156 900)) [] [] C.1 dX9_line_22 mw_X9_either wm_5_233 wm_5_235 wm_p_46 ⟨Nat.le_of_ble_eq_true rfl, Nat.le_of_ble_eq_true rfl⟩ ⟨rfl, rfl⟩ ⟨Nat.zero_le _, Nat.zero_le _⟩ rfl rfl (Nat.le_of_ble_eq_true rfl) sh113 le113 ⟨rfl, rfl⟩ (c_X9_either ll cx m3) (fun u4 m5 => ?_)
  refine T_aload_n C.1 dX9_line_25 1 rfl ?_
  refine T_getI C.1 fd_X9_223 (fun _ _ _ _ => rfl) sh113 le113 dX9_line_26 ?_
  refine T_if_ge (tgt := 66) C.1 dX9_line_29 (by decide) ?_ ?_
  · exact T_sub [1, 0] rfl (t_X9_line_66 C v2 m5)
  · refine T_aload_n C.1 dX9_line_32 1 rfl ?_
    refine T_callVI (rm := rm_X9_look) [] [] C.1 dX9_line_33 mw_X9_look wm_6_17 wm_6_19 wm_p_52 ⟨Nat.le_of_ble_eq_true rfl, Nat.le_of_ble_eq_true rfl⟩ ⟨rfl, rfl⟩ ⟨Nat.zero_le _, Nat.zero_le _⟩ rfl rfl (Nat.le_of_ble_eq_true rfl) sh113 le113 ⟨rfl, rfl⟩ (c_X9_look ll cx m5) (fun v6 m7 => ?_)
    refine T_bipush C.1 dX9_line_36 rfl ?_
    refine T_icmp_ne (tgt := 66) C.1 dX9_line_38 (by decide) ?_ ?_
    · exact T_sub [1, 0] rfl (t_X9_line_66 C v2 m7)
    · refine T_aload_n C.1 dX9_line_41 1 rfl ?_
      refine T_dup C.1 dX9_line_42 rfl ?_
      refine T_getI C.1 fd_X9_220 (fun _ _ _ _ => rfl) sh113 le113 dX9_line_43 ?_
      refine T_iconst C.1 dX9_line_46 ?_
      refine T_iadd C.1 dX9_line_47 ?_
      refine T_putI C.1 LyI_Lay fd_X9_220 sh113 le113 dX9_line_48 (fun m8 => ?_)
      refine T_aload_n C.1 dX9_line_51 1 rfl ?_
      refine T_getR (x := 133) C.1 fd_X9_75 (fun _ _ _ _ => rfl) sh113 le113 (fun _ h => h) rfl (by decide) dX9_line_52 ?_
      refine T_iload_n C.1 dX9_line_55 0 rfl ?_
      refine T_aload_n C.1 dX9_line_56 1 rfl ?_
      refine T_getI C.1 fd_X9_226 (fun _ _ _ _ => rfl) sh113 le113 dX9_line_57 ?_
      refine T_i2s C.1 dX9_line_60 ?_
      refine T_sast C.1 LyI_Lay sh133 le133 dX9_line_61 (fun m9 => ?_)
      refine T_aload_n C.1 dX9_line_62 1 rfl ?_
      refine T_callVV (rm := (rmS_156 900)) [] [] C.1 dX9_line_63 mw_X9_either wm_5_233 wm_5_235 wm_p_46 ⟨Nat.le_of_ble_eq_true rfl, Nat.le_of_ble_eq_true rfl⟩ ⟨rfl, rfl⟩ ⟨Nat.zero_le _, Nat.zero_le _⟩ rfl rfl (Nat.le_of_ble_eq_true rfl) sh113 le113 ⟨rfl, rfl⟩ (c_X9_either ll cx m9) (fun u10 m11 => ?_)
      exact T_sub [1, 0] rfl (t_X9_line_66 C v2 m11)
def rm_X9_readText : Room := { frames := 905, cells := 0, slots := 0, locals := 19025 }
def F_X9_readText_177  : Nat → Int32 → Int32 → Mm → Option (Int32 × Mm)
  | 0, _, _, _ => none
  | f + 1, a1, a2, m =>
    rd 2 a1 fun j1 =>
    (if (gI m 132 j1) ≤ a2 then
      some ((iI (-1)), m)
    else
      rd 122 ((iI 61) + a2) fun j2 =>
      wrI 122 m 133 (((iI 61) * a1) + a2) (nS (gI m 133 j2)) fun m3 =>
      rd 122 ((iI 61) + a2) fun j4 =>
      wrI 122 m3 134 (((iI 61) * a1) + a2) (nS (gI m3 134 j4)) fun m5 =>
      nm (a2 + (iI 1)) fun v6 =>
      F_X9_readText_177  f a1 v6 m5)
set_option maxRecDepth 100000 in
set_option maxHeartbeats 4000000 in
theorem t_X9_readText_177 {pp : Program} {ll : Launch} {ee : Env} {ss : State} {mm : MethodId} {aa : Array Value} {bb : List Frame} {me : Method} {co : Code} {cx : CX}     (C : CM pp ss mm aa me co cX9_readText 3 RX9 cx ((some .int)))    : ∀ (f : Nat) (a1 : Int32) (a2 : Int32) (m : Mm), TI pp ll ee rm_X9_readText ss mm aa bb me co 3 cx 177 [(0, .ref (cx.2.2.1 + 113)), (1, .int a1), (2, .int a2)] [] m (F_X9_readText_177  f a1 a2 m) := by
  intro f
  induction f with
  | zero => exact fun _ _ _ => T_none
  | succ f ih =>
    intro a1 a2 m
    unfold F_X9_readText_177
    refine T_iload_n C.1 dX9_readText_177 2 rfl ?_
    refine T_aload_n C.1 dX9_readText_178 0 rfl ?_
    refine T_getR (x := 132) C.1 fd_X9_72 (fun _ _ _ _ => rfl) sh113 le113 (fun _ h => h) rfl (by decide) dX9_readText_179 ?_
    refine T_iload_n C.1 dX9_readText_182 1 rfl ?_
    refine T_iald C.1 dX9_readText_183 sh132 le132 (fun j1 => ?_)
    refine T_icmp_ge (tgt := 233) C.1 dX9_readText_184 (by decide) ?_ ?_
    · refine T_iconst C.1 dX9_readText_233 ?_
      exact T_iret C.1 C.2.1 C.2.2 dX9_readText_234
    · refine T_aload_n C.1 dX9_readText_187 0 rfl ?_
      refine T_getR (x := 133) C.1 fd_X9_75 (fun _ _ _ _ => rfl) sh113 le113 (fun _ h => h) rfl (by decide) dX9_readText_188 ?_
      refine T_bipush C.1 dX9_readText_191 rfl ?_
      refine T_iload_n C.1 dX9_readText_193 1 rfl ?_
      refine T_imul C.1 dX9_readText_194 ?_
      refine T_iload_n C.1 dX9_readText_195 2 rfl ?_
      refine T_iadd C.1 dX9_readText_196 ?_
      refine T_aload_n C.1 dX9_readText_197 0 rfl ?_
      refine T_getR (x := 133) C.1 fd_X9_75 (fun _ _ _ _ => rfl) sh113 le113 (fun _ h => h) rfl (by decide) dX9_readText_198 ?_
      refine T_bipush C.1 dX9_readText_201 rfl ?_
      refine T_iload_n C.1 dX9_readText_203 2 rfl ?_
      refine T_iadd C.1 dX9_readText_204 ?_
      refine T_sald C.1 dX9_readText_205 sh133 le133 (fun j2 => ?_)
      refine T_sast C.1 LyI_Lay sh133 le133 dX9_readText_206 (fun m3 => ?_)
      refine T_aload_n C.1 dX9_readText_207 0 rfl ?_
      refine T_getR (x := 134) C.1 fd_X9_79 (fun _ _ _ _ => rfl) sh113 le113 (fun _ h => h) rfl (by decide) dX9_readText_208 ?_
      refine T_bipush C.1 dX9_readText_211 rfl ?_
      refine T_iload_n C.1 dX9_readText_213 1 rfl ?_
      refine T_imul C.1 dX9_readText_214 ?_
      refine T_iload_n C.1 dX9_readText_215 2 rfl ?_
      refine T_iadd C.1 dX9_readText_216 ?_
      refine T_aload_n C.1 dX9_readText_217 0 rfl ?_
      refine T_getR (x := 134) C.1 fd_X9_79 (fun _ _ _ _ => rfl) sh113 le113 (fun _ h => h) rfl (by decide) dX9_readText_218 ?_
      refine T_bipush C.1 dX9_readText_221 rfl ?_
      refine T_iload_n C.1 dX9_readText_223 2 rfl ?_
      refine T_iadd C.1 dX9_readText_224 ?_
      refine T_sald C.1 dX9_readText_225 sh134 le134 (fun j4 => ?_)
      refine T_sast C.1 LyI_Lay sh134 le134 dX9_readText_226 (fun m5 => ?_)
      refine T_iincN C.1 (fun v6 => [(2, .int v6), (0, .ref (cx.2.2.1 + 113)), (1, .int a1)]) dX9_readText_227 2 rfl (by decide) (fun _ => rfl) (fun v6 => ?_)
      refine T_goto (tgt := 177) C.1 dX9_readText_230 (by decide) ?_
      exact T_sub [1, 2, 0] rfl (ih a1 v6 m5)
def F_X9_readText_105  : Nat → Int32 → Int32 → Mm → Option (Int32 × Mm)
  | 0, _, _, _ => none
  | f + 1, a1, a2, m =>
    (if (gI m 113 31) ≤ a2 then
      rd 2 (iI 1) fun j1 =>
      wrI 2 m 132 a1 (gI m 132 j1) fun m2 =>
      F_X9_readText_177 FU a1 (iI 0) m2
    else
      rd 260 ((iI 130) + a2) fun j3 =>
      wrI 260 m 130 (((iI 130) * a1) + a2) (nB (gI m 130 j3)) fun m4 =>
      rd 260 ((iI 130) + a2) fun j5 =>
      wrI 260 m4 131 (((iI 130) * a1) + a2) (gI m4 131 j5) fun m6 =>
      nm (a2 + (iI 1)) fun v7 =>
      F_X9_readText_105  f a1 v7 m6)
set_option maxRecDepth 100000 in
set_option maxHeartbeats 4000000 in
theorem t_X9_readText_105 {pp : Program} {ll : Launch} {ee : Env} {ss : State} {mm : MethodId} {aa : Array Value} {bb : List Frame} {me : Method} {co : Code} {cx : CX}     (C : CM pp ss mm aa me co cX9_readText 3 RX9 cx ((some .int)))    : ∀ (f : Nat) (a1 : Int32) (a2 : Int32) (m : Mm), TI pp ll ee rm_X9_readText ss mm aa bb me co 3 cx 105 [(0, .ref (cx.2.2.1 + 113)), (1, .int a1), (2, .int a2)] [] m (F_X9_readText_105  f a1 a2 m) := by
  intro f
  induction f with
  | zero => exact fun _ _ _ => T_none
  | succ f ih =>
    intro a1 a2 m
    unfold F_X9_readText_105
    refine T_iload_n C.1 dX9_readText_105 2 rfl ?_
    refine T_aload_n C.1 dX9_readText_106 0 rfl ?_
    refine T_getI C.1 fd_X9_226 (fun _ _ _ _ => rfl) sh113 le113 dX9_readText_107 ?_
    refine T_icmp_ge (tgt := 163) C.1 dX9_readText_110 (by decide) ?_ ?_
    · refine T_aload_n C.1 dX9_readText_163 0 rfl ?_
      refine T_getR (x := 132) C.1 fd_X9_72 (fun _ _ _ _ => rfl) sh113 le113 (fun _ h => h) rfl (by decide) dX9_readText_164 ?_
      refine T_iload_n C.1 dX9_readText_167 1 rfl ?_
      refine T_aload_n C.1 dX9_readText_168 0 rfl ?_
      refine T_getR (x := 132) C.1 fd_X9_72 (fun _ _ _ _ => rfl) sh113 le113 (fun _ h => h) rfl (by decide) dX9_readText_169 ?_
      refine T_iconst C.1 dX9_readText_172 ?_
      refine T_iald C.1 dX9_readText_173 sh132 le132 (fun j1 => ?_)
      refine T_iast C.1 LyI_Lay sh132 le132 dX9_readText_174 (fun m2 => ?_)
      refine T_iconst C.1 dX9_readText_175 ?_
      refine T_istore_n (lv' := [(2, .int (iI 0)), (0, .ref (cx.2.2.1 + 113)), (1, .int a1)]) C.1 dX9_readText_176 (by decide) rfl ?_
      exact T_sub [1, 2, 0] rfl (t_X9_readText_177 C FU a1 (iI 0) m2)
    · refine T_aload_n C.1 dX9_readText_113 0 rfl ?_
      refine T_getR (x := 130) C.1 fd_X9_66 (fun _ _ _ _ => rfl) sh113 le113 (fun _ h => h) rfl (by decide) dX9_readText_114 ?_
      refine T_sipush C.1 dX9_readText_117 rfl ?_
      refine T_iload_n C.1 dX9_readText_120 1 rfl ?_
      refine T_imul C.1 dX9_readText_121 ?_
      refine T_iload_n C.1 dX9_readText_122 2 rfl ?_
      refine T_iadd C.1 dX9_readText_123 ?_
      refine T_aload_n C.1 dX9_readText_124 0 rfl ?_
      refine T_getR (x := 130) C.1 fd_X9_66 (fun _ _ _ _ => rfl) sh113 le113 (fun _ h => h) rfl (by decide) dX9_readText_125 ?_
      refine T_sipush C.1 dX9_readText_128 rfl ?_
      refine T_iload_n C.1 dX9_readText_131 2 rfl ?_
      refine T_iadd C.1 dX9_readText_132 ?_
      refine T_bald C.1 dX9_readText_133 sh130 le130 (fun j3 => ?_)
      refine T_bast C.1 LyI_Lay sh130 le130 dX9_readText_134 (fun m4 => ?_)
      refine T_aload_n C.1 dX9_readText_135 0 rfl ?_
      refine T_getR (x := 131) C.1 fd_X9_69 (fun _ _ _ _ => rfl) sh113 le113 (fun _ h => h) rfl (by decide) dX9_readText_136 ?_
      refine T_sipush C.1 dX9_readText_139 rfl ?_
      refine T_iload_n C.1 dX9_readText_142 1 rfl ?_
      refine T_imul C.1 dX9_readText_143 ?_
      refine T_iload_n C.1 dX9_readText_144 2 rfl ?_
      refine T_iadd C.1 dX9_readText_145 ?_
      refine T_aload_n C.1 dX9_readText_146 0 rfl ?_
      refine T_getR (x := 131) C.1 fd_X9_69 (fun _ _ _ _ => rfl) sh113 le113 (fun _ h => h) rfl (by decide) dX9_readText_147 ?_
      refine T_sipush C.1 dX9_readText_150 rfl ?_
      refine T_iload_n C.1 dX9_readText_153 2 rfl ?_
      refine T_iadd C.1 dX9_readText_154 ?_
      refine T_iald C.1 dX9_readText_155 sh131 le131 (fun j5 => ?_)
      refine T_iast C.1 LyI_Lay sh131 le131 dX9_readText_156 (fun m6 => ?_)
      refine T_iincN C.1 (fun v7 => [(2, .int v7), (0, .ref (cx.2.2.1 + 113)), (1, .int a1)]) dX9_readText_157 2 rfl (by decide) (fun _ => rfl) (fun v7 => ?_)
      refine T_goto (tgt := 105) C.1 dX9_readText_160 (by decide) ?_
      exact T_sub [1, 2, 0] rfl (ih a1 v7 m6)
def F_X9_readText_86  (a1 : Int32) (m : Mm) : Option (Int32 × Mm) :=
  nm (pI m 113 27 (iI 0)) fun m1 =>
  (if (gI m1 113 29) < iI 0 then
    F_X9_readText_105 FU a1 (iI 0) m1
  else
    some ((gI m1 113 29), m1))
set_option maxRecDepth 100000 in
set_option maxHeartbeats 4000000 in
theorem t_X9_readText_86 {pp : Program} {ll : Launch} {ee : Env} {ss : State} {mm : MethodId} {aa : Array Value} {bb : List Frame} {me : Method} {co : Code} {cx : CX}     (C : CM pp ss mm aa me co cX9_readText 3 RX9 cx ((some .int)))    (a1 : Int32) (m : Mm) : TI pp ll ee rm_X9_readText ss mm aa bb me co 3 cx 86 [(0, .ref (cx.2.2.1 + 113)), (1, .int a1)] [] m (F_X9_readText_86  a1 m) := by
  unfold F_X9_readText_86
  refine T_aload_n C.1 dX9_readText_86 0 rfl ?_
  refine T_iconst C.1 dX9_readText_87 ?_
  refine T_putI C.1 LyI_Lay fd_X9_217 sh113 le113 dX9_readText_88 (fun m1 => ?_)
  refine T_aload_n C.1 dX9_readText_91 0 rfl ?_
  refine T_getI C.1 fd_X9_223 (fun _ _ _ _ => rfl) sh113 le113 dX9_readText_92 ?_
  refine T_if_lt (tgt := 103) C.1 dX9_readText_95 (by decide) ?_ ?_
  · refine T_iconst C.1 dX9_readText_103 ?_
    refine T_istore_n (lv' := [(2, .int (iI 0)), (0, .ref (cx.2.2.1 + 113)), (1, .int a1)]) C.1 dX9_readText_104 (by decide) rfl ?_
    exact T_sub [1, 2, 0] rfl (t_X9_readText_105 C FU a1 (iI 0) m1)
  · refine T_aload_n C.1 dX9_readText_98 0 rfl ?_
    refine T_getI C.1 fd_X9_223 (fun _ _ _ _ => rfl) sh113 le113 dX9_readText_99 ?_
    exact T_iret C.1 C.2.1 C.2.2 dX9_readText_102
def F_X9_readText_64  (a1 : Int32) (m : Mm) : Option (Int32 × Mm) :=
  (if iI 0 ≤ (gI m 113 29) then
    F_X9_readText_86 a1 m
  else
    (if (gI m 113 27) ≤ (gI m 113 28) then
      F_X9_readText_86 a1 m
    else
      bnd (F_X9_faulty m) fun _ m2 =>
      F_X9_readText_86 a1 m2))
set_option maxRecDepth 100000 in
set_option maxHeartbeats 4000000 in
theorem t_X9_readText_64 {pp : Program} {ll : Launch} {ee : Env} {ss : State} {mm : MethodId} {aa : Array Value} {bb : List Frame} {me : Method} {co : Code} {cx : CX}     (C : CM pp ss mm aa me co cX9_readText 3 RX9 cx ((some .int)))    (a1 : Int32) (m : Mm) : TI pp ll ee rm_X9_readText ss mm aa bb me co 3 cx 64 [(0, .ref (cx.2.2.1 + 113)), (1, .int a1)] [] m (F_X9_readText_64  a1 m) := by
  unfold F_X9_readText_64
  refine T_aload_n C.1 dX9_readText_64 0 rfl ?_
  refine T_getI C.1 fd_X9_223 (fun _ _ _ _ => rfl) sh113 le113 dX9_readText_65 ?_
  refine T_if_ge (tgt := 86) C.1 dX9_readText_68 (by decide) ?_ ?_
  · exact T_sub [0, 1] rfl (t_X9_readText_86 C a1 m)
  · refine T_aload_n C.1 dX9_readText_71 0 rfl ?_
    refine T_getI C.1 fd_X9_220 (fun _ _ _ _ => rfl) sh113 le113 dX9_readText_72 ?_
    refine T_aload_n C.1 dX9_readText_75 0 rfl ?_
    refine T_getI C.1 fd_X9_217 (fun _ _ _ _ => rfl) sh113 le113 dX9_readText_76 ?_
    refine T_icmp_ge (tgt := 86) C.1 dX9_readText_79 (by decide) ?_ ?_
    · exact T_sub [0, 1] rfl (t_X9_readText_86 C a1 m)
    · refine T_aload_n C.1 dX9_readText_82 0 rfl ?_
      refine T_callVV (rm := rm_X9_faulty) [] [] C.1 dX9_readText_83 mw_X9_faulty wm_6_32 wm_6_34 wm_p_55 ⟨Nat.le_of_ble_eq_true rfl, Nat.le_of_ble_eq_true rfl⟩ ⟨rfl, rfl⟩ ⟨Nat.zero_le _, Nat.zero_le _⟩ rfl rfl (Nat.le_of_ble_eq_true rfl) sh113 le113 ⟨rfl, rfl⟩ (c_X9_faulty ll cx m) (fun u1 m2 => ?_)
      exact T_sub [0, 1] rfl (t_X9_readText_86 C a1 m2)
def F_X9_readText_31  : Nat → Int32 → Mm → Option (Int32 × Mm)
  | 0, _, _ => none
  | f + 1, a1, m =>
    (if iI 0 ≤ (gI m 113 29) then
      F_X9_readText_64 a1 m
    else
      bnd (F_X9_look m) fun v1 m2 =>
      (if v1 = (iI 59) then
        nm (pI m2 113 28 ((gI m2 113 28) + (iI 1))) fun m3 =>
        bnd (F_X9_line m3) fun _ m5 =>
        F_X9_readText_31  f a1 m5
      else
        F_X9_readText_64 a1 m2))
set_option maxRecDepth 100000 in
set_option maxHeartbeats 4000000 in
theorem t_X9_readText_31 {pp : Program} {ll : Launch} {ee : Env} {ss : State} {mm : MethodId} {aa : Array Value} {bb : List Frame} {me : Method} {co : Code} {cx : CX}     (C : CM pp ss mm aa me co cX9_readText 3 RX9 cx ((some .int)))    : ∀ (f : Nat) (a1 : Int32) (m : Mm), TI pp ll ee rm_X9_readText ss mm aa bb me co 3 cx 31 [(0, .ref (cx.2.2.1 + 113)), (1, .int a1)] [] m (F_X9_readText_31  f a1 m) := by
  intro f
  induction f with
  | zero => exact fun _ _ => T_none
  | succ f ih =>
    intro a1 m
    unfold F_X9_readText_31
    refine T_aload_n C.1 dX9_readText_31 0 rfl ?_
    refine T_getI C.1 fd_X9_223 (fun _ _ _ _ => rfl) sh113 le113 dX9_readText_32 ?_
    refine T_if_ge (tgt := 64) C.1 dX9_readText_35 (by decide) ?_ ?_
    · exact T_sub [0, 1] rfl (t_X9_readText_64 C a1 m)
    · refine T_aload_n C.1 dX9_readText_38 0 rfl ?_
      refine T_callVI (rm := rm_X9_look) [] [] C.1 dX9_readText_39 mw_X9_look wm_6_17 wm_6_19 wm_p_52 ⟨Nat.le_of_ble_eq_true rfl, Nat.le_of_ble_eq_true rfl⟩ ⟨rfl, rfl⟩ ⟨Nat.zero_le _, Nat.zero_le _⟩ rfl rfl (Nat.le_of_ble_eq_true rfl) sh113 le113 ⟨rfl, rfl⟩ (c_X9_look ll cx m) (fun v1 m2 => ?_)
      refine T_bipush C.1 dX9_readText_42 rfl ?_
      refine T_icmp_ne (tgt := 64) C.1 dX9_readText_44 (by decide) ?_ ?_
      · exact T_sub [0, 1] rfl (t_X9_readText_64 C a1 m2)
      · refine T_aload_n C.1 dX9_readText_47 0 rfl ?_
        refine T_dup C.1 dX9_readText_48 rfl ?_
        refine T_getI C.1 fd_X9_220 (fun _ _ _ _ => rfl) sh113 le113 dX9_readText_49 ?_
        refine T_iconst C.1 dX9_readText_52 ?_
        refine T_iadd C.1 dX9_readText_53 ?_
        refine T_putI C.1 LyI_Lay fd_X9_220 sh113 le113 dX9_readText_54 (fun m3 => ?_)
        refine T_aload_n C.1 dX9_readText_57 0 rfl ?_
        refine T_callVV (rm := rm_X9_line) [] [] C.1 dX9_readText_58 mw_X9_line wm_5_229 wm_5_231 wm_p_45 ⟨Nat.le_of_ble_eq_true rfl, Nat.le_of_ble_eq_true rfl⟩ ⟨rfl, rfl⟩ ⟨Nat.zero_le _, Nat.zero_le _⟩ rfl rfl (Nat.le_of_ble_eq_true rfl) sh113 le113 ⟨rfl, rfl⟩ (c_X9_line ll cx m3) (fun u4 m5 => ?_)
        refine T_goto (tgt := 31) C.1 dX9_readText_61 (by decide) ?_
        exact T_sub [0, 1] rfl (ih a1 m5)
def F_X9_readText  (x1 : Int32) (m : Mm) : Option (Int32 × Mm) :=
  nm (pI m 113 28 (iI 0)) fun m1 =>
  nm (pI m1 113 29 (iI (-1))) fun m2 =>
  nm (pI m2 113 30 (iI 0)) fun m3 =>
  nm (pI m3 113 31 (iI 0)) fun m4 =>
  wrI 2 m4 132 (iI 1) (iI 0) fun m5 =>
  bnd (F_X9_line m5) fun _ m7 =>
  F_X9_readText_31 FU x1 m7
set_option maxRecDepth 100000 in
set_option maxHeartbeats 4000000 in
theorem c_X9_readText (ll : Launch) (cx : CX) (x1 : Int32) (m : Mm) : MT ll yX9_readText cX9_readText 3 ((some .int)) rm_X9_readText cx NN NN Lay cvI 0 0 [.ref (cx.2.2.1 + 113), .int x1] m (F_X9_readText x1 m) := by
  refine MT_of (by decide) (Nat.le_of_ble_eq_true rfl) ?_
  intro pp ee ss mm aa bb me co hK hr hk hn
  have C : CM pp ss mm aa me co cX9_readText 3 RX9 cx ((some .int)) := ⟨hK, hr, hk⟩
  show TI pp ll ee rm_X9_readText ss mm aa bb me co 3 cx 0 [(0, .ref (cx.2.2.1 + 113)), (1, .int x1)] [] m (F_X9_readText x1 m)
  unfold F_X9_readText
  refine T_aload_n C.1 dX9_readText_0 0 rfl ?_
  refine T_iconst C.1 dX9_readText_1 ?_
  refine T_putI C.1 LyI_Lay fd_X9_220 sh113 le113 dX9_readText_2 (fun m1 => ?_)
  refine T_aload_n C.1 dX9_readText_5 0 rfl ?_
  refine T_iconst C.1 dX9_readText_6 ?_
  refine T_putI C.1 LyI_Lay fd_X9_223 sh113 le113 dX9_readText_7 (fun m2 => ?_)
  refine T_aload_n C.1 dX9_readText_10 0 rfl ?_
  refine T_iconst C.1 dX9_readText_11 ?_
  refine T_putI C.1 LyI_Lay fd_X9_229 sh113 le113 dX9_readText_12 (fun m3 => ?_)
  refine T_aload_n C.1 dX9_readText_15 0 rfl ?_
  refine T_iconst C.1 dX9_readText_16 ?_
  refine T_putI C.1 LyI_Lay fd_X9_226 sh113 le113 dX9_readText_17 (fun m4 => ?_)
  refine T_aload_n C.1 dX9_readText_20 0 rfl ?_
  refine T_getR (x := 132) C.1 fd_X9_72 (fun _ _ _ _ => rfl) sh113 le113 (fun _ h => h) rfl (by decide) dX9_readText_21 ?_
  refine T_iconst C.1 dX9_readText_24 ?_
  refine T_iconst C.1 dX9_readText_25 ?_
  refine T_iast C.1 LyI_Lay sh132 le132 dX9_readText_26 (fun m5 => ?_)
  refine T_aload_n C.1 dX9_readText_27 0 rfl ?_
  refine T_callVV (rm := rm_X9_line) [] [] C.1 dX9_readText_28 mw_X9_line wm_5_229 wm_5_231 wm_p_45 ⟨Nat.le_of_ble_eq_true rfl, Nat.le_of_ble_eq_true rfl⟩ ⟨rfl, rfl⟩ ⟨Nat.zero_le _, Nat.zero_le _⟩ rfl rfl (Nat.le_of_ble_eq_true rfl) sh113 le113 ⟨rfl, rfl⟩ (c_X9_line ll cx m5) (fun u6 m7 => ?_)
  exact T_sub [0, 1] rfl (t_X9_readText_31 C FU x1 m7)
def rm_X9_twoOf : Room := { frames := 1, cells := 0, slots := 0, locals := 40 }
def F_X9_twoOf_163   (m : Mm) : Option (Int32 × Mm) :=
  some ((iI 0), m)
set_option maxRecDepth 100000 in
set_option maxHeartbeats 4000000 in
theorem t_X9_twoOf_163 {pp : Program} {ll : Launch} {ee : Env} {ss : State} {mm : MethodId} {aa : Array Value} {bb : List Frame} {me : Method} {co : Code} {cx : CX}     (C : CM pp ss mm aa me co cX9_twoOf 3 RX9 cx ((some .int)))     (m : Mm) : TI pp ll ee rm_X9_twoOf ss mm aa bb me co 3 cx 163 [] [] m (F_X9_twoOf_163  m) := by
  unfold F_X9_twoOf_163
  refine T_iconst C.1 dX9_twoOf_163 ?_
  refine T_goto (tgt := 170) C.1 dX9_twoOf_164 (by decide) ?_
  exact T_iret C.1 C.2.1 C.2.2 dX9_twoOf_170
def F_X9_twoOf_226   (m : Mm) : Option (Int32 × Mm) :=
  some ((iI 1), m)
set_option maxRecDepth 100000 in
set_option maxHeartbeats 4000000 in
theorem t_X9_twoOf_226 {pp : Program} {ll : Launch} {ee : Env} {ss : State} {mm : MethodId} {aa : Array Value} {bb : List Frame} {me : Method} {co : Code} {cx : CX}     (C : CM pp ss mm aa me co cX9_twoOf 3 RX9 cx ((some .int)))     (m : Mm) : TI pp ll ee rm_X9_twoOf ss mm aa bb me co 3 cx 226 [] [] m (F_X9_twoOf_226  m) := by
  unfold F_X9_twoOf_226
  refine T_iconst C.1 dX9_twoOf_226 ?_
  refine T_goto (tgt := 231) C.1 dX9_twoOf_227 (by decide) ?_
  exact T_iret C.1 C.2.1 C.2.2 dX9_twoOf_231
def F_X9_twoOf_218  (a1 : Int32) (a2 : Int32) (m : Mm) : Option (Int32 × Mm) :=
  (if a1 = iI 0 then
    (if a2 = iI 0 then
      some ((iI 0), m)
    else
      F_X9_twoOf_226 m)
  else
    F_X9_twoOf_226 m)
set_option maxRecDepth 100000 in
set_option maxHeartbeats 4000000 in
theorem t_X9_twoOf_218 {pp : Program} {ll : Launch} {ee : Env} {ss : State} {mm : MethodId} {aa : Array Value} {bb : List Frame} {me : Method} {co : Code} {cx : CX}     (C : CM pp ss mm aa me co cX9_twoOf 3 RX9 cx ((some .int)))    (a1 : Int32) (a2 : Int32) (m : Mm) : TI pp ll ee rm_X9_twoOf ss mm aa bb me co 3 cx 218 [(1, .int a1), (2, .int a2)] [] m (F_X9_twoOf_218  a1 a2 m) := by
  unfold F_X9_twoOf_218
  refine T_iload_n C.1 dX9_twoOf_218 0 rfl ?_
  refine T_if_ne (tgt := 226) C.1 dX9_twoOf_219 (by decide) ?_ ?_
  · exact T_sub [] rfl (t_X9_twoOf_226 C m)
  · refine T_iload_n C.1 dX9_twoOf_222 1 rfl ?_
    refine T_if_eq (tgt := 230) C.1 dX9_twoOf_223 (by decide) ?_ ?_
    · refine T_iconst C.1 dX9_twoOf_230 ?_
      exact T_iret C.1 C.2.1 C.2.2 dX9_twoOf_231
    · exact T_sub [] rfl (t_X9_twoOf_226 C m)
def F_X9_twoOf  (x1 : Int32) (x2 : Int32) (x3 : Int32) (m : Mm) : Option (Int32 × Mm) :=
  tsw x1 (37) [((if x3 = iI 0 then
    F_X9_twoOf_163 m
  else
    (if x3 = (iI (-1)) then
      F_X9_twoOf_163 m
    else
      rmI x2 x3 fun v1 =>
      some (v1, m)))),
   ((if x2 = iI 0 then
    some ((iI 0), m)
  else
    (if x3 = iI 0 then
      some ((iI 0), m)
    else
      some ((iI 1), m)))),
   (F_X9_twoOf_218 x2 x3 m),
   (F_X9_twoOf_218 x2 x3 m),
   (F_X9_twoOf_218 x2 x3 m),
   (some ((x2 * x3), m)),
   (some ((x2 + x3), m)),
   (F_X9_twoOf_218 x2 x3 m),
   (some ((x2 - x3), m)),
   (F_X9_twoOf_218 x2 x3 m),
   ((if x3 = iI 0 then
    some ((iI 0), m)
  else
    (if x3 = (iI (-1)) then
      some ((-x2), m)
    else
      dvI x2 x3 fun v2 =>
      some (v2, m)))),
   (F_X9_twoOf_218 x2 x3 m),
   (F_X9_twoOf_218 x2 x3 m),
   (F_X9_twoOf_218 x2 x3 m),
   (F_X9_twoOf_218 x2 x3 m),
   (F_X9_twoOf_218 x2 x3 m),
   (F_X9_twoOf_218 x2 x3 m),
   (F_X9_twoOf_218 x2 x3 m),
   (F_X9_twoOf_218 x2 x3 m),
   (F_X9_twoOf_218 x2 x3 m),
   (F_X9_twoOf_218 x2 x3 m),
   (F_X9_twoOf_218 x2 x3 m),
   (F_X9_twoOf_218 x2 x3 m),
   ((if x3 ≤ x2 then
    some ((iI 0), m)
  else
    some ((iI 1), m))),
   ((if x2 = x3 then
    some ((iI 1), m)
  else
    some ((iI 0), m))),
   ((if x2 ≤ x3 then
    some ((iI 0), m)
  else
    some ((iI 1), m)))] (F_X9_twoOf_218 x2 x3 m)
set_option maxRecDepth 100000 in
set_option maxHeartbeats 4000000 in
theorem c_X9_twoOf (ll : Launch) (cx : CX) (x1 : Int32) (x2 : Int32) (x3 : Int32) (m : Mm) : MT ll yX9_twoOf cX9_twoOf 3 ((some .int)) rm_X9_twoOf cx NN NN Lay cvI 0 0 [.int x1, .int x2, .int x3] m (F_X9_twoOf x1 x2 x3 m) := by
  refine MT_of (by decide) (Nat.le_of_ble_eq_true rfl) ?_
  intro pp ee ss mm aa bb me co hK hr hk hn
  have C : CM pp ss mm aa me co cX9_twoOf 3 RX9 cx ((some .int)) := ⟨hK, hr, hk⟩
  show TI pp ll ee rm_X9_twoOf ss mm aa bb me co 3 cx 0 [(0, .int x1), (1, .int x2), (2, .int x3)] [] m (F_X9_twoOf x1 x2 x3 m)
  unfold F_X9_twoOf
  refine T_iload_n C.1 dX9_twoOf_0 0 rfl ?_
  refine T_tsw (lo := (37)) (os := [153, 203, 217, 217, 217, 127, 119, 217, 123, 217, 131, 217, 217, 217, 217, 217, 217, 217, 217, 217, 217, 217, 217, 170, 181, 192]) C.1 dX9_twoOf_1 rfl (by decide) (tgd := 218) (by decide) ⟨⟨154, by decide, ?_⟩, ⟨204, by decide, ?_⟩, ⟨218, by decide, ?_⟩, ⟨218, by decide, ?_⟩, ⟨218, by decide, ?_⟩, ⟨128, by decide, ?_⟩, ⟨120, by decide, ?_⟩, ⟨218, by decide, ?_⟩, ⟨124, by decide, ?_⟩, ⟨218, by decide, ?_⟩, ⟨132, by decide, ?_⟩, ⟨218, by decide, ?_⟩, ⟨218, by decide, ?_⟩, ⟨218, by decide, ?_⟩, ⟨218, by decide, ?_⟩, ⟨218, by decide, ?_⟩, ⟨218, by decide, ?_⟩, ⟨218, by decide, ?_⟩, ⟨218, by decide, ?_⟩, ⟨218, by decide, ?_⟩, ⟨218, by decide, ?_⟩, ⟨218, by decide, ?_⟩, ⟨218, by decide, ?_⟩, ⟨171, by decide, ?_⟩, ⟨182, by decide, ?_⟩, ⟨193, by decide, ?_⟩, trivial⟩ ?_
  · show TI pp ll ee rm_X9_twoOf ss mm aa bb me co 3 cx _ _ _ _ _
    refine T_iload_n C.1 dX9_twoOf_154 2 rfl ?_
    refine T_if_eq (tgt := 163) C.1 dX9_twoOf_155 (by decide) ?_ ?_
    · exact T_sub [] rfl (t_X9_twoOf_163 C m)
    · refine T_iload_n C.1 dX9_twoOf_158 2 rfl ?_
      refine T_iconst C.1 dX9_twoOf_159 ?_
      refine T_icmp_ne (tgt := 167) C.1 dX9_twoOf_160 (by decide) ?_ ?_
      · refine T_iload_n C.1 dX9_twoOf_167 1 rfl ?_
        refine T_iload_n C.1 dX9_twoOf_168 2 rfl ?_
        refine T_irem C.1 dX9_twoOf_169 (fun v1 => ?_)
        exact T_iret C.1 C.2.1 C.2.2 dX9_twoOf_170
      · exact T_sub [] rfl (t_X9_twoOf_163 C m)
  · show TI pp ll ee rm_X9_twoOf ss mm aa bb me co 3 cx _ _ _ _ _
    refine T_iload_n C.1 dX9_twoOf_204 1 rfl ?_
    refine T_if_eq (tgt := 216) C.1 dX9_twoOf_205 (by decide) ?_ ?_
    · refine T_iconst C.1 dX9_twoOf_216 ?_
      exact T_iret C.1 C.2.1 C.2.2 dX9_twoOf_217
    · refine T_iload_n C.1 dX9_twoOf_208 2 rfl ?_
      refine T_if_eq (tgt := 216) C.1 dX9_twoOf_209 (by decide) ?_ ?_
      · refine T_iconst C.1 dX9_twoOf_216 ?_
        exact T_iret C.1 C.2.1 C.2.2 dX9_twoOf_217
      · refine T_iconst C.1 dX9_twoOf_212 ?_
        refine T_goto (tgt := 217) C.1 dX9_twoOf_213 (by decide) ?_
        exact T_iret C.1 C.2.1 C.2.2 dX9_twoOf_217
  · show TI pp ll ee rm_X9_twoOf ss mm aa bb me co 3 cx _ _ _ _ _
    exact T_sub [1, 2] rfl (t_X9_twoOf_218 C x2 x3 m)
  · show TI pp ll ee rm_X9_twoOf ss mm aa bb me co 3 cx _ _ _ _ _
    exact T_sub [1, 2] rfl (t_X9_twoOf_218 C x2 x3 m)
  · show TI pp ll ee rm_X9_twoOf ss mm aa bb me co 3 cx _ _ _ _ _
    exact T_sub [1, 2] rfl (t_X9_twoOf_218 C x2 x3 m)
  · show TI pp ll ee rm_X9_twoOf ss mm aa bb me co 3 cx _ _ _ _ _
    refine T_iload_n C.1 dX9_twoOf_128 1 rfl ?_
    refine T_iload_n C.1 dX9_twoOf_129 2 rfl ?_
    refine T_imul C.1 dX9_twoOf_130 ?_
    exact T_iret C.1 C.2.1 C.2.2 dX9_twoOf_131
  · show TI pp ll ee rm_X9_twoOf ss mm aa bb me co 3 cx _ _ _ _ _
    refine T_iload_n C.1 dX9_twoOf_120 1 rfl ?_
    refine T_iload_n C.1 dX9_twoOf_121 2 rfl ?_
    refine T_iadd C.1 dX9_twoOf_122 ?_
    exact T_iret C.1 C.2.1 C.2.2 dX9_twoOf_123
  · show TI pp ll ee rm_X9_twoOf ss mm aa bb me co 3 cx _ _ _ _ _
    exact T_sub [1, 2] rfl (t_X9_twoOf_218 C x2 x3 m)
  · show TI pp ll ee rm_X9_twoOf ss mm aa bb me co 3 cx _ _ _ _ _
    refine T_iload_n C.1 dX9_twoOf_124 1 rfl ?_
    refine T_iload_n C.1 dX9_twoOf_125 2 rfl ?_
    refine T_isub C.1 dX9_twoOf_126 ?_
    exact T_iret C.1 C.2.1 C.2.2 dX9_twoOf_127
  · show TI pp ll ee rm_X9_twoOf ss mm aa bb me co 3 cx _ _ _ _ _
    exact T_sub [1, 2] rfl (t_X9_twoOf_218 C x2 x3 m)
  · show TI pp ll ee rm_X9_twoOf ss mm aa bb me co 3 cx _ _ _ _ _
    refine T_iload_n C.1 dX9_twoOf_132 2 rfl ?_
    refine T_if_ne (tgt := 140) C.1 dX9_twoOf_133 (by decide) ?_ ?_
    · refine T_iload_n C.1 dX9_twoOf_140 2 rfl ?_
      refine T_iconst C.1 dX9_twoOf_141 ?_
      refine T_icmp_ne (tgt := 150) C.1 dX9_twoOf_142 (by decide) ?_ ?_
      · refine T_iload_n C.1 dX9_twoOf_150 1 rfl ?_
        refine T_iload_n C.1 dX9_twoOf_151 2 rfl ?_
        refine T_idiv C.1 dX9_twoOf_152 (fun v2 => ?_)
        exact T_iret C.1 C.2.1 C.2.2 dX9_twoOf_153
      · refine T_iload_n C.1 dX9_twoOf_145 1 rfl ?_
        refine T_ineg C.1 dX9_twoOf_146 ?_
        refine T_goto (tgt := 153) C.1 dX9_twoOf_147 (by decide) ?_
        exact T_iret C.1 C.2.1 C.2.2 dX9_twoOf_153
    · refine T_iconst C.1 dX9_twoOf_136 ?_
      refine T_goto (tgt := 153) C.1 dX9_twoOf_137 (by decide) ?_
      exact T_iret C.1 C.2.1 C.2.2 dX9_twoOf_153
  · show TI pp ll ee rm_X9_twoOf ss mm aa bb me co 3 cx _ _ _ _ _
    exact T_sub [1, 2] rfl (t_X9_twoOf_218 C x2 x3 m)
  · show TI pp ll ee rm_X9_twoOf ss mm aa bb me co 3 cx _ _ _ _ _
    exact T_sub [1, 2] rfl (t_X9_twoOf_218 C x2 x3 m)
  · show TI pp ll ee rm_X9_twoOf ss mm aa bb me co 3 cx _ _ _ _ _
    exact T_sub [1, 2] rfl (t_X9_twoOf_218 C x2 x3 m)
  · show TI pp ll ee rm_X9_twoOf ss mm aa bb me co 3 cx _ _ _ _ _
    exact T_sub [1, 2] rfl (t_X9_twoOf_218 C x2 x3 m)
  · show TI pp ll ee rm_X9_twoOf ss mm aa bb me co 3 cx _ _ _ _ _
    exact T_sub [1, 2] rfl (t_X9_twoOf_218 C x2 x3 m)
  · show TI pp ll ee rm_X9_twoOf ss mm aa bb me co 3 cx _ _ _ _ _
    exact T_sub [1, 2] rfl (t_X9_twoOf_218 C x2 x3 m)
  · show TI pp ll ee rm_X9_twoOf ss mm aa bb me co 3 cx _ _ _ _ _
    exact T_sub [1, 2] rfl (t_X9_twoOf_218 C x2 x3 m)
  · show TI pp ll ee rm_X9_twoOf ss mm aa bb me co 3 cx _ _ _ _ _
    exact T_sub [1, 2] rfl (t_X9_twoOf_218 C x2 x3 m)
  · show TI pp ll ee rm_X9_twoOf ss mm aa bb me co 3 cx _ _ _ _ _
    exact T_sub [1, 2] rfl (t_X9_twoOf_218 C x2 x3 m)
  · show TI pp ll ee rm_X9_twoOf ss mm aa bb me co 3 cx _ _ _ _ _
    exact T_sub [1, 2] rfl (t_X9_twoOf_218 C x2 x3 m)
  · show TI pp ll ee rm_X9_twoOf ss mm aa bb me co 3 cx _ _ _ _ _
    exact T_sub [1, 2] rfl (t_X9_twoOf_218 C x2 x3 m)
  · show TI pp ll ee rm_X9_twoOf ss mm aa bb me co 3 cx _ _ _ _ _
    exact T_sub [1, 2] rfl (t_X9_twoOf_218 C x2 x3 m)
  · show TI pp ll ee rm_X9_twoOf ss mm aa bb me co 3 cx _ _ _ _ _
    refine T_iload_n C.1 dX9_twoOf_171 1 rfl ?_
    refine T_iload_n C.1 dX9_twoOf_172 2 rfl ?_
    refine T_icmp_ge (tgt := 180) C.1 dX9_twoOf_173 (by decide) ?_ ?_
    · refine T_iconst C.1 dX9_twoOf_180 ?_
      exact T_iret C.1 C.2.1 C.2.2 dX9_twoOf_181
    · refine T_iconst C.1 dX9_twoOf_176 ?_
      refine T_goto (tgt := 181) C.1 dX9_twoOf_177 (by decide) ?_
      exact T_iret C.1 C.2.1 C.2.2 dX9_twoOf_181
  · show TI pp ll ee rm_X9_twoOf ss mm aa bb me co 3 cx _ _ _ _ _
    refine T_iload_n C.1 dX9_twoOf_182 1 rfl ?_
    refine T_iload_n C.1 dX9_twoOf_183 2 rfl ?_
    refine T_icmp_ne (tgt := 191) C.1 dX9_twoOf_184 (by decide) ?_ ?_
    · refine T_iconst C.1 dX9_twoOf_191 ?_
      exact T_iret C.1 C.2.1 C.2.2 dX9_twoOf_192
    · refine T_iconst C.1 dX9_twoOf_187 ?_
      refine T_goto (tgt := 192) C.1 dX9_twoOf_188 (by decide) ?_
      exact T_iret C.1 C.2.1 C.2.2 dX9_twoOf_192
  · show TI pp ll ee rm_X9_twoOf ss mm aa bb me co 3 cx _ _ _ _ _
    refine T_iload_n C.1 dX9_twoOf_193 1 rfl ?_
    refine T_iload_n C.1 dX9_twoOf_194 2 rfl ?_
    refine T_icmp_le (tgt := 202) C.1 dX9_twoOf_195 (by decide) ?_ ?_
    · refine T_iconst C.1 dX9_twoOf_202 ?_
      exact T_iret C.1 C.2.1 C.2.2 dX9_twoOf_203
    · refine T_iconst C.1 dX9_twoOf_198 ?_
      refine T_goto (tgt := 203) C.1 dX9_twoOf_199 (by decide) ?_
      exact T_iret C.1 C.2.1 C.2.2 dX9_twoOf_203
  · show TI pp ll ee rm_X9_twoOf ss mm aa bb me co 3 cx _ _ _ _ _
    exact T_sub [1, 2] rfl (t_X9_twoOf_218 C x2 x3 m)
def rm_X9_worked : Room := { frames := 2, cells := 0, slots := 0, locals := 62 }
def F_X9_worked_182 (k_12 : Int32 → Int32 → Int32 → Int32 → Mm → Option (Int32 × Mm)) (a1 : Int32) (a2 : Int32) (a3 : Int32) (a4 : Int32) (m : Mm) : Option (Int32 × Mm) :=
  nm (a4 + (iI 1)) fun v1 =>
  k_12 a1 a2 a3 v1 m
set_option maxRecDepth 100000 in
set_option maxHeartbeats 4000000 in
theorem t_X9_worked_182 {pp : Program} {ll : Launch} {ee : Env} {ss : State} {mm : MethodId} {aa : Array Value} {bb : List Frame} {me : Method} {co : Code} {cx : CX}  {k_12 : Int32 → Int32 → Int32 → Int32 → Mm → Option (Int32 × Mm)}   (C : CM pp ss mm aa me co cX9_worked 7 RX9 cx ((some .int)))   (hk_12 : ∀ (a1 : Int32) (a2 : Int32) (a3 : Int32) (a4 : Int32) (m : Mm), TI pp ll ee rm_X9_worked ss mm aa bb me co 7 cx 12 [(0, .ref (cx.2.2.1 + 113)), (1, .int a1), (3, .int a2), (4, .int a3), (5, .int a4)] [] m (k_12 a1 a2 a3 a4 m)) (a1 : Int32) (a2 : Int32) (a3 : Int32) (a4 : Int32) (m : Mm) : TI pp ll ee rm_X9_worked ss mm aa bb me co 7 cx 182 [(0, .ref (cx.2.2.1 + 113)), (1, .int a1), (3, .int a2), (4, .int a3), (5, .int a4)] [] m (F_X9_worked_182 k_12 a1 a2 a3 a4 m) := by
  unfold F_X9_worked_182
  refine T_iincN C.1 (fun v1 => [(5, .int v1), (0, .ref (cx.2.2.1 + 113)), (1, .int a1), (3, .int a2), (4, .int a3)]) dX9_worked_182 4 rfl (by decide) (fun _ => rfl) (fun v1 => ?_)
  refine T_goto (tgt := 12) C.1 dX9_worked_185 (by decide) ?_
  exact T_sub [1, 2, 3, 4, 0] rfl (hk_12 a1 a2 a3 v1 m)
def F_X9_worked_79 (k_12 : Int32 → Int32 → Int32 → Int32 → Mm → Option (Int32 × Mm)) (a1 : Int32) (a2 : Int32) (a3 : Int32) (a4 : Int32) (a5 : Int32) (a6 : Int32) (m : Mm) : Option (Int32 × Mm) :=
  wrI 130 m 136 a6 a5 fun m1 =>
  nm (a3 + (iI 1)) fun v2 =>
  F_X9_worked_182 (k_12) a1 a2 v2 a4 m1
set_option maxRecDepth 100000 in
set_option maxHeartbeats 4000000 in
theorem t_X9_worked_79 {pp : Program} {ll : Launch} {ee : Env} {ss : State} {mm : MethodId} {aa : Array Value} {bb : List Frame} {me : Method} {co : Code} {cx : CX}  {k_12 : Int32 → Int32 → Int32 → Int32 → Mm → Option (Int32 × Mm)}   (C : CM pp ss mm aa me co cX9_worked 7 RX9 cx ((some .int)))   (hk_12 : ∀ (a1 : Int32) (a2 : Int32) (a3 : Int32) (a4 : Int32) (m : Mm), TI pp ll ee rm_X9_worked ss mm aa bb me co 7 cx 12 [(0, .ref (cx.2.2.1 + 113)), (1, .int a1), (3, .int a2), (4, .int a3), (5, .int a4)] [] m (k_12 a1 a2 a3 a4 m)) (a1 : Int32) (a2 : Int32) (a3 : Int32) (a4 : Int32) (a5 : Int32) (a6 : Int32) (m : Mm) : TI pp ll ee rm_X9_worked ss mm aa bb me co 7 cx 79 [(0, .ref (cx.2.2.1 + 113)), (1, .int a1), (3, .int a2), (4, .int a3), (5, .int a4)] [.int a5, .int a6, .ref (cx.2.2.1 + 136)] m (F_X9_worked_79 k_12 a1 a2 a3 a4 a5 a6 m) := by
  unfold F_X9_worked_79
  refine T_iast C.1 LyI_Lay sh136 le136 dX9_worked_79 (fun m1 => ?_)
  refine T_iincN C.1 (fun v2 => [(4, .int v2), (0, .ref (cx.2.2.1 + 113)), (1, .int a1), (3, .int a2), (5, .int a4)]) dX9_worked_80 3 rfl (by decide) (fun _ => rfl) (fun v2 => ?_)
  refine T_goto (tgt := 182) C.1 dX9_worked_83 (by decide) ?_
  exact T_sub [1, 2, 3, 0, 4] rfl (t_X9_worked_182 C (hk_12) a1 a2 v2 a4 m1)
def F_X9_worked_45 (k_12 : Int32 → Int32 → Int32 → Int32 → Mm → Option (Int32 × Mm)) (a1 : Int32) (a2 : Int32) (a3 : Int32) (a4 : Int32) (a5 : Int32) (m : Mm) : Option (Int32 × Mm) :=
  (if a5 = (iI 1) then
    rd 260 a4 fun j3 =>
    F_X9_worked_79 (k_12) a1 a2 a3 a4 (gI m 131 j3) a3 m
  else
    rd 260 a4 fun j1 =>
    rd 6 (gI m 131 j1) fun j2 =>
    F_X9_worked_79 (k_12) a1 a2 a3 a4 (gI m 135 j2) a3 m)
set_option maxRecDepth 100000 in
set_option maxHeartbeats 4000000 in
theorem t_X9_worked_45 {pp : Program} {ll : Launch} {ee : Env} {ss : State} {mm : MethodId} {aa : Array Value} {bb : List Frame} {me : Method} {co : Code} {cx : CX}  {k_12 : Int32 → Int32 → Int32 → Int32 → Mm → Option (Int32 × Mm)}   (C : CM pp ss mm aa me co cX9_worked 7 RX9 cx ((some .int)))   (hk_12 : ∀ (a1 : Int32) (a2 : Int32) (a3 : Int32) (a4 : Int32) (m : Mm), TI pp ll ee rm_X9_worked ss mm aa bb me co 7 cx 12 [(0, .ref (cx.2.2.1 + 113)), (1, .int a1), (3, .int a2), (4, .int a3), (5, .int a4)] [] m (k_12 a1 a2 a3 a4 m)) (a1 : Int32) (a2 : Int32) (a3 : Int32) (a4 : Int32) (a5 : Int32) (m : Mm) : TI pp ll ee rm_X9_worked ss mm aa bb me co 7 cx 45 [(0, .ref (cx.2.2.1 + 113)), (1, .int a1), (3, .int a2), (4, .int a3), (5, .int a4), (6, .int a5)] [] m (F_X9_worked_45 k_12 a1 a2 a3 a4 a5 m) := by
  unfold F_X9_worked_45
  refine T_aload_n C.1 dX9_worked_45 0 rfl ?_
  refine T_getR (x := 136) C.1 fd_X9_85 (fun _ _ _ _ => rfl) sh113 le113 (fun _ h => h) rfl (by decide) dX9_worked_46 ?_
  refine T_iload C.1 dX9_worked_49 3 rfl ?_
  refine T_iload C.1 dX9_worked_51 5 rfl ?_
  refine T_iconst C.1 dX9_worked_53 ?_
  refine T_icmp_ne (tgt := 67) C.1 dX9_worked_54 (by decide) ?_ ?_
  · refine T_aload_n C.1 dX9_worked_67 0 rfl ?_
    refine T_getR (x := 135) C.1 fd_X9_82 (fun _ _ _ _ => rfl) sh113 le113 (fun _ h => h) rfl (by decide) dX9_worked_68 ?_
    refine T_aload_n C.1 dX9_worked_71 0 rfl ?_
    refine T_getR (x := 131) C.1 fd_X9_69 (fun _ _ _ _ => rfl) sh113 le113 (fun _ h => h) rfl (by decide) dX9_worked_72 ?_
    refine T_iload C.1 dX9_worked_75 4 rfl ?_
    refine T_iald C.1 dX9_worked_77 sh131 le131 (fun j1 => ?_)
    refine T_iald C.1 dX9_worked_78 sh135 le135 (fun j2 => ?_)
    exact T_sub [0, 1, 2, 3, 4] rfl (t_X9_worked_79 C (hk_12) a1 a2 a3 a4 (gI m 135 j2) a3 m)
  · refine T_aload_n C.1 dX9_worked_57 0 rfl ?_
    refine T_getR (x := 131) C.1 fd_X9_69 (fun _ _ _ _ => rfl) sh113 le113 (fun _ h => h) rfl (by decide) dX9_worked_58 ?_
    refine T_iload C.1 dX9_worked_61 4 rfl ?_
    refine T_iald C.1 dX9_worked_63 sh131 le131 (fun j3 => ?_)
    refine T_goto (tgt := 79) C.1 dX9_worked_64 (by decide) ?_
    exact T_sub [0, 1, 2, 3, 4] rfl (t_X9_worked_79 C (hk_12) a1 a2 a3 a4 (gI m 131 j3) a3 m)
def F_X9_worked_117 (k_12 : Int32 → Int32 → Int32 → Int32 → Mm → Option (Int32 × Mm)) (a1 : Int32) (a2 : Int32) (a3 : Int32) (a4 : Int32) (a5 : Int32) (a6 : Int32) (m : Mm) : Option (Int32 × Mm) :=
  wrI 130 m 136 a6 a5 fun m1 =>
  F_X9_worked_182 (k_12) a1 a2 a3 a4 m1
set_option maxRecDepth 100000 in
set_option maxHeartbeats 4000000 in
theorem t_X9_worked_117 {pp : Program} {ll : Launch} {ee : Env} {ss : State} {mm : MethodId} {aa : Array Value} {bb : List Frame} {me : Method} {co : Code} {cx : CX}  {k_12 : Int32 → Int32 → Int32 → Int32 → Mm → Option (Int32 × Mm)}   (C : CM pp ss mm aa me co cX9_worked 7 RX9 cx ((some .int)))   (hk_12 : ∀ (a1 : Int32) (a2 : Int32) (a3 : Int32) (a4 : Int32) (m : Mm), TI pp ll ee rm_X9_worked ss mm aa bb me co 7 cx 12 [(0, .ref (cx.2.2.1 + 113)), (1, .int a1), (3, .int a2), (4, .int a3), (5, .int a4)] [] m (k_12 a1 a2 a3 a4 m)) (a1 : Int32) (a2 : Int32) (a3 : Int32) (a4 : Int32) (a5 : Int32) (a6 : Int32) (m : Mm) : TI pp ll ee rm_X9_worked ss mm aa bb me co 7 cx 117 [(0, .ref (cx.2.2.1 + 113)), (1, .int a1), (3, .int a2), (4, .int a3), (5, .int a4)] [.int a5, .int a6, .ref (cx.2.2.1 + 136)] m (F_X9_worked_117 k_12 a1 a2 a3 a4 a5 a6 m) := by
  unfold F_X9_worked_117
  refine T_iast C.1 LyI_Lay sh136 le136 dX9_worked_117 (fun m1 => ?_)
  refine T_goto (tgt := 182) C.1 dX9_worked_118 (by decide) ?_
  exact T_sub [0, 1, 2, 3, 4] rfl (t_X9_worked_182 C (hk_12) a1 a2 a3 a4 m1)
def F_X9_worked_12  : Nat → Int32 → Int32 → Int32 → Int32 → Mm → Option (Int32 × Mm)
  | 0, _, _, _, _, _ => none
  | f + 1, a1, a2, a3, a4, m =>
    (if (((iI 130) * a1) + a2) ≤ a4 then
      rd 130 (iI 0) fun j1 =>
      some ((gI m 136 j1), m)
    else
      rd 260 a4 fun j2 =>
      nm (gI m 130 j2) fun v3 =>
      (if v3 = (iI 1) then
        F_X9_worked_45 (F_X9_worked_12  f) a1 a2 a3 a4 v3 m
      else
        (if v3 = (iI 2) then
          F_X9_worked_45 (F_X9_worked_12  f) a1 a2 a3 a4 v3 m
        else
          (if v3 = (iI 3) then
            rd 130 (a3 - (iI 1)) fun j12 =>
            (if (gI m 136 j12) = iI 0 then
              F_X9_worked_117 (F_X9_worked_12  f) a1 a2 a3 a4 (iI 1) (a3 - (iI 1)) m
            else
              F_X9_worked_117 (F_X9_worked_12  f) a1 a2 a3 a4 (iI 0) (a3 - (iI 1)) m)
          else
            (if v3 = (iI 4) then
              rd 130 (a3 - (iI 1)) fun j10 =>
              wrI 130 m 136 (a3 - (iI 1)) (-(gI m 136 j10)) fun m11 =>
              F_X9_worked_182 (F_X9_worked_12  f) a1 a2 a3 a4 m11
            else
              nm (a3 + (iI (-1))) fun v4 =>
              rd 130 (v4 - (iI 1)) fun j5 =>
              rd 130 v4 fun j6 =>
              bnd (F_X9_twoOf v3 (gI m 136 j5) (gI m 136 j6) m) fun v7 m8 =>
              wrI 130 m8 136 (v4 - (iI 1)) v7 fun m9 =>
              F_X9_worked_182 (F_X9_worked_12  f) a1 a2 v4 a4 m9)))))
set_option maxRecDepth 100000 in
set_option maxHeartbeats 4000000 in
theorem t_X9_worked_12 {pp : Program} {ll : Launch} {ee : Env} {ss : State} {mm : MethodId} {aa : Array Value} {bb : List Frame} {me : Method} {co : Code} {cx : CX}     (C : CM pp ss mm aa me co cX9_worked 7 RX9 cx ((some .int)))    : ∀ (f : Nat) (a1 : Int32) (a2 : Int32) (a3 : Int32) (a4 : Int32) (m : Mm), TI pp ll ee rm_X9_worked ss mm aa bb me co 7 cx 12 [(0, .ref (cx.2.2.1 + 113)), (1, .int a1), (3, .int a2), (4, .int a3), (5, .int a4)] [] m (F_X9_worked_12  f a1 a2 a3 a4 m) := by
  intro f
  induction f with
  | zero => exact fun _ _ _ _ _ => T_none
  | succ f ih =>
    intro a1 a2 a3 a4 m
    unfold F_X9_worked_12
    refine T_iload C.1 dX9_worked_12 4 rfl ?_
    refine T_sipush C.1 dX9_worked_14 rfl ?_
    refine T_iload_n C.1 dX9_worked_17 1 rfl ?_
    refine T_imul C.1 dX9_worked_18 ?_
    refine T_iload_n C.1 dX9_worked_19 2 rfl ?_
    refine T_iadd C.1 dX9_worked_20 ?_
    refine T_icmp_ge (tgt := 188) C.1 dX9_worked_21 (by decide) ?_ ?_
    · refine T_aload_n C.1 dX9_worked_188 0 rfl ?_
      refine T_getR (x := 136) C.1 fd_X9_85 (fun _ _ _ _ => rfl) sh113 le113 (fun _ h => h) rfl (by decide) dX9_worked_189 ?_
      refine T_iconst C.1 dX9_worked_192 ?_
      refine T_iald C.1 dX9_worked_193 sh136 le136 (fun j1 => ?_)
      exact T_iret C.1 C.2.1 C.2.2 dX9_worked_194
    · refine T_aload_n C.1 dX9_worked_24 0 rfl ?_
      refine T_getR (x := 130) C.1 fd_X9_66 (fun _ _ _ _ => rfl) sh113 le113 (fun _ h => h) rfl (by decide) dX9_worked_25 ?_
      refine T_iload C.1 dX9_worked_28 4 rfl ?_
      refine T_bald C.1 dX9_worked_30 sh130 le130 (fun j2 => ?_)
      refine T_istoreN C.1 (fun v3 => [(6, .int v3), (0, .ref (cx.2.2.1 + 113)), (1, .int a1), (3, .int a2), (4, .int a3), (5, .int a4)]) dX9_worked_31 (by decide) (fun _ => rfl) (fun v3 => ?_)
      refine T_iload C.1 dX9_worked_33 0 rfl ?_
      refine T_iconst C.1 dX9_worked_35 ?_
      refine T_icmp_eq (tgt := 45) C.1 dX9_worked_36 (by decide) ?_ ?_
      · exact T_sub [1, 2, 3, 4, 5, 0] rfl (t_X9_worked_45 C (ih) a1 a2 a3 a4 v3 m)
      · refine T_iload C.1 dX9_worked_39 0 rfl ?_
        refine T_iconst C.1 dX9_worked_41 ?_
        refine T_icmp_ne (tgt := 86) C.1 dX9_worked_42 (by decide) ?_ ?_
        · refine T_iload C.1 dX9_worked_86 0 rfl ?_
          refine T_iconst C.1 dX9_worked_88 ?_
          refine T_icmp_ne (tgt := 121) C.1 dX9_worked_89 (by decide) ?_ ?_
          · refine T_iload C.1 dX9_worked_121 0 rfl ?_
            refine T_iconst C.1 dX9_worked_123 ?_
            refine T_icmp_ne (tgt := 149) C.1 dX9_worked_124 (by decide) ?_ ?_
            · refine T_iincN C.1 (fun v4 => [(4, .int v4), (6, .int v3), (0, .ref (cx.2.2.1 + 113)), (1, .int a1), (3, .int a2), (5, .int a4)]) dX9_worked_149 4 rfl (by decide) (fun _ => rfl) (fun v4 => ?_)
              refine T_aload_n C.1 dX9_worked_152 2 rfl ?_
              refine T_getR (x := 136) C.1 fd_X9_85 (fun _ _ _ _ => rfl) sh113 le113 (fun _ h => h) rfl (by decide) dX9_worked_153 ?_
              refine T_iload C.1 dX9_worked_156 0 rfl ?_
              refine T_iconst C.1 dX9_worked_158 ?_
              refine T_isub C.1 dX9_worked_159 ?_
              refine T_iload C.1 dX9_worked_160 1 rfl ?_
              refine T_aload_n C.1 dX9_worked_162 2 rfl ?_
              refine T_getR (x := 136) C.1 fd_X9_85 (fun _ _ _ _ => rfl) sh113 le113 (fun _ h => h) rfl (by decide) dX9_worked_163 ?_
              refine T_iload C.1 dX9_worked_166 0 rfl ?_
              refine T_iconst C.1 dX9_worked_168 ?_
              refine T_isub C.1 dX9_worked_169 ?_
              refine T_iald C.1 dX9_worked_170 sh136 le136 (fun j5 => ?_)
              refine T_aload_n C.1 dX9_worked_171 2 rfl ?_
              refine T_getR (x := 136) C.1 fd_X9_85 (fun _ _ _ _ => rfl) sh113 le113 (fun _ h => h) rfl (by decide) dX9_worked_172 ?_
              refine T_iload C.1 dX9_worked_175 0 rfl ?_
              refine T_iald C.1 dX9_worked_177 sh136 le136 (fun j6 => ?_)
              refine T_callSI (rm := rm_X9_twoOf) [.int v3, .int (gI m 136 j5), .int (gI m 136 j6)] [.int (v4 - (iI 1)), .ref (cx.2.2.1 + 136)] C.1 dX9_worked_178 mw_X9_twoOf wm_6_103 wm_6_104 ⟨Nat.le_of_ble_eq_true rfl, Nat.le_of_ble_eq_true rfl⟩ ⟨rfl, rfl⟩ ⟨Nat.zero_le _, Nat.zero_le _⟩ rfl rfl (Nat.le_of_ble_eq_true rfl) (c_X9_twoOf ll cx v3 (gI m 136 j5) (gI m 136 j6) m) (fun v7 m8 => ?_)
              refine T_iast C.1 LyI_Lay sh136 le136 dX9_worked_181 (fun m9 => ?_)
              exact T_sub [2, 3, 4, 0, 5] rfl (t_X9_worked_182 C (ih) a1 a2 v4 a4 m9)
            · refine T_aload_n C.1 dX9_worked_127 1 rfl ?_
              refine T_getR (x := 136) C.1 fd_X9_85 (fun _ _ _ _ => rfl) sh113 le113 (fun _ h => h) rfl (by decide) dX9_worked_128 ?_
              refine T_iload C.1 dX9_worked_131 4 rfl ?_
              refine T_iconst C.1 dX9_worked_133 ?_
              refine T_isub C.1 dX9_worked_134 ?_
              refine T_aload_n C.1 dX9_worked_135 1 rfl ?_
              refine T_getR (x := 136) C.1 fd_X9_85 (fun _ _ _ _ => rfl) sh113 le113 (fun _ h => h) rfl (by decide) dX9_worked_136 ?_
              refine T_iload C.1 dX9_worked_139 4 rfl ?_
              refine T_iconst C.1 dX9_worked_141 ?_
              refine T_isub C.1 dX9_worked_142 ?_
              refine T_iald C.1 dX9_worked_143 sh136 le136 (fun j10 => ?_)
              refine T_ineg C.1 dX9_worked_144 ?_
              refine T_iast C.1 LyI_Lay sh136 le136 dX9_worked_145 (fun m11 => ?_)
              refine T_goto (tgt := 182) C.1 dX9_worked_146 (by decide) ?_
              exact T_sub [1, 2, 3, 4, 5] rfl (t_X9_worked_182 C (ih) a1 a2 a3 a4 m11)
          · refine T_aload_n C.1 dX9_worked_92 1 rfl ?_
            refine T_getR (x := 136) C.1 fd_X9_85 (fun _ _ _ _ => rfl) sh113 le113 (fun _ h => h) rfl (by decide) dX9_worked_93 ?_
            refine T_iload C.1 dX9_worked_96 4 rfl ?_
            refine T_iconst C.1 dX9_worked_98 ?_
            refine T_isub C.1 dX9_worked_99 ?_
            refine T_aload_n C.1 dX9_worked_100 1 rfl ?_
            refine T_getR (x := 136) C.1 fd_X9_85 (fun _ _ _ _ => rfl) sh113 le113 (fun _ h => h) rfl (by decide) dX9_worked_101 ?_
            refine T_iload C.1 dX9_worked_104 4 rfl ?_
            refine T_iconst C.1 dX9_worked_106 ?_
            refine T_isub C.1 dX9_worked_107 ?_
            refine T_iald C.1 dX9_worked_108 sh136 le136 (fun j12 => ?_)
            refine T_if_ne (tgt := 116) C.1 dX9_worked_109 (by decide) ?_ ?_
            · refine T_iconst C.1 dX9_worked_116 ?_
              exact T_sub [1, 2, 3, 4, 5] rfl (t_X9_worked_117 C (ih) a1 a2 a3 a4 (iI 0) (a3 - (iI 1)) m)
            · refine T_iconst C.1 dX9_worked_112 ?_
              refine T_goto (tgt := 117) C.1 dX9_worked_113 (by decide) ?_
              exact T_sub [1, 2, 3, 4, 5] rfl (t_X9_worked_117 C (ih) a1 a2 a3 a4 (iI 1) (a3 - (iI 1)) m)
        · exact T_sub [1, 2, 3, 4, 5, 0] rfl (t_X9_worked_45 C (ih) a1 a2 a3 a4 v3 m)
def F_X9_worked  (x1 : Int32) (x2 : Int32) (x3 : Int32) (m : Mm) : Option (Int32 × Mm) :=
  nm (((iI 130) * x1) + x2) fun v1 =>
  F_X9_worked_12 FU x1 x3 (iI 0) v1 m
set_option maxRecDepth 100000 in
set_option maxHeartbeats 4000000 in
theorem c_X9_worked (ll : Launch) (cx : CX) (x1 : Int32) (x2 : Int32) (x3 : Int32) (m : Mm) : MT ll yX9_worked cX9_worked 7 ((some .int)) rm_X9_worked cx NN NN Lay cvI 0 0 [.ref (cx.2.2.1 + 113), .int x1, .int x2, .int x3] m (F_X9_worked x1 x2 x3 m) := by
  refine MT_of (by decide) (Nat.le_of_ble_eq_true rfl) ?_
  intro pp ee ss mm aa bb me co hK hr hk hn
  have C : CM pp ss mm aa me co cX9_worked 7 RX9 cx ((some .int)) := ⟨hK, hr, hk⟩
  show TI pp ll ee rm_X9_worked ss mm aa bb me co 7 cx 0 [(0, .ref (cx.2.2.1 + 113)), (1, .int x1), (2, .int x2), (3, .int x3)] [] m (F_X9_worked x1 x2 x3 m)
  unfold F_X9_worked
  refine T_iconst C.1 dX9_worked_0 ?_
  refine T_istore (lv' := [(4, .int (iI 0)), (0, .ref (cx.2.2.1 + 113)), (1, .int x1), (2, .int x2), (3, .int x3)]) C.1 dX9_worked_1 (by decide) rfl ?_
  refine T_sipush C.1 dX9_worked_3 rfl ?_
  refine T_iload_n C.1 dX9_worked_6 2 rfl ?_
  refine T_imul C.1 dX9_worked_7 ?_
  refine T_iload_n C.1 dX9_worked_8 3 rfl ?_
  refine T_iadd C.1 dX9_worked_9 ?_
  refine T_istoreN C.1 (fun v1 => [(5, .int v1), (4, .int (iI 0)), (0, .ref (cx.2.2.1 + 113)), (1, .int x1), (2, .int x2), (3, .int x3)]) dX9_worked_10 (by decide) (fun _ => rfl) (fun v1 => ?_)
  exact T_sub [2, 3, 5, 1, 0] rfl (t_X9_worked_12 C FU x1 x3 (iI 0) v1 m)
def rm_X9_gives : Room := { frames := 3, cells := 0, slots := 0, locals := 88 }
def F_X9_gives_47  (a1 : Int32) (a2 : Int32) (m : Mm) : Option (Int32 × Mm) :=
  rd 122 a2 fun j1 =>
  rd 122 a2 fun j2 =>
  bnd (F_X9_worked a1 (gI m 133 j1) (gI m 134 j2) m) fun v3 m4 =>
  some (v3, m4)
set_option maxRecDepth 100000 in
set_option maxHeartbeats 4000000 in
theorem t_X9_gives_47 {pp : Program} {ll : Launch} {ee : Env} {ss : State} {mm : MethodId} {aa : Array Value} {bb : List Frame} {me : Method} {co : Code} {cx : CX}     (C : CM pp ss mm aa me co cX9_gives 4 RX9 cx ((some .int)))    (a1 : Int32) (a2 : Int32) (m : Mm) : TI pp ll ee rm_X9_gives ss mm aa bb me co 4 cx 47 [(0, .ref (cx.2.2.1 + 113)), (1, .int a1), (3, .int a2)] [] m (F_X9_gives_47  a1 a2 m) := by
  unfold F_X9_gives_47
  refine T_aload_n C.1 dX9_gives_47 0 rfl ?_
  refine T_iload_n C.1 dX9_gives_48 1 rfl ?_
  refine T_aload_n C.1 dX9_gives_49 0 rfl ?_
  refine T_getR (x := 133) C.1 fd_X9_75 (fun _ _ _ _ => rfl) sh113 le113 (fun _ h => h) rfl (by decide) dX9_gives_50 ?_
  refine T_iload_n C.1 dX9_gives_53 2 rfl ?_
  refine T_sald C.1 dX9_gives_54 sh133 le133 (fun j1 => ?_)
  refine T_aload_n C.1 dX9_gives_55 0 rfl ?_
  refine T_getR (x := 134) C.1 fd_X9_79 (fun _ _ _ _ => rfl) sh113 le113 (fun _ h => h) rfl (by decide) dX9_gives_56 ?_
  refine T_iload_n C.1 dX9_gives_59 2 rfl ?_
  refine T_sald C.1 dX9_gives_60 sh134 le134 (fun j2 => ?_)
  refine T_callVI (rm := rm_X9_worked) [.int a1, .int (gI m 133 j1), .int (gI m 134 j2)] [] C.1 dX9_gives_61 mw_X9_worked wm_6_99 wm_6_101 wm_p_67 ⟨Nat.le_of_ble_eq_true rfl, Nat.le_of_ble_eq_true rfl⟩ ⟨rfl, rfl⟩ ⟨Nat.zero_le _, Nat.zero_le _⟩ rfl rfl (Nat.le_of_ble_eq_true rfl) sh113 le113 ⟨rfl, rfl⟩ (c_X9_worked ll cx a1 (gI m 133 j1) (gI m 134 j2) m) (fun v3 m4 => ?_)
  exact T_iret C.1 C.2.1 C.2.2 dX9_gives_64
def F_X9_gives_7  : Nat → Int32 → Int32 → Int32 → Mm → Option (Int32 × Mm)
  | 0, _, _, _, _ => none
  | f + 1, a1, a2, a3, m =>
    rd 2 a1 fun j1 =>
    (if (((iI 61) * a1) + (gI m 132 j1)) ≤ a3 then
      some ((iI 0), m)
    else
      rd 122 a3 fun j2 =>
      (if (gI m 133 j2) = a2 then
        F_X9_gives_47 a1 a3 m
      else
        rd 122 a3 fun j3 =>
        bnd (F_X9_worked a1 a2 (gI m 133 j3) m) fun v4 m5 =>
        (if v4 = iI 0 then
          rd 122 a3 fun j6 =>
          nm (gI m5 134 j6) fun v7 =>
          nm (a3 + (iI 1)) fun v8 =>
          F_X9_gives_7  f a1 v7 v8 m5
        else
          F_X9_gives_47 a1 a3 m5)))
set_option maxRecDepth 100000 in
set_option maxHeartbeats 4000000 in
theorem t_X9_gives_7 {pp : Program} {ll : Launch} {ee : Env} {ss : State} {mm : MethodId} {aa : Array Value} {bb : List Frame} {me : Method} {co : Code} {cx : CX}     (C : CM pp ss mm aa me co cX9_gives 4 RX9 cx ((some .int)))    : ∀ (f : Nat) (a1 : Int32) (a2 : Int32) (a3 : Int32) (m : Mm), TI pp ll ee rm_X9_gives ss mm aa bb me co 4 cx 7 [(0, .ref (cx.2.2.1 + 113)), (1, .int a1), (2, .int a2), (3, .int a3)] [] m (F_X9_gives_7  f a1 a2 a3 m) := by
  intro f
  induction f with
  | zero => exact fun _ _ _ _ => T_none
  | succ f ih =>
    intro a1 a2 a3 m
    unfold F_X9_gives_7
    refine T_iload_n C.1 dX9_gives_7 3 rfl ?_
    refine T_bipush C.1 dX9_gives_8 rfl ?_
    refine T_iload_n C.1 dX9_gives_10 1 rfl ?_
    refine T_imul C.1 dX9_gives_11 ?_
    refine T_aload_n C.1 dX9_gives_12 0 rfl ?_
    refine T_getR (x := 132) C.1 fd_X9_72 (fun _ _ _ _ => rfl) sh113 le113 (fun _ h => h) rfl (by decide) dX9_gives_13 ?_
    refine T_iload_n C.1 dX9_gives_16 1 rfl ?_
    refine T_iald C.1 dX9_gives_17 sh132 le132 (fun j1 => ?_)
    refine T_iadd C.1 dX9_gives_18 ?_
    refine T_icmp_ge (tgt := 78) C.1 dX9_gives_19 (by decide) ?_ ?_
    · refine T_iconst C.1 dX9_gives_78 ?_
      exact T_iret C.1 C.2.1 C.2.2 dX9_gives_79
    · refine T_aload_n C.1 dX9_gives_22 0 rfl ?_
      refine T_getR (x := 133) C.1 fd_X9_75 (fun _ _ _ _ => rfl) sh113 le113 (fun _ h => h) rfl (by decide) dX9_gives_23 ?_
      refine T_iload_n C.1 dX9_gives_26 3 rfl ?_
      refine T_sald C.1 dX9_gives_27 sh133 le133 (fun j2 => ?_)
      refine T_iload_n C.1 dX9_gives_28 2 rfl ?_
      refine T_icmp_eq (tgt := 47) C.1 dX9_gives_29 (by decide) ?_ ?_
      · exact T_sub [0, 1, 3] rfl (t_X9_gives_47 C a1 a3 m)
      · refine T_aload_n C.1 dX9_gives_32 0 rfl ?_
        refine T_iload_n C.1 dX9_gives_33 1 rfl ?_
        refine T_iload_n C.1 dX9_gives_34 2 rfl ?_
        refine T_aload_n C.1 dX9_gives_35 0 rfl ?_
        refine T_getR (x := 133) C.1 fd_X9_75 (fun _ _ _ _ => rfl) sh113 le113 (fun _ h => h) rfl (by decide) dX9_gives_36 ?_
        refine T_iload_n C.1 dX9_gives_39 3 rfl ?_
        refine T_sald C.1 dX9_gives_40 sh133 le133 (fun j3 => ?_)
        refine T_callVI (rm := rm_X9_worked) [.int a1, .int a2, .int (gI m 133 j3)] [] C.1 dX9_gives_41 mw_X9_worked wm_6_99 wm_6_101 wm_p_67 ⟨Nat.le_of_ble_eq_true rfl, Nat.le_of_ble_eq_true rfl⟩ ⟨rfl, rfl⟩ ⟨Nat.zero_le _, Nat.zero_le _⟩ rfl rfl (Nat.le_of_ble_eq_true rfl) sh113 le113 ⟨rfl, rfl⟩ (c_X9_worked ll cx a1 a2 (gI m 133 j3) m) (fun v4 m5 => ?_)
        refine T_if_eq (tgt := 65) C.1 dX9_gives_44 (by decide) ?_ ?_
        · refine T_aload_n C.1 dX9_gives_65 0 rfl ?_
          refine T_getR (x := 134) C.1 fd_X9_79 (fun _ _ _ _ => rfl) sh113 le113 (fun _ h => h) rfl (by decide) dX9_gives_66 ?_
          refine T_iload_n C.1 dX9_gives_69 3 rfl ?_
          refine T_sald C.1 dX9_gives_70 sh134 le134 (fun j6 => ?_)
          refine T_istore_nN C.1 (fun v7 => [(2, .int v7), (0, .ref (cx.2.2.1 + 113)), (1, .int a1), (3, .int a3)]) dX9_gives_71 (by decide) (fun _ => rfl) (fun v7 => ?_)
          refine T_iincN C.1 (fun v8 => [(3, .int v8), (2, .int v7), (0, .ref (cx.2.2.1 + 113)), (1, .int a1)]) dX9_gives_72 3 rfl (by decide) (fun _ => rfl) (fun v8 => ?_)
          refine T_goto (tgt := 7) C.1 dX9_gives_75 (by decide) ?_
          exact T_sub [2, 3, 1, 0] rfl (ih a1 v7 v8 m5)
        · exact T_sub [0, 1, 3] rfl (t_X9_gives_47 C a1 a3 m5)
def F_X9_gives  (x1 : Int32) (m : Mm) : Option (Int32 × Mm) :=
  nm ((iI 61) * x1) fun v1 =>
  F_X9_gives_7 FU x1 (iI 0) v1 m
set_option maxRecDepth 100000 in
set_option maxHeartbeats 4000000 in
theorem c_X9_gives (ll : Launch) (cx : CX) (x1 : Int32) (m : Mm) : MT ll yX9_gives cX9_gives 4 ((some .int)) rm_X9_gives cx NN NN Lay cvI 0 0 [.ref (cx.2.2.1 + 113), .int x1] m (F_X9_gives x1 m) := by
  refine MT_of (by decide) (Nat.le_of_ble_eq_true rfl) ?_
  intro pp ee ss mm aa bb me co hK hr hk hn
  have C : CM pp ss mm aa me co cX9_gives 4 RX9 cx ((some .int)) := ⟨hK, hr, hk⟩
  show TI pp ll ee rm_X9_gives ss mm aa bb me co 4 cx 0 [(0, .ref (cx.2.2.1 + 113)), (1, .int x1)] [] m (F_X9_gives x1 m)
  unfold F_X9_gives
  refine T_iconst C.1 dX9_gives_0 ?_
  refine T_istore_n (lv' := [(2, .int (iI 0)), (0, .ref (cx.2.2.1 + 113)), (1, .int x1)]) C.1 dX9_gives_1 (by decide) rfl ?_
  refine T_bipush C.1 dX9_gives_2 rfl ?_
  refine T_iload_n C.1 dX9_gives_4 2 rfl ?_
  refine T_imul C.1 dX9_gives_5 ?_
  refine T_istore_nN C.1 (fun v1 => [(3, .int v1), (2, .int (iI 0)), (0, .ref (cx.2.2.1 + 113)), (1, .int x1)]) dX9_gives_6 (by decide) (fun _ => rfl) (fun v1 => ?_)
  exact T_sub [2, 3, 1, 0] rfl (t_X9_gives_7 C FU x1 (iI 0) v1 m)
def rm_X9_law : Room := { frames := 906, cells := 0, slots := 0, locals := 19047 }
def F_X9_law   (m : Mm) : Option (Int32 × Mm) :=
  bnd (F_X9_readText (iI 0) m) fun v1 m2 =>
  (if v1 < iI 0 then
    zb (iI 1) (nm (pI m2 113 39 (iI 1)) fun m3 =>
    some ((iI 1), m3))
  else
    some (((iI (-100)) - v1), m2))
set_option maxRecDepth 100000 in
set_option maxHeartbeats 4000000 in
theorem c_X9_law (ll : Launch) (cx : CX)  (m : Mm) : MT ll yX9_law cX9_law 2 ((some .int)) rm_X9_law cx NN NN Lay cvI 0 0 [.ref (cx.2.2.1 + 113)] m (F_X9_law  m) := by
  refine MT_of (by decide) (Nat.le_of_ble_eq_true rfl) ?_
  intro pp ee ss mm aa bb me co hK hr hk hn
  have C : CM pp ss mm aa me co cX9_law 2 RX9 cx ((some .int)) := ⟨hK, hr, hk⟩
  show TI pp ll ee rm_X9_law ss mm aa bb me co 2 cx 0 [(0, .ref (cx.2.2.1 + 113))] [] m (F_X9_law  m)
  unfold F_X9_law
  refine T_aload_n C.1 dX9_law_0 0 rfl ?_
  refine T_iconst C.1 dX9_law_1 ?_
  refine T_callVI (rm := rm_X9_readText) [.int (iI 0)] [] C.1 dX9_law_2 mw_X9_readText wm_5_225 wm_5_227 wm_p_44 ⟨Nat.le_of_ble_eq_true rfl, Nat.le_of_ble_eq_true rfl⟩ ⟨rfl, rfl⟩ ⟨Nat.zero_le _, Nat.zero_le _⟩ rfl rfl (Nat.le_of_ble_eq_true rfl) sh113 le113 ⟨rfl, rfl⟩ (c_X9_readText ll cx (iI 0) m) (fun v1 m2 => ?_)
  refine T_istore_n (lv' := [(1, .int v1), (0, .ref (cx.2.2.1 + 113))]) C.1 dX9_law_5 (by decide) rfl ?_
  refine T_iload_n C.1 dX9_law_6 0 rfl ?_
  refine T_if_lt (tgt := 15) C.1 dX9_law_7 (by decide) ?_ ?_
  · refine T_aload_n C.1 dX9_law_15 1 rfl ?_
    refine T_iconst C.1 dX9_law_16 ?_
    refine T_putZ C.1 LyI_Lay fd_X9_282 sh113 le113 dX9_law_17 (fun m3 => ?_)
    refine T_iconst C.1 dX9_law_20 ?_
    exact T_iret C.1 C.2.1 C.2.2 dX9_law_21
  · refine T_bipush C.1 dX9_law_10 rfl ?_
    refine T_iload_n C.1 dX9_law_12 0 rfl ?_
    refine T_isub C.1 dX9_law_13 ?_
    exact T_iret C.1 C.2.1 C.2.2 dX9_law_14
def rm_X9_bitsOf : Room := { frames := 1, cells := 0, slots := 0, locals := 40 }
def F_X9_bitsOf_4  : Nat → Int32 → Int32 → Mm → Option (Int32 × Mm)
  | 0, _, _, _ => none
  | f + 1, a1, a2, m =>
    (if a2 = iI 0 then
      some (a1, m)
    else
      nm (a1 + (iI 1)) fun v1 =>
      nm (a2 &&& (a2 - (iI 1))) fun v2 =>
      F_X9_bitsOf_4  f v1 v2 m)
set_option maxRecDepth 100000 in
set_option maxHeartbeats 4000000 in
theorem t_X9_bitsOf_4 {pp : Program} {ll : Launch} {ee : Env} {ss : State} {mm : MethodId} {aa : Array Value} {bb : List Frame} {me : Method} {co : Code} {cx : CX}     (C : CM pp ss mm aa me co cX9_bitsOf 3 RX9 cx ((some .int)))    : ∀ (f : Nat) (a1 : Int32) (a2 : Int32) (m : Mm), TI pp ll ee rm_X9_bitsOf ss mm aa bb me co 3 cx 4 [(1, .int a1), (2, .int a2)] [] m (F_X9_bitsOf_4  f a1 a2 m) := by
  intro f
  induction f with
  | zero => exact fun _ _ _ => T_none
  | succ f ih =>
    intro a1 a2 m
    unfold F_X9_bitsOf_4
    refine T_iload_n C.1 dX9_bitsOf_4 1 rfl ?_
    refine T_if_eq (tgt := 20) C.1 dX9_bitsOf_5 (by decide) ?_ ?_
    · refine T_iload_n C.1 dX9_bitsOf_20 0 rfl ?_
      exact T_iret C.1 C.2.1 C.2.2 dX9_bitsOf_21
    · refine T_iincN C.1 (fun v1 => [(1, .int v1), (2, .int a2)]) dX9_bitsOf_8 0 rfl (by decide) (fun _ => rfl) (fun v1 => ?_)
      refine T_iload_n C.1 dX9_bitsOf_11 1 rfl ?_
      refine T_iload_n C.1 dX9_bitsOf_12 1 rfl ?_
      refine T_iconst C.1 dX9_bitsOf_13 ?_
      refine T_isub C.1 dX9_bitsOf_14 ?_
      refine T_iand C.1 dX9_bitsOf_15 ?_
      refine T_istore_nN C.1 (fun v2 => [(2, .int v2), (1, .int v1)]) dX9_bitsOf_16 (by decide) (fun _ => rfl) (fun v2 => ?_)
      refine T_goto (tgt := 4) C.1 dX9_bitsOf_17 (by decide) ?_
      exact T_sub [1, 0] rfl (ih v1 v2 m)
def F_X9_bitsOf  (x1 : Int32) (m : Mm) : Option (Int32 × Mm) :=
  F_X9_bitsOf_4 FU (iI 0) x1 m
set_option maxRecDepth 100000 in
set_option maxHeartbeats 4000000 in
theorem c_X9_bitsOf (ll : Launch) (cx : CX) (x1 : Int32) (m : Mm) : MT ll yX9_bitsOf cX9_bitsOf 3 ((some .int)) rm_X9_bitsOf cx NN NN Lay cvI 0 0 [.int x1] m (F_X9_bitsOf x1 m) := by
  refine MT_of (by decide) (Nat.le_of_ble_eq_true rfl) ?_
  intro pp ee ss mm aa bb me co hK hr hk hn
  have C : CM pp ss mm aa me co cX9_bitsOf 3 RX9 cx ((some .int)) := ⟨hK, hr, hk⟩
  show TI pp ll ee rm_X9_bitsOf ss mm aa bb me co 3 cx 0 [(0, .int x1)] [] m (F_X9_bitsOf x1 m)
  unfold F_X9_bitsOf
  refine T_iconst C.1 dX9_bitsOf_0 ?_
  refine T_istore_n (lv' := [(1, .int (iI 0)), (0, .int x1)]) C.1 dX9_bitsOf_1 (by decide) rfl ?_
  refine T_iload_n C.1 dX9_bitsOf_2 1 rfl ?_
  refine T_istore_n (lv' := [(2, .int x1), (1, .int (iI 0)), (0, .int x1)]) C.1 dX9_bitsOf_3 (by decide) rfl ?_
  exact T_sub [1, 0] rfl (t_X9_bitsOf_4 C FU (iI 0) x1 m)
