def rm_X2_guess : Room := { frames := 2, cells := 0, slots := 0, locals := 63 }
def F_X2_guess_19 (t : Nat) : Nat → Int32 → Int32 → Int32 → Int32 → Mm → Option (Int32 × Mm)
  | 0, _, _, _, _, _ => none
  | f + 1, a1, a2, a3, a4, m =>
    (if (gI m 2 0) ≤ a4 then
      (if iI 0 < a2 then
        dvI a3 a2 fun v1 =>
        some (v1, m)
      else
        some ((iI 0), m))
    else
      bnd (F_X4_worthFor a1 a4 m) fun v2 m3 =>
      nm (a3 + v2) fun v4 =>
      nm (a4 + (iI 1)) fun v5 =>
      F_X2_guess_19 t f a1 a2 v4 v5 m3)
set_option maxRecDepth 100000 in
set_option maxHeartbeats 4000000 in
theorem t_X2_guess_19 {wn : Nat} (hn : NN ≤ wn) {pp : Program} {ll : Launch} {ee : Env} {ss : State} {mm : MethodId} {aa : Array Value} {bb : List Frame} {me : Method} {co : Code} {cx : CX}    {t : Nat} (C : CM pp ss mm aa me co cX2_guess 6 RX2 cx ((some .int))) (ht : shp t = (9, 2))   : ∀ (f : Nat) (a1 : Int32) (a2 : Int32) (a3 : Int32) (a4 : Int32) (m : Mm), TI pp ll ee rm_X2_guess ss mm aa bb me co 6 cx wn 19 [(1, .int a1), (2, .ref (cx.2.2.1 + 2)), (3, .int a2), (4, .int a3), (5, .int a4)] [] m (F_X2_guess_19 t f a1 a2 a3 a4 m) := by
  intro f
  induction f with
  | zero => exact fun _ _ _ _ _ => T_none
  | succ f ih =>
    intro a1 a2 a3 a4 m
    unfold F_X2_guess_19
    refine T_iload C.1 dX2_guess_19 4 rfl ?_
    refine T_aload_n C.1 dX2_guess_21 1 rfl ?_
    refine T_getI C.1 fd_X2_57 (fun _ _ _ _ => rfl) sh2 (Nat.le_trans le2 hn) dX2_guess_22 ?_
    refine T_icmp_ge (tgt := 46) C.1 dX2_guess_25 (by decide) ?_ ?_
    · refine T_iload_n C.1 dX2_guess_46 2 rfl ?_
      refine T_if_gt (tgt := 54) C.1 dX2_guess_47 (by decide) ?_ ?_
      · refine T_iload C.1 dX2_guess_54 3 rfl ?_
        refine T_iload_n C.1 dX2_guess_56 2 rfl ?_
        refine T_idiv C.1 dX2_guess_57 (fun v1 => ?_)
        exact T_iret C.1 C.2.1 C.2.2 dX2_guess_58
      · refine T_iconst C.1 dX2_guess_50 ?_
        refine T_goto (tgt := 58) C.1 dX2_guess_51 (by decide) ?_
        exact T_iret C.1 C.2.1 C.2.2 dX2_guess_58
    · refine T_iload C.1 dX2_guess_28 3 rfl ?_
      refine T_aload_n C.1 dX2_guess_30 1 rfl ?_
      refine T_iload_n C.1 dX2_guess_31 0 rfl ?_
      refine T_iload C.1 dX2_guess_32 4 rfl ?_
      refine T_callVI (rm := rm_X4_worthFor) [.int a1, .int a4] [.int a3] C.1 dX2_guess_34 mw_X4_worthFor wm_2_131 wm_2_132 wm_2_133 ⟨Nat.le_of_ble_eq_true rfl, Nat.le_of_ble_eq_true rfl⟩ ⟨rfl, rfl⟩ ⟨Nat.zero_le _, Nat.zero_le _⟩ rfl rfl (Nat.le_of_ble_eq_true rfl) sh2 (Nat.le_trans le2 hn) ⟨rfl, rfl⟩ (c_X4_worthFor hn ll cx a1 a4 m) (fun v2 m3 => ?_)
      refine T_iadd C.1 dX2_guess_37 ?_
      refine T_istoreN C.1 (fun v4 => [(4, .int v4), (1, .int a1), (2, .ref (cx.2.2.1 + 2)), (3, .int a2), (5, .int a4)]) dX2_guess_38 (by decide) (fun _ => rfl) (fun v4 => ?_)
      refine T_iincN C.1 (fun v5 => [(5, .int v5), (4, .int v4), (1, .int a1), (2, .ref (cx.2.2.1 + 2)), (3, .int a2)]) dX2_guess_40 4 rfl (by decide) (fun _ => rfl) (fun v5 => ?_)
      refine T_goto (tgt := 19) C.1 dX2_guess_43 (by decide) ?_
      exact T_sub [2, 3, 4, 1, 0] rfl (ih a1 a2 v4 v5 m3)
def F_X2_guess  (t : Nat) (x1 : Int32) (m : Mm) : Option (Int32 × Mm) :=
  (if shp t = (9, 2) then
    nm ((gI m 2 0) - (gI m t 4)) fun v1 =>
    nm (gI m t 4) fun v2 =>
    F_X2_guess_19 t FU x1 v1 (iI 0) v2 m
  else none)
set_option maxRecDepth 100000 in
set_option maxHeartbeats 4000000 in
theorem c_X2_guess {wn : Nat} (hn : NN ≤ wn) (ll : Launch) (cx : CX) (t : Nat) (x1 : Int32) (m : Mm) : MT ll yX2_guess cX2_guess 6 ((some .int)) rm_X2_guess cx wn wn Lay cvI 0 0 [.ref (cx.2.2.1 + t), .int x1, .ref (cx.2.2.1 + 2)] m (F_X2_guess t x1 m) := by
  refine MT_of (by decide) (Nat.le_of_ble_eq_true rfl) ?_
  intro pp ee ss mm aa bb me co hK hr hk hn0
  have C : CM pp ss mm aa me co cX2_guess 6 RX2 cx ((some .int)) := ⟨hK, hr, hk⟩
  show TI pp ll ee rm_X2_guess ss mm aa bb me co 6 cx wn 0 [(0, .ref (cx.2.2.1 + t)), (1, .int x1), (2, .ref (cx.2.2.1 + 2))] [] m (F_X2_guess t x1 m)
  unfold F_X2_guess
  refine T_if (fun ht => ?_) (fun _ => T_none)
  refine T_aload_n C.1 dX2_guess_0 2 rfl ?_
  refine T_getI C.1 fd_X2_57 (fun _ _ _ _ => rfl) sh2 (Nat.le_trans le2 hn) dX2_guess_1 ?_
  refine T_aload_n C.1 dX2_guess_4 0 rfl ?_
  refine T_getI C.1 fd_X2_24 (fun _ _ _ _ => rfl) ht (Nat.le_trans (shp_le ht (by decide)) hn) dX2_guess_5 ?_
  refine T_isub C.1 dX2_guess_8 ?_
  refine T_istore_nN C.1 (fun v1 => [(3, .int v1), (0, .ref (cx.2.2.1 + t)), (1, .int x1), (2, .ref (cx.2.2.1 + 2))]) dX2_guess_9 (by decide) (fun _ => rfl) (fun v1 => ?_)
  refine T_iconst C.1 dX2_guess_10 ?_
  refine T_istore (lv' := [(4, .int (iI 0)), (3, .int v1), (0, .ref (cx.2.2.1 + t)), (1, .int x1), (2, .ref (cx.2.2.1 + 2))]) C.1 dX2_guess_11 (by decide) rfl ?_
  refine T_aload_n C.1 dX2_guess_13 2 rfl ?_
  refine T_getI C.1 fd_X2_24 (fun _ _ _ _ => rfl) ht (Nat.le_trans (shp_le ht (by decide)) hn) dX2_guess_14 ?_
  refine T_istoreN C.1 (fun v2 => [(5, .int v2), (4, .int (iI 0)), (3, .int v1), (0, .ref (cx.2.2.1 + t)), (1, .int x1), (2, .ref (cx.2.2.1 + 2))]) dX2_guess_17 (by decide) (fun _ => rfl) (fun v2 => ?_)
  exact T_sub [4, 5, 2, 1, 0] rfl (t_X2_guess_19 hn C ht FU x1 v1 (iI 0) v2 m)
def rm_X3_joined : Room := { frames := 1, cells := 0, slots := 0, locals := 40 }
def F_X3_joined_92   (m : Mm) : Option (Int32 × Mm) :=
  some ((iI 1), m)
set_option maxRecDepth 100000 in
set_option maxHeartbeats 4000000 in
theorem t_X3_joined_92 {wn : Nat} (hn : NN ≤ wn) {pp : Program} {ll : Launch} {ee : Env} {ss : State} {mm : MethodId} {aa : Array Value} {bb : List Frame} {me : Method} {co : Code} {cx : CX}     (C : CM pp ss mm aa me co cX3_joined 3 RX3 cx ((some .int)))     (m : Mm) : TI pp ll ee rm_X3_joined ss mm aa bb me co 3 cx wn 92 [] [] m (F_X3_joined_92  m) := by
  unfold F_X3_joined_92
  refine T_iconst C.1 dX3_joined_92 ?_
  refine T_goto (tgt := 97) C.1 dX3_joined_93 (by decide) ?_
  exact T_iret C.1 C.2.1 C.2.2 dX3_joined_97
def F_X3_joined  (x1 : Int32) (x2 : Int32) (x3 : Int32) (m : Mm) : Option (Int32 × Mm) :=
  lsw x1 [(38, (if x2 = iI 0 then
    some ((iI 0), m)
  else
    (if x3 = iI 0 then
      some ((iI 0), m)
    else
      some ((iI 1), m)))),
   (42, some ((x2 * x3), m)),
   (43, some ((x2 + x3), m)),
   (45, some ((x2 - x3), m)),
   (47, (if x3 = iI 0 then
    some ((iI 0), m)
  else
    dvI x2 x3 fun v1 =>
    some (v1, m))),
   (60, (if x3 ≤ x2 then
    some ((iI 0), m)
  else
    some ((iI 1), m))),
   (61, (if x2 = x3 then
    some ((iI 1), m)
  else
    some ((iI 0), m))),
   (62, (if x2 ≤ x3 then
    some ((iI 0), m)
  else
    some ((iI 1), m))),
   (124, (if x2 = iI 0 then
    (if x3 = iI 0 then
      some ((iI 0), m)
    else
      F_X3_joined_92 m)
  else
    F_X3_joined_92 m))] ((if x3 = iI 0 then
    some ((iI 0), m)
  else
    rmI x2 x3 fun v2 =>
    some (v2, m)))
set_option maxRecDepth 100000 in
set_option maxHeartbeats 4000000 in
theorem c_X3_joined {wn : Nat} (hn : NN ≤ wn) (ll : Launch) (cx : CX) (x1 : Int32) (x2 : Int32) (x3 : Int32) (m : Mm) : MT ll yX3_joined cX3_joined 3 ((some .int)) rm_X3_joined cx wn wn Lay cvI 0 0 [.int x1, .int x2, .int x3] m (F_X3_joined x1 x2 x3 m) := by
  refine MT_of (by decide) (Nat.le_of_ble_eq_true rfl) ?_
  intro pp ee ss mm aa bb me co hK hr hk hn0
  have C : CM pp ss mm aa me co cX3_joined 3 RX3 cx ((some .int)) := ⟨hK, hr, hk⟩
  show TI pp ll ee rm_X3_joined ss mm aa bb me co 3 cx wn 0 [(0, .int x1), (1, .int x2), (2, .int x3)] [] m (F_X3_joined x1 x2 x3 m)
  unfold F_X3_joined
  refine T_iload_n C.1 dX3_joined_0 0 rfl ?_
  refine T_lsw (os := [(38, 97), (42, 152), (43, 144), (45, 148), (47, 156), (60, 111), (61, 122), (62, 133), (124, 83)]) C.1 dX3_joined_1 rfl (by decide) (tgd := 169) (by decide) ⟨rfl, ⟨98, by decide, ?_⟩, rfl, ⟨153, by decide, ?_⟩, rfl, ⟨145, by decide, ?_⟩, rfl, ⟨149, by decide, ?_⟩, rfl, ⟨157, by decide, ?_⟩, rfl, ⟨112, by decide, ?_⟩, rfl, ⟨123, by decide, ?_⟩, rfl, ⟨134, by decide, ?_⟩, rfl, ⟨84, by decide, ?_⟩, trivial⟩ ?_
  · show TI pp ll ee rm_X3_joined ss mm aa bb me co 3 cx wn _ _ _ _ _
    refine T_iload_n C.1 dX3_joined_98 1 rfl ?_
    refine T_if_eq (tgt := 110) C.1 dX3_joined_99 (by decide) ?_ ?_
    · refine T_iconst C.1 dX3_joined_110 ?_
      exact T_iret C.1 C.2.1 C.2.2 dX3_joined_111
    · refine T_iload_n C.1 dX3_joined_102 2 rfl ?_
      refine T_if_eq (tgt := 110) C.1 dX3_joined_103 (by decide) ?_ ?_
      · refine T_iconst C.1 dX3_joined_110 ?_
        exact T_iret C.1 C.2.1 C.2.2 dX3_joined_111
      · refine T_iconst C.1 dX3_joined_106 ?_
        refine T_goto (tgt := 111) C.1 dX3_joined_107 (by decide) ?_
        exact T_iret C.1 C.2.1 C.2.2 dX3_joined_111
  · show TI pp ll ee rm_X3_joined ss mm aa bb me co 3 cx wn _ _ _ _ _
    refine T_iload_n C.1 dX3_joined_153 1 rfl ?_
    refine T_iload_n C.1 dX3_joined_154 2 rfl ?_
    refine T_imul C.1 dX3_joined_155 ?_
    exact T_iret C.1 C.2.1 C.2.2 dX3_joined_156
  · show TI pp ll ee rm_X3_joined ss mm aa bb me co 3 cx wn _ _ _ _ _
    refine T_iload_n C.1 dX3_joined_145 1 rfl ?_
    refine T_iload_n C.1 dX3_joined_146 2 rfl ?_
    refine T_iadd C.1 dX3_joined_147 ?_
    exact T_iret C.1 C.2.1 C.2.2 dX3_joined_148
  · show TI pp ll ee rm_X3_joined ss mm aa bb me co 3 cx wn _ _ _ _ _
    refine T_iload_n C.1 dX3_joined_149 1 rfl ?_
    refine T_iload_n C.1 dX3_joined_150 2 rfl ?_
    refine T_isub C.1 dX3_joined_151 ?_
    exact T_iret C.1 C.2.1 C.2.2 dX3_joined_152
  · show TI pp ll ee rm_X3_joined ss mm aa bb me co 3 cx wn _ _ _ _ _
    refine T_iload_n C.1 dX3_joined_157 2 rfl ?_
    refine T_if_ne (tgt := 165) C.1 dX3_joined_158 (by decide) ?_ ?_
    · refine T_iload_n C.1 dX3_joined_165 1 rfl ?_
      refine T_iload_n C.1 dX3_joined_166 2 rfl ?_
      refine T_idiv C.1 dX3_joined_167 (fun v1 => ?_)
      exact T_iret C.1 C.2.1 C.2.2 dX3_joined_168
    · refine T_iconst C.1 dX3_joined_161 ?_
      refine T_goto (tgt := 168) C.1 dX3_joined_162 (by decide) ?_
      exact T_iret C.1 C.2.1 C.2.2 dX3_joined_168
  · show TI pp ll ee rm_X3_joined ss mm aa bb me co 3 cx wn _ _ _ _ _
    refine T_iload_n C.1 dX3_joined_112 1 rfl ?_
    refine T_iload_n C.1 dX3_joined_113 2 rfl ?_
    refine T_icmp_ge (tgt := 121) C.1 dX3_joined_114 (by decide) ?_ ?_
    · refine T_iconst C.1 dX3_joined_121 ?_
      exact T_iret C.1 C.2.1 C.2.2 dX3_joined_122
    · refine T_iconst C.1 dX3_joined_117 ?_
      refine T_goto (tgt := 122) C.1 dX3_joined_118 (by decide) ?_
      exact T_iret C.1 C.2.1 C.2.2 dX3_joined_122
  · show TI pp ll ee rm_X3_joined ss mm aa bb me co 3 cx wn _ _ _ _ _
    refine T_iload_n C.1 dX3_joined_123 1 rfl ?_
    refine T_iload_n C.1 dX3_joined_124 2 rfl ?_
    refine T_icmp_ne (tgt := 132) C.1 dX3_joined_125 (by decide) ?_ ?_
    · refine T_iconst C.1 dX3_joined_132 ?_
      exact T_iret C.1 C.2.1 C.2.2 dX3_joined_133
    · refine T_iconst C.1 dX3_joined_128 ?_
      refine T_goto (tgt := 133) C.1 dX3_joined_129 (by decide) ?_
      exact T_iret C.1 C.2.1 C.2.2 dX3_joined_133
  · show TI pp ll ee rm_X3_joined ss mm aa bb me co 3 cx wn _ _ _ _ _
    refine T_iload_n C.1 dX3_joined_134 1 rfl ?_
    refine T_iload_n C.1 dX3_joined_135 2 rfl ?_
    refine T_icmp_le (tgt := 143) C.1 dX3_joined_136 (by decide) ?_ ?_
    · refine T_iconst C.1 dX3_joined_143 ?_
      exact T_iret C.1 C.2.1 C.2.2 dX3_joined_144
    · refine T_iconst C.1 dX3_joined_139 ?_
      refine T_goto (tgt := 144) C.1 dX3_joined_140 (by decide) ?_
      exact T_iret C.1 C.2.1 C.2.2 dX3_joined_144
  · show TI pp ll ee rm_X3_joined ss mm aa bb me co 3 cx wn _ _ _ _ _
    refine T_iload_n C.1 dX3_joined_84 1 rfl ?_
    refine T_if_ne (tgt := 92) C.1 dX3_joined_85 (by decide) ?_ ?_
    · exact T_sub [] rfl (t_X3_joined_92 hn C m)
    · refine T_iload_n C.1 dX3_joined_88 2 rfl ?_
      refine T_if_eq (tgt := 96) C.1 dX3_joined_89 (by decide) ?_ ?_
      · refine T_iconst C.1 dX3_joined_96 ?_
        exact T_iret C.1 C.2.1 C.2.2 dX3_joined_97
      · exact T_sub [] rfl (t_X3_joined_92 hn C m)
  · show TI pp ll ee rm_X3_joined ss mm aa bb me co 3 cx wn _ _ _ _ _
    refine T_iload_n C.1 dX3_joined_169 2 rfl ?_
    refine T_if_ne (tgt := 177) C.1 dX3_joined_170 (by decide) ?_ ?_
    · refine T_iload_n C.1 dX3_joined_177 1 rfl ?_
      refine T_iload_n C.1 dX3_joined_178 2 rfl ?_
      refine T_irem C.1 dX3_joined_179 (fun v2 => ?_)
      exact T_iret C.1 C.2.1 C.2.2 dX3_joined_180
    · refine T_iconst C.1 dX3_joined_173 ?_
      refine T_goto (tgt := 180) C.1 dX3_joined_174 (by decide) ?_
      exact T_iret C.1 C.2.1 C.2.2 dX3_joined_180
def rm_X3_number : Room := { frames := 2, cells := 0, slots := 0, locals := 62 }
def F_X3_number_371 (k_51 : Int32 → Int32 → Mm → Option (Int32 × Mm)) (t : Nat) (a1 : Int32) (a2 : Int32) (m : Mm) : Option (Int32 × Mm) :=
  nm (a2 + (iI 1)) fun v1 =>
  k_51 a1 v1 m
set_option maxRecDepth 100000 in
set_option maxHeartbeats 4000000 in
theorem t_X3_number_371 {wn : Nat} (hn : NN ≤ wn) {pp : Program} {ll : Launch} {ee : Env} {ss : State} {mm : MethodId} {aa : Array Value} {bb : List Frame} {me : Method} {co : Code} {cx : CX}  {k_51 : Int32 → Int32 → Mm → Option (Int32 × Mm)}  {t : Nat} (C : CM pp ss mm aa me co cX3_number 10 RX3 cx ((some .int))) (ht : shp t = (9, 3))  (hk_51 : ∀ (a1 : Int32) (a2 : Int32) (m : Mm), TI pp ll ee rm_X3_number ss mm aa bb me co 10 cx wn 51 [(0, .ref (cx.2.2.1 + t)), (7, .int a1), (8, .int a2)] [] m (k_51 a1 a2 m)) (a1 : Int32) (a2 : Int32) (m : Mm) : TI pp ll ee rm_X3_number ss mm aa bb me co 10 cx wn 371 [(0, .ref (cx.2.2.1 + t)), (7, .int a1), (8, .int a2)] [] m (F_X3_number_371 k_51 t a1 a2 m) := by
  unfold F_X3_number_371
  refine T_iincN C.1 (fun v1 => [(8, .int v1), (0, .ref (cx.2.2.1 + t)), (7, .int a1)]) dX3_number_371 2 rfl (by decide) (fun _ => rfl) (fun v1 => ?_)
  refine T_goto (tgt := 51) C.1 dX3_number_374 (by decide) ?_
  exact T_sub [1, 2, 0] rfl (hk_51 a1 v1 m)
def F_X3_number_292 (k_51 : Int32 → Int32 → Mm → Option (Int32 × Mm)) (t : Nat) (a1 : Int32) (a2 : Int32) (a3 : Int32) (a4 : Int32) (m : Mm) : Option (Int32 × Mm) :=
  wrI 121 m (t + 3) a4 a3 fun m1 =>
  F_X3_number_371 (k_51) t a1 a2 m1
set_option maxRecDepth 100000 in
set_option maxHeartbeats 4000000 in
theorem t_X3_number_292 {wn : Nat} (hn : NN ≤ wn) {pp : Program} {ll : Launch} {ee : Env} {ss : State} {mm : MethodId} {aa : Array Value} {bb : List Frame} {me : Method} {co : Code} {cx : CX}  {k_51 : Int32 → Int32 → Mm → Option (Int32 × Mm)}  {t : Nat} (C : CM pp ss mm aa me co cX3_number 10 RX3 cx ((some .int))) (ht : shp t = (9, 3))  (hk_51 : ∀ (a1 : Int32) (a2 : Int32) (m : Mm), TI pp ll ee rm_X3_number ss mm aa bb me co 10 cx wn 51 [(0, .ref (cx.2.2.1 + t)), (7, .int a1), (8, .int a2)] [] m (k_51 a1 a2 m)) (a1 : Int32) (a2 : Int32) (a3 : Int32) (a4 : Int32) (m : Mm) : TI pp ll ee rm_X3_number ss mm aa bb me co 10 cx wn 292 [(0, .ref (cx.2.2.1 + t)), (7, .int a1), (8, .int a2)] [.int a3, .int a4, .ref (cx.2.2.1 + (t + 3))] m (F_X3_number_292 k_51 t a1 a2 a3 a4 m) := by
  unfold F_X3_number_292
  refine T_iast C.1 LyI_Lay (shr_3_3 ht) (Nat.le_trans (shp_le (shr_3_3 ht) (by decide)) hn) dX3_number_292 (fun m1 => ?_)
  refine T_goto (tgt := 371) C.1 dX3_number_293 (by decide) ?_
  exact T_sub [0, 1, 2] rfl (t_X3_number_371 hn C ht (hk_51) a1 a2 m1)
def F_X3_number_252 (k_51 : Int32 → Int32 → Mm → Option (Int32 × Mm)) (t : Nat) (a1 : Int32) (a2 : Int32) (a3 : Int32) (a4 : Int32) (m : Mm) : Option (Int32 × Mm) :=
  wrI 121 m (t + 3) a4 a3 fun m1 =>
  nm (a1 + (iI 1)) fun v2 =>
  F_X3_number_371 (k_51) t v2 a2 m1
set_option maxRecDepth 100000 in
set_option maxHeartbeats 4000000 in
theorem t_X3_number_252 {wn : Nat} (hn : NN ≤ wn) {pp : Program} {ll : Launch} {ee : Env} {ss : State} {mm : MethodId} {aa : Array Value} {bb : List Frame} {me : Method} {co : Code} {cx : CX}  {k_51 : Int32 → Int32 → Mm → Option (Int32 × Mm)}  {t : Nat} (C : CM pp ss mm aa me co cX3_number 10 RX3 cx ((some .int))) (ht : shp t = (9, 3))  (hk_51 : ∀ (a1 : Int32) (a2 : Int32) (m : Mm), TI pp ll ee rm_X3_number ss mm aa bb me co 10 cx wn 51 [(0, .ref (cx.2.2.1 + t)), (7, .int a1), (8, .int a2)] [] m (k_51 a1 a2 m)) (a1 : Int32) (a2 : Int32) (a3 : Int32) (a4 : Int32) (m : Mm) : TI pp ll ee rm_X3_number ss mm aa bb me co 10 cx wn 252 [(0, .ref (cx.2.2.1 + t)), (7, .int a1), (8, .int a2)] [.int a3, .int a4, .ref (cx.2.2.1 + (t + 3))] m (F_X3_number_252 k_51 t a1 a2 a3 a4 m) := by
  unfold F_X3_number_252
  refine T_iast C.1 LyI_Lay (shr_3_3 ht) (Nat.le_trans (shp_le (shr_3_3 ht) (by decide)) hn) dX3_number_252 (fun m1 => ?_)
  refine T_iincN C.1 (fun v2 => [(7, .int v2), (0, .ref (cx.2.2.1 + t)), (8, .int a2)]) dX3_number_253 1 rfl (by decide) (fun _ => rfl) (fun v2 => ?_)
  refine T_goto (tgt := 371) C.1 dX3_number_256 (by decide) ?_
  exact T_sub [1, 0, 2] rfl (t_X3_number_371 hn C ht (hk_51) v2 a2 m1)
def F_X3_number_251 (k_51 : Int32 → Int32 → Mm → Option (Int32 × Mm)) (t : Nat) (a1 : Int32) (a2 : Int32) (a3 : Int32) (m : Mm) : Option (Int32 × Mm) :=
  F_X3_number_252 (k_51) t a1 a2 (iI 0) a3 m
set_option maxRecDepth 100000 in
set_option maxHeartbeats 4000000 in
theorem t_X3_number_251 {wn : Nat} (hn : NN ≤ wn) {pp : Program} {ll : Launch} {ee : Env} {ss : State} {mm : MethodId} {aa : Array Value} {bb : List Frame} {me : Method} {co : Code} {cx : CX}  {k_51 : Int32 → Int32 → Mm → Option (Int32 × Mm)}  {t : Nat} (C : CM pp ss mm aa me co cX3_number 10 RX3 cx ((some .int))) (ht : shp t = (9, 3))  (hk_51 : ∀ (a1 : Int32) (a2 : Int32) (m : Mm), TI pp ll ee rm_X3_number ss mm aa bb me co 10 cx wn 51 [(0, .ref (cx.2.2.1 + t)), (7, .int a1), (8, .int a2)] [] m (k_51 a1 a2 m)) (a1 : Int32) (a2 : Int32) (a3 : Int32) (m : Mm) : TI pp ll ee rm_X3_number ss mm aa bb me co 10 cx wn 251 [(0, .ref (cx.2.2.1 + t)), (7, .int a1), (8, .int a2)] [.int a3, .ref (cx.2.2.1 + (t + 3))] m (F_X3_number_251 k_51 t a1 a2 a3 m) := by
  unfold F_X3_number_251
  refine T_iconst C.1 dX3_number_251 ?_
  exact T_sub [0, 1, 2] rfl (t_X3_number_252 hn C ht (hk_51) a1 a2 (iI 0) a3 m)
def F_X3_number_200 (k_51 : Int32 → Int32 → Mm → Option (Int32 × Mm)) (t : Nat) (a1 : Int32) (m : Mm) : Option (Int32 × Mm) :=
  F_X3_number_371 (k_51) t (iI 0) a1 m
set_option maxRecDepth 100000 in
set_option maxHeartbeats 4000000 in
theorem t_X3_number_200 {wn : Nat} (hn : NN ≤ wn) {pp : Program} {ll : Launch} {ee : Env} {ss : State} {mm : MethodId} {aa : Array Value} {bb : List Frame} {me : Method} {co : Code} {cx : CX}  {k_51 : Int32 → Int32 → Mm → Option (Int32 × Mm)}  {t : Nat} (C : CM pp ss mm aa me co cX3_number 10 RX3 cx ((some .int))) (ht : shp t = (9, 3))  (hk_51 : ∀ (a1 : Int32) (a2 : Int32) (m : Mm), TI pp ll ee rm_X3_number ss mm aa bb me co 10 cx wn 51 [(0, .ref (cx.2.2.1 + t)), (7, .int a1), (8, .int a2)] [] m (k_51 a1 a2 m)) (a1 : Int32) (m : Mm) : TI pp ll ee rm_X3_number ss mm aa bb me co 10 cx wn 200 [(0, .ref (cx.2.2.1 + t))] [.int a1] m (F_X3_number_200 k_51 t a1 m) := by
  unfold F_X3_number_200
  refine T_istore (lv' := [(8, .int a1), (0, .ref (cx.2.2.1 + t))]) C.1 dX3_number_200 (by decide) rfl ?_
  refine T_iconst C.1 dX3_number_202 ?_
  refine T_istore (lv' := [(7, .int (iI 0)), (8, .int a1), (0, .ref (cx.2.2.1 + t))]) C.1 dX3_number_203 (by decide) rfl ?_
  refine T_goto (tgt := 371) C.1 dX3_number_205 (by decide) ?_
  exact T_sub [2, 0, 1] rfl (t_X3_number_371 hn C ht (hk_51) (iI 0) a1 m)
def F_X3_number_198 (k_51 : Int32 → Int32 → Mm → Option (Int32 × Mm)) (t : Nat) (a1 : Int32) (m : Mm) : Option (Int32 × Mm) :=
  F_X3_number_200 (k_51) t a1 m
set_option maxRecDepth 100000 in
set_option maxHeartbeats 4000000 in
theorem t_X3_number_198 {wn : Nat} (hn : NN ≤ wn) {pp : Program} {ll : Launch} {ee : Env} {ss : State} {mm : MethodId} {aa : Array Value} {bb : List Frame} {me : Method} {co : Code} {cx : CX}  {k_51 : Int32 → Int32 → Mm → Option (Int32 × Mm)}  {t : Nat} (C : CM pp ss mm aa me co cX3_number 10 RX3 cx ((some .int))) (ht : shp t = (9, 3))  (hk_51 : ∀ (a1 : Int32) (a2 : Int32) (m : Mm), TI pp ll ee rm_X3_number ss mm aa bb me co 10 cx wn 51 [(0, .ref (cx.2.2.1 + t)), (7, .int a1), (8, .int a2)] [] m (k_51 a1 a2 m)) (a1 : Int32) (m : Mm) : TI pp ll ee rm_X3_number ss mm aa bb me co 10 cx wn 198 [(0, .ref (cx.2.2.1 + t)), (8, .int a1)] [] m (F_X3_number_198 k_51 t a1 m) := by
  unfold F_X3_number_198
  refine T_iload C.1 dX3_number_198 1 rfl ?_
  exact T_sub [0] rfl (t_X3_number_200 hn C ht (hk_51) a1 m)
def F_X3_number_51 (t : Nat) : Nat → Int32 → Int32 → Mm → Option (Int32 × Mm)
  | 0, _, _, _ => none
  | f + 1, a1, a2, m =>
    (if (gI m t 2) ≤ a2 then
      some ((iI 0), m)
    else
      (if (iI 121) ≤ a2 then
        some ((iI 0), m)
      else
        (if (iI 121) ≤ a1 then
          some ((iI 0), m)
        else
          rd 121 a2 fun j1 =>
          nm (gI m (t + 2) j1) fun v2 =>
          rd 121 a2 fun j3 =>
          lsw (gI m (t + 1) j3) [(33, nm (mxI a1 (iI 1)) fun v4 =>
          rd 121 (v4 - (iI 1)) fun j5 =>
          (if (gI m (t + 3) j5) = iI 0 then
            F_X3_number_292 (F_X3_number_51 t f) t v4 a2 (iI 1) (v4 - (iI 1)) m
          else
            F_X3_number_292 (F_X3_number_51 t f) t v4 a2 (iI 0) (v4 - (iI 1)) m)),
           (35, wrI 121 m (t + 3) a1 v2 fun m6 =>
          nm (a1 + (iI 1)) fun v7 =>
          F_X3_number_371 (F_X3_number_51 t f) t v7 a2 m6),
           (36, (if v2 < iI 0 then
            F_X3_number_251 (F_X3_number_51 t f) t a1 a2 a1 m
          else
            (if (iI 6) ≤ v2 then
              F_X3_number_251 (F_X3_number_51 t f) t a1 a2 a1 m
            else
              rd 6 v2 fun j8 =>
              F_X3_number_252 (F_X3_number_51 t f) t a1 a2 (gI m (t + 4) j8) a1 m))),
           (59, (if (iI 1) ≤ a1 then
            rd 121 (a1 - (iI 1)) fun j9 =>
            some ((gI m (t + 3) j9), m)
          else
            some ((iI 0), m))),
           (63, (if a1 < (iI 1) then
            F_X3_number_198 (F_X3_number_51 t f) t a2 m
          else
            rd 121 (a1 - (iI 1)) fun j10 =>
            (if (gI m (t + 3) j10) = iI 0 then
              (if v2 ≤ a2 then
                F_X3_number_198 (F_X3_number_51 t f) t a2 m
              else
                F_X3_number_200 (F_X3_number_51 t f) t v2 m)
            else
              F_X3_number_198 (F_X3_number_51 t f) t a2 m))),
           (126, nm (mxI a1 (iI 1)) fun v11 =>
          rd 121 (v11 - (iI 1)) fun j12 =>
          wrI 121 m (t + 3) (v11 - (iI 1)) (-(gI m (t + 3) j12)) fun m13 =>
          F_X3_number_371 (F_X3_number_51 t f) t v11 a2 m13)] (nm (mxI (a1 - (iI 1)) (iI 1)) fun v14 =>
          rd 121 a2 fun j15 =>
          rd 121 (v14 - (iI 1)) fun j16 =>
          rd 121 v14 fun j17 =>
          bnd (F_X3_joined (gI m (t + 1) j15) (gI m (t + 3) j16) (gI m (t + 3) j17) m) fun v18 m19 =>
          wrI 121 m19 (t + 3) (v14 - (iI 1)) v18 fun m20 =>
          F_X3_number_371 (F_X3_number_51 t f) t v14 a2 m20))))
set_option maxRecDepth 100000 in
set_option maxHeartbeats 4000000 in
theorem t_X3_number_51 {wn : Nat} (hn : NN ≤ wn) {pp : Program} {ll : Launch} {ee : Env} {ss : State} {mm : MethodId} {aa : Array Value} {bb : List Frame} {me : Method} {co : Code} {cx : CX}    {t : Nat} (C : CM pp ss mm aa me co cX3_number 10 RX3 cx ((some .int))) (ht : shp t = (9, 3))   : ∀ (f : Nat) (a1 : Int32) (a2 : Int32) (m : Mm), TI pp ll ee rm_X3_number ss mm aa bb me co 10 cx wn 51 [(0, .ref (cx.2.2.1 + t)), (7, .int a1), (8, .int a2)] [] m (F_X3_number_51 t f a1 a2 m) := by
  intro f
  induction f with
  | zero => exact fun _ _ _ => T_none
  | succ f ih =>
    intro a1 a2 m
    unfold F_X3_number_51
    refine T_iload C.1 dX3_number_51 2 rfl ?_
    refine T_aload_n C.1 dX3_number_53 0 rfl ?_
    refine T_getI C.1 fd_X3_19 (fun _ _ _ _ => rfl) ht (Nat.le_trans (shp_le ht (by decide)) hn) dX3_number_54 ?_
    refine T_icmp_ge (tgt := 377) C.1 dX3_number_57 (by decide) ?_ ?_
    · refine T_iconst C.1 dX3_number_377 ?_
      exact T_iret C.1 C.2.1 C.2.2 dX3_number_378
    · refine T_iload C.1 dX3_number_60 2 rfl ?_
      refine T_bipush C.1 dX3_number_62 rfl ?_
      refine T_icmp_ge (tgt := 377) C.1 dX3_number_64 (by decide) ?_ ?_
      · refine T_iconst C.1 dX3_number_377 ?_
        exact T_iret C.1 C.2.1 C.2.2 dX3_number_378
      · refine T_iload C.1 dX3_number_67 1 rfl ?_
        refine T_bipush C.1 dX3_number_69 rfl ?_
        refine T_icmp_ge (tgt := 377) C.1 dX3_number_71 (by decide) ?_ ?_
        · refine T_iconst C.1 dX3_number_377 ?_
          exact T_iret C.1 C.2.1 C.2.2 dX3_number_378
        · refine T_aload_n C.1 dX3_number_74 0 rfl ?_
          refine T_getR (x := (t + 2)) C.1 fd_X3_15 (fun _ _ _ _ => rfl) ht (Nat.le_trans (shp_le ht (by decide)) hn) (fun _ h => h) rfl (Nat.succ_ne_zero _) dX3_number_75 ?_
          refine T_iload C.1 dX3_number_78 2 rfl ?_
          refine T_iald C.1 dX3_number_80 (shr_3_2 ht) (Nat.le_trans (shp_le (shr_3_2 ht) (by decide)) hn) (fun j1 => ?_)
          refine T_istoreN C.1 (fun v2 => [(9, .int v2), (0, .ref (cx.2.2.1 + t)), (7, .int a1), (8, .int a2)]) dX3_number_81 (by decide) (fun _ => rfl) (fun v2 => ?_)
          refine T_aload_n C.1 dX3_number_83 1 rfl ?_
          refine T_getR (x := (t + 1)) C.1 fd_X3_11 (fun _ _ _ _ => rfl) ht (Nat.le_trans (shp_le ht (by decide)) hn) (fun _ h => h) rfl (Nat.succ_ne_zero _) dX3_number_84 ?_
          refine T_iload C.1 dX3_number_87 3 rfl ?_
          refine T_cald C.1 dX3_number_89 (shr_3_1 ht) (Nat.le_trans (shp_le (shr_3_1 ht) (by decide)) hn) (fun j3 => ?_)
          refine T_lsw (os := [(33, 169), (35, 118), (36, 133), (59, 58), (63, 78), (126, 206)]) C.1 dX3_number_90 rfl (by decide) (tgd := 326) (by decide) ⟨rfl, ⟨259, by decide, ?_⟩, rfl, ⟨208, by decide, ?_⟩, rfl, ⟨223, by decide, ?_⟩, rfl, ⟨148, by decide, ?_⟩, rfl, ⟨168, by decide, ?_⟩, rfl, ⟨296, by decide, ?_⟩, trivial⟩ ?_
          · show TI pp ll ee rm_X3_number ss mm aa bb me co 10 cx wn _ _ _ _ _
            refine T_iload C.1 dX3_number_259 2 rfl ?_
            refine T_iconst C.1 dX3_number_261 ?_
            refine T_mmax C.1 dX3_number_262 wm_2_139 wx_mmax_1 wx_math wx_mmax_2 (Nat.le_of_ble_eq_true rfl) (Nat.le_of_ble_eq_true rfl) ⟨Nat.zero_le _, Nat.zero_le _⟩ ?_
            refine T_istoreN C.1 (fun v4 => [(7, .int v4), (9, .int v2), (0, .ref (cx.2.2.1 + t)), (8, .int a2)]) dX3_number_265 (by decide) (fun _ => rfl) (fun v4 => ?_)
            refine T_aload_n C.1 dX3_number_267 2 rfl ?_
            refine T_getR (x := (t + 3)) C.1 fd_X3_26 (fun _ _ _ _ => rfl) ht (Nat.le_trans (shp_le ht (by decide)) hn) (fun _ h => h) rfl (Nat.succ_ne_zero _) dX3_number_268 ?_
            refine T_iload C.1 dX3_number_271 0 rfl ?_
            refine T_iconst C.1 dX3_number_273 ?_
            refine T_isub C.1 dX3_number_274 ?_
            refine T_aload_n C.1 dX3_number_275 2 rfl ?_
            refine T_getR (x := (t + 3)) C.1 fd_X3_26 (fun _ _ _ _ => rfl) ht (Nat.le_trans (shp_le ht (by decide)) hn) (fun _ h => h) rfl (Nat.succ_ne_zero _) dX3_number_276 ?_
            refine T_iload C.1 dX3_number_279 0 rfl ?_
            refine T_iconst C.1 dX3_number_281 ?_
            refine T_isub C.1 dX3_number_282 ?_
            refine T_iald C.1 dX3_number_283 (shr_3_3 ht) (Nat.le_trans (shp_le (shr_3_3 ht) (by decide)) hn) (fun j5 => ?_)
            refine T_if_ne (tgt := 291) C.1 dX3_number_284 (by decide) ?_ ?_
            · refine T_iconst C.1 dX3_number_291 ?_
              exact T_sub [2, 0, 3] rfl (t_X3_number_292 hn C ht (ih) v4 a2 (iI 0) (v4 - (iI 1)) m)
            · refine T_iconst C.1 dX3_number_287 ?_
              refine T_goto (tgt := 292) C.1 dX3_number_288 (by decide) ?_
              exact T_sub [2, 0, 3] rfl (t_X3_number_292 hn C ht (ih) v4 a2 (iI 1) (v4 - (iI 1)) m)
          · show TI pp ll ee rm_X3_number ss mm aa bb me co 10 cx wn _ _ _ _ _
            refine T_aload_n C.1 dX3_number_208 1 rfl ?_
            refine T_getR (x := (t + 3)) C.1 fd_X3_26 (fun _ _ _ _ => rfl) ht (Nat.le_trans (shp_le ht (by decide)) hn) (fun _ h => h) rfl (Nat.succ_ne_zero _) dX3_number_209 ?_
            refine T_iload C.1 dX3_number_212 2 rfl ?_
            refine T_iload C.1 dX3_number_214 0 rfl ?_
            refine T_iast C.1 LyI_Lay (shr_3_3 ht) (Nat.le_trans (shp_le (shr_3_3 ht) (by decide)) hn) dX3_number_216 (fun m6 => ?_)
            refine T_iincN C.1 (fun v7 => [(7, .int v7), (9, .int v2), (0, .ref (cx.2.2.1 + t)), (8, .int a2)]) dX3_number_217 2 rfl (by decide) (fun _ => rfl) (fun v7 => ?_)
            refine T_goto (tgt := 371) C.1 dX3_number_220 (by decide) ?_
            exact T_sub [2, 0, 3] rfl (t_X3_number_371 hn C ht (ih) v7 a2 m6)
          · show TI pp ll ee rm_X3_number ss mm aa bb me co 10 cx wn _ _ _ _ _
            refine T_aload_n C.1 dX3_number_223 1 rfl ?_
            refine T_getR (x := (t + 3)) C.1 fd_X3_26 (fun _ _ _ _ => rfl) ht (Nat.le_trans (shp_le ht (by decide)) hn) (fun _ h => h) rfl (Nat.succ_ne_zero _) dX3_number_224 ?_
            refine T_iload C.1 dX3_number_227 2 rfl ?_
            refine T_iload C.1 dX3_number_229 0 rfl ?_
            refine T_if_lt (tgt := 251) C.1 dX3_number_231 (by decide) ?_ ?_
            · exact T_sub [1, 2, 3] rfl (t_X3_number_251 hn C ht (ih) a1 a2 a1 m)
            · refine T_iload C.1 dX3_number_234 0 rfl ?_
              refine T_bipush C.1 dX3_number_236 rfl ?_
              refine T_icmp_ge (tgt := 251) C.1 dX3_number_238 (by decide) ?_ ?_
              · exact T_sub [1, 2, 3] rfl (t_X3_number_251 hn C ht (ih) a1 a2 a1 m)
              · refine T_aload_n C.1 dX3_number_241 1 rfl ?_
                refine T_getR (x := (t + 4)) C.1 fd_X3_29 (fun _ _ _ _ => rfl) ht (Nat.le_trans (shp_le ht (by decide)) hn) (fun _ h => h) rfl (Nat.succ_ne_zero _) dX3_number_242 ?_
                refine T_iload C.1 dX3_number_245 0 rfl ?_
                refine T_iald C.1 dX3_number_247 (shr_3_4 ht) (Nat.le_trans (shp_le (shr_3_4 ht) (by decide)) hn) (fun j8 => ?_)
                refine T_goto (tgt := 252) C.1 dX3_number_248 (by decide) ?_
                exact T_sub [1, 2, 3] rfl (t_X3_number_252 hn C ht (ih) a1 a2 (gI m (t + 4) j8) a1 m)
          · show TI pp ll ee rm_X3_number ss mm aa bb me co 10 cx wn _ _ _ _ _
            refine T_iload C.1 dX3_number_148 2 rfl ?_
            refine T_iconst C.1 dX3_number_150 ?_
            refine T_icmp_ge (tgt := 158) C.1 dX3_number_151 (by decide) ?_ ?_
            · refine T_aload_n C.1 dX3_number_158 1 rfl ?_
              refine T_getR (x := (t + 3)) C.1 fd_X3_26 (fun _ _ _ _ => rfl) ht (Nat.le_trans (shp_le ht (by decide)) hn) (fun _ h => h) rfl (Nat.succ_ne_zero _) dX3_number_159 ?_
              refine T_iload C.1 dX3_number_162 2 rfl ?_
              refine T_iconst C.1 dX3_number_164 ?_
              refine T_isub C.1 dX3_number_165 ?_
              refine T_iald C.1 dX3_number_166 (shr_3_3 ht) (Nat.le_trans (shp_le (shr_3_3 ht) (by decide)) hn) (fun j9 => ?_)
              exact T_iret C.1 C.2.1 C.2.2 dX3_number_167
            · refine T_iconst C.1 dX3_number_154 ?_
              refine T_goto (tgt := 167) C.1 dX3_number_155 (by decide) ?_
              exact T_iret C.1 C.2.1 C.2.2 dX3_number_167
          · show TI pp ll ee rm_X3_number ss mm aa bb me co 10 cx wn _ _ _ _ _
            refine T_iload C.1 dX3_number_168 2 rfl ?_
            refine T_iconst C.1 dX3_number_170 ?_
            refine T_icmp_lt (tgt := 198) C.1 dX3_number_171 (by decide) ?_ ?_
            · exact T_sub [1, 3] rfl (t_X3_number_198 hn C ht (ih) a2 m)
            · refine T_aload_n C.1 dX3_number_174 1 rfl ?_
              refine T_getR (x := (t + 3)) C.1 fd_X3_26 (fun _ _ _ _ => rfl) ht (Nat.le_trans (shp_le ht (by decide)) hn) (fun _ h => h) rfl (Nat.succ_ne_zero _) dX3_number_175 ?_
              refine T_iload C.1 dX3_number_178 2 rfl ?_
              refine T_iconst C.1 dX3_number_180 ?_
              refine T_isub C.1 dX3_number_181 ?_
              refine T_iald C.1 dX3_number_182 (shr_3_3 ht) (Nat.le_trans (shp_le (shr_3_3 ht) (by decide)) hn) (fun j10 => ?_)
              refine T_if_ne (tgt := 198) C.1 dX3_number_183 (by decide) ?_ ?_
              · exact T_sub [1, 3] rfl (t_X3_number_198 hn C ht (ih) a2 m)
              · refine T_iload C.1 dX3_number_186 0 rfl ?_
                refine T_iload C.1 dX3_number_188 3 rfl ?_
                refine T_icmp_le (tgt := 198) C.1 dX3_number_190 (by decide) ?_ ?_
                · exact T_sub [1, 3] rfl (t_X3_number_198 hn C ht (ih) a2 m)
                · refine T_iload C.1 dX3_number_193 0 rfl ?_
                  refine T_goto (tgt := 200) C.1 dX3_number_195 (by decide) ?_
                  exact T_sub [1] rfl (t_X3_number_200 hn C ht (ih) v2 m)
          · show TI pp ll ee rm_X3_number ss mm aa bb me co 10 cx wn _ _ _ _ _
            refine T_iload C.1 dX3_number_296 2 rfl ?_
            refine T_iconst C.1 dX3_number_298 ?_
            refine T_mmax C.1 dX3_number_299 wm_2_139 wx_mmax_1 wx_math wx_mmax_2 (Nat.le_of_ble_eq_true rfl) (Nat.le_of_ble_eq_true rfl) ⟨Nat.zero_le _, Nat.zero_le _⟩ ?_
            refine T_istoreN C.1 (fun v11 => [(7, .int v11), (9, .int v2), (0, .ref (cx.2.2.1 + t)), (8, .int a2)]) dX3_number_302 (by decide) (fun _ => rfl) (fun v11 => ?_)
            refine T_aload_n C.1 dX3_number_304 2 rfl ?_
            refine T_getR (x := (t + 3)) C.1 fd_X3_26 (fun _ _ _ _ => rfl) ht (Nat.le_trans (shp_le ht (by decide)) hn) (fun _ h => h) rfl (Nat.succ_ne_zero _) dX3_number_305 ?_
            refine T_iload C.1 dX3_number_308 0 rfl ?_
            refine T_iconst C.1 dX3_number_310 ?_
            refine T_isub C.1 dX3_number_311 ?_
            refine T_aload_n C.1 dX3_number_312 2 rfl ?_
            refine T_getR (x := (t + 3)) C.1 fd_X3_26 (fun _ _ _ _ => rfl) ht (Nat.le_trans (shp_le ht (by decide)) hn) (fun _ h => h) rfl (Nat.succ_ne_zero _) dX3_number_313 ?_
            refine T_iload C.1 dX3_number_316 0 rfl ?_
            refine T_iconst C.1 dX3_number_318 ?_
            refine T_isub C.1 dX3_number_319 ?_
            refine T_iald C.1 dX3_number_320 (shr_3_3 ht) (Nat.le_trans (shp_le (shr_3_3 ht) (by decide)) hn) (fun j12 => ?_)
            refine T_ineg C.1 dX3_number_321 ?_
            refine T_iast C.1 LyI_Lay (shr_3_3 ht) (Nat.le_trans (shp_le (shr_3_3 ht) (by decide)) hn) dX3_number_322 (fun m13 => ?_)
            refine T_goto (tgt := 371) C.1 dX3_number_323 (by decide) ?_
            exact T_sub [2, 0, 3] rfl (t_X3_number_371 hn C ht (ih) v11 a2 m13)
          · show TI pp ll ee rm_X3_number ss mm aa bb me co 10 cx wn _ _ _ _ _
            refine T_iload C.1 dX3_number_326 2 rfl ?_
            refine T_iconst C.1 dX3_number_328 ?_
            refine T_isub C.1 dX3_number_329 ?_
            refine T_iconst C.1 dX3_number_330 ?_
            refine T_mmax C.1 dX3_number_331 wm_2_139 wx_mmax_1 wx_math wx_mmax_2 (Nat.le_of_ble_eq_true rfl) (Nat.le_of_ble_eq_true rfl) ⟨Nat.zero_le _, Nat.zero_le _⟩ ?_
            refine T_istoreN C.1 (fun v14 => [(7, .int v14), (9, .int v2), (0, .ref (cx.2.2.1 + t)), (8, .int a2)]) dX3_number_334 (by decide) (fun _ => rfl) (fun v14 => ?_)
            refine T_aload_n C.1 dX3_number_336 2 rfl ?_
            refine T_getR (x := (t + 3)) C.1 fd_X3_26 (fun _ _ _ _ => rfl) ht (Nat.le_trans (shp_le ht (by decide)) hn) (fun _ h => h) rfl (Nat.succ_ne_zero _) dX3_number_337 ?_
            refine T_iload C.1 dX3_number_340 0 rfl ?_
            refine T_iconst C.1 dX3_number_342 ?_
            refine T_isub C.1 dX3_number_343 ?_
            refine T_aload_n C.1 dX3_number_344 2 rfl ?_
            refine T_getR (x := (t + 1)) C.1 fd_X3_11 (fun _ _ _ _ => rfl) ht (Nat.le_trans (shp_le ht (by decide)) hn) (fun _ h => h) rfl (Nat.succ_ne_zero _) dX3_number_345 ?_
            refine T_iload C.1 dX3_number_348 3 rfl ?_
            refine T_cald C.1 dX3_number_350 (shr_3_1 ht) (Nat.le_trans (shp_le (shr_3_1 ht) (by decide)) hn) (fun j15 => ?_)
            refine T_aload_n C.1 dX3_number_351 2 rfl ?_
            refine T_getR (x := (t + 3)) C.1 fd_X3_26 (fun _ _ _ _ => rfl) ht (Nat.le_trans (shp_le ht (by decide)) hn) (fun _ h => h) rfl (Nat.succ_ne_zero _) dX3_number_352 ?_
            refine T_iload C.1 dX3_number_355 0 rfl ?_
            refine T_iconst C.1 dX3_number_357 ?_
            refine T_isub C.1 dX3_number_358 ?_
            refine T_iald C.1 dX3_number_359 (shr_3_3 ht) (Nat.le_trans (shp_le (shr_3_3 ht) (by decide)) hn) (fun j16 => ?_)
            refine T_aload_n C.1 dX3_number_360 2 rfl ?_
            refine T_getR (x := (t + 3)) C.1 fd_X3_26 (fun _ _ _ _ => rfl) ht (Nat.le_trans (shp_le ht (by decide)) hn) (fun _ h => h) rfl (Nat.succ_ne_zero _) dX3_number_361 ?_
            refine T_iload C.1 dX3_number_364 0 rfl ?_
            refine T_iald C.1 dX3_number_366 (shr_3_3 ht) (Nat.le_trans (shp_le (shr_3_3 ht) (by decide)) hn) (fun j17 => ?_)
            refine T_callSI (rm := rm_X3_joined) [.int (gI m (t + 1) j15), .int (gI m (t + 3) j16), .int (gI m (t + 3) j17)] [.int (v14 - (iI 1)), .ref (cx.2.2.1 + (t + 3))] C.1 dX3_number_367 mw_X3_joined wm_2_142 wm_2_143 ⟨Nat.le_of_ble_eq_true rfl, Nat.le_of_ble_eq_true rfl⟩ ⟨rfl, rfl⟩ ⟨Nat.zero_le _, Nat.zero_le _⟩ rfl rfl (Nat.le_of_ble_eq_true rfl) (c_X3_joined hn ll cx (gI m (t + 1) j15) (gI m (t + 3) j16) (gI m (t + 3) j17) m) (fun v18 m19 => ?_)
            refine T_iast C.1 LyI_Lay (shr_3_3 ht) (Nat.le_trans (shp_le (shr_3_3 ht) (by decide)) hn) dX3_number_370 (fun m20 => ?_)
            exact T_sub [2, 0, 3] rfl (t_X3_number_371 hn C ht (ih) v14 a2 m20)
def F_X3_number  (t : Nat) (x1 : Int32) (x2 : Int32) (x3 : Int32) (x4 : Int32) (x5 : Int32) (x6 : Int32) (m : Mm) : Option (Int32 × Mm) :=
  (if shp t = (9, 3) then
    wrI 6 m (t + 4) (iI 0) x1 fun m1 =>
    wrI 6 m1 (t + 4) (iI 1) x2 fun m2 =>
    wrI 6 m2 (t + 4) (iI 2) x3 fun m3 =>
    wrI 6 m3 (t + 4) (iI 3) x4 fun m4 =>
    wrI 6 m4 (t + 4) (iI 4) x5 fun m5 =>
    wrI 6 m5 (t + 4) (iI 5) x6 fun m6 =>
    F_X3_number_51 t FU (iI 0) (iI 0) m6
  else none)
set_option maxRecDepth 100000 in
set_option maxHeartbeats 4000000 in
theorem c_X3_number {wn : Nat} (hn : NN ≤ wn) (ll : Launch) (cx : CX) (t : Nat) (x1 : Int32) (x2 : Int32) (x3 : Int32) (x4 : Int32) (x5 : Int32) (x6 : Int32) (m : Mm) : MT ll yX3_number cX3_number 10 ((some .int)) rm_X3_number cx wn wn Lay cvI 0 0 [.ref (cx.2.2.1 + t), .int x1, .int x2, .int x3, .int x4, .int x5, .int x6] m (F_X3_number t x1 x2 x3 x4 x5 x6 m) := by
  refine MT_of (by decide) (Nat.le_of_ble_eq_true rfl) ?_
  intro pp ee ss mm aa bb me co hK hr hk hn0
  have C : CM pp ss mm aa me co cX3_number 10 RX3 cx ((some .int)) := ⟨hK, hr, hk⟩
  show TI pp ll ee rm_X3_number ss mm aa bb me co 10 cx wn 0 [(0, .ref (cx.2.2.1 + t)), (1, .int x1), (2, .int x2), (3, .int x3), (4, .int x4), (5, .int x5), (6, .int x6)] [] m (F_X3_number t x1 x2 x3 x4 x5 x6 m)
  unfold F_X3_number
  refine T_if (fun ht => ?_) (fun _ => T_none)
  refine T_aload_n C.1 dX3_number_0 0 rfl ?_
  refine T_getR (x := (t + 4)) C.1 fd_X3_29 (fun _ _ _ _ => rfl) ht (Nat.le_trans (shp_le ht (by decide)) hn) (fun _ h => h) rfl (Nat.succ_ne_zero _) dX3_number_1 ?_
  refine T_iconst C.1 dX3_number_4 ?_
  refine T_iload_n C.1 dX3_number_5 1 rfl ?_
  refine T_iast C.1 LyI_Lay (shr_3_4 ht) (Nat.le_trans (shp_le (shr_3_4 ht) (by decide)) hn) dX3_number_6 (fun m1 => ?_)
  refine T_aload_n C.1 dX3_number_7 0 rfl ?_
  refine T_getR (x := (t + 4)) C.1 fd_X3_29 (fun _ _ _ _ => rfl) ht (Nat.le_trans (shp_le ht (by decide)) hn) (fun _ h => h) rfl (Nat.succ_ne_zero _) dX3_number_8 ?_
  refine T_iconst C.1 dX3_number_11 ?_
  refine T_iload_n C.1 dX3_number_12 2 rfl ?_
  refine T_iast C.1 LyI_Lay (shr_3_4 ht) (Nat.le_trans (shp_le (shr_3_4 ht) (by decide)) hn) dX3_number_13 (fun m2 => ?_)
  refine T_aload_n C.1 dX3_number_14 0 rfl ?_
  refine T_getR (x := (t + 4)) C.1 fd_X3_29 (fun _ _ _ _ => rfl) ht (Nat.le_trans (shp_le ht (by decide)) hn) (fun _ h => h) rfl (Nat.succ_ne_zero _) dX3_number_15 ?_
  refine T_iconst C.1 dX3_number_18 ?_
  refine T_iload_n C.1 dX3_number_19 3 rfl ?_
  refine T_iast C.1 LyI_Lay (shr_3_4 ht) (Nat.le_trans (shp_le (shr_3_4 ht) (by decide)) hn) dX3_number_20 (fun m3 => ?_)
  refine T_aload_n C.1 dX3_number_21 0 rfl ?_
  refine T_getR (x := (t + 4)) C.1 fd_X3_29 (fun _ _ _ _ => rfl) ht (Nat.le_trans (shp_le ht (by decide)) hn) (fun _ h => h) rfl (Nat.succ_ne_zero _) dX3_number_22 ?_
  refine T_iconst C.1 dX3_number_25 ?_
  refine T_iload C.1 dX3_number_26 4 rfl ?_
  refine T_iast C.1 LyI_Lay (shr_3_4 ht) (Nat.le_trans (shp_le (shr_3_4 ht) (by decide)) hn) dX3_number_28 (fun m4 => ?_)
  refine T_aload_n C.1 dX3_number_29 0 rfl ?_
  refine T_getR (x := (t + 4)) C.1 fd_X3_29 (fun _ _ _ _ => rfl) ht (Nat.le_trans (shp_le ht (by decide)) hn) (fun _ h => h) rfl (Nat.succ_ne_zero _) dX3_number_30 ?_
  refine T_iconst C.1 dX3_number_33 ?_
  refine T_iload C.1 dX3_number_34 5 rfl ?_
  refine T_iast C.1 LyI_Lay (shr_3_4 ht) (Nat.le_trans (shp_le (shr_3_4 ht) (by decide)) hn) dX3_number_36 (fun m5 => ?_)
  refine T_aload_n C.1 dX3_number_37 0 rfl ?_
  refine T_getR (x := (t + 4)) C.1 fd_X3_29 (fun _ _ _ _ => rfl) ht (Nat.le_trans (shp_le ht (by decide)) hn) (fun _ h => h) rfl (Nat.succ_ne_zero _) dX3_number_38 ?_
  refine T_iconst C.1 dX3_number_41 ?_
  refine T_iload C.1 dX3_number_42 6 rfl ?_
  refine T_iast C.1 LyI_Lay (shr_3_4 ht) (Nat.le_trans (shp_le (shr_3_4 ht) (by decide)) hn) dX3_number_44 (fun m6 => ?_)
  refine T_iconst C.1 dX3_number_45 ?_
  refine T_istore (lv' := [(7, .int (iI 0)), (0, .ref (cx.2.2.1 + t)), (1, .int x1), (2, .int x2), (3, .int x3), (4, .int x4), (5, .int x5), (6, .int x6)]) C.1 dX3_number_46 (by decide) rfl ?_
  refine T_iconst C.1 dX3_number_48 ?_
  refine T_istore (lv' := [(8, .int (iI 0)), (7, .int (iI 0)), (0, .ref (cx.2.2.1 + t)), (1, .int x1), (2, .int x2), (3, .int x3), (4, .int x4), (5, .int x5), (6, .int x6)]) C.1 dX3_number_49 (by decide) rfl ?_
  exact T_sub [2, 1, 0] rfl (t_X3_number_51 hn C ht FU (iI 0) (iI 0) m6)
def rm_X4_likeFor : Room := { frames := 1, cells := 0, slots := 0, locals := 40 }
def F_X4_likeFor_29  (a1 : Int32) (a2 : Int32) (a3 : Int32) (m : Mm) : Option (Int32 × Mm) :=
  (if a3 = iI 0 then
    some ((iI 0), m)
  else
    rd 70 (((iI 10) * a1) + a2) fun j1 =>
    some ((gI m 4 j1), m))
set_option maxRecDepth 100000 in
set_option maxHeartbeats 4000000 in
theorem t_X4_likeFor_29 {wn : Nat} (hn : NN ≤ wn) {pp : Program} {ll : Launch} {ee : Env} {ss : State} {mm : MethodId} {aa : Array Value} {bb : List Frame} {me : Method} {co : Code} {cx : CX}     (C : CM pp ss mm aa me co cX4_likeFor 4 RX4 cx ((some .int)))    (a1 : Int32) (a2 : Int32) (a3 : Int32) (m : Mm) : TI pp ll ee rm_X4_likeFor ss mm aa bb me co 4 cx wn 29 [(0, .ref (cx.2.2.1 + 2)), (1, .int a1), (2, .int a2)] [.int a3] m (F_X4_likeFor_29  a1 a2 a3 m) := by
  unfold F_X4_likeFor_29
  refine T_istore_n (lv' := [(3, .int a3), (0, .ref (cx.2.2.1 + 2)), (1, .int a1), (2, .int a2)]) C.1 dX4_likeFor_29 (by decide) rfl ?_
  refine T_iload_n C.1 dX4_likeFor_30 0 rfl ?_
  refine T_if_eq (tgt := 48) C.1 dX4_likeFor_31 (by decide) ?_ ?_
  · refine T_iconst C.1 dX4_likeFor_48 ?_
    exact T_iret C.1 C.2.1 C.2.2 dX4_likeFor_49
  · refine T_aload_n C.1 dX4_likeFor_34 1 rfl ?_
    refine T_getR (x := 4) C.1 fd_X4_19 (fun _ _ _ _ => rfl) sh2 (Nat.le_trans le2 hn) (fun _ h => h) rfl (by decide) dX4_likeFor_35 ?_
    refine T_bipush C.1 dX4_likeFor_38 rfl ?_
    refine T_iload_n C.1 dX4_likeFor_40 2 rfl ?_
    refine T_imul C.1 dX4_likeFor_41 ?_
    refine T_iload_n C.1 dX4_likeFor_42 3 rfl ?_
    refine T_iadd C.1 dX4_likeFor_43 ?_
    refine T_iald C.1 dX4_likeFor_44 sh4 (Nat.le_trans le4 hn) (fun j1 => ?_)
    refine T_goto (tgt := 49) C.1 dX4_likeFor_45 (by decide) ?_
    exact T_iret C.1 C.2.1 C.2.2 dX4_likeFor_49
def F_X4_likeFor_28  (a1 : Int32) (a2 : Int32) (m : Mm) : Option (Int32 × Mm) :=
  F_X4_likeFor_29 a1 a2 (iI 0) m
set_option maxRecDepth 100000 in
set_option maxHeartbeats 4000000 in
theorem t_X4_likeFor_28 {wn : Nat} (hn : NN ≤ wn) {pp : Program} {ll : Launch} {ee : Env} {ss : State} {mm : MethodId} {aa : Array Value} {bb : List Frame} {me : Method} {co : Code} {cx : CX}     (C : CM pp ss mm aa me co cX4_likeFor 4 RX4 cx ((some .int)))    (a1 : Int32) (a2 : Int32) (m : Mm) : TI pp ll ee rm_X4_likeFor ss mm aa bb me co 4 cx wn 28 [(0, .ref (cx.2.2.1 + 2)), (1, .int a1), (2, .int a2)] [] m (F_X4_likeFor_28  a1 a2 m) := by
  unfold F_X4_likeFor_28
  refine T_iconst C.1 dX4_likeFor_28 ?_
  exact T_sub [0, 1, 2] rfl (t_X4_likeFor_29 hn C a1 a2 (iI 0) m)
def F_X4_likeFor  (x1 : Int32) (x2 : Int32) (m : Mm) : Option (Int32 × Mm) :=
  (if x1 < iI 0 then
    F_X4_likeFor_28 x1 x2 m
  else
    (if (gI m 2 0) ≤ x1 then
      F_X4_likeFor_28 x1 x2 m
    else
      (if x2 < iI 0 then
        F_X4_likeFor_28 x1 x2 m
      else
        (if (gI m 2 0) ≤ x2 then
          F_X4_likeFor_28 x1 x2 m
        else
          F_X4_likeFor_29 x1 x2 (iI 1) m))))
set_option maxRecDepth 100000 in
set_option maxHeartbeats 4000000 in
theorem c_X4_likeFor {wn : Nat} (hn : NN ≤ wn) (ll : Launch) (cx : CX) (x1 : Int32) (x2 : Int32) (m : Mm) : MT ll yX4_likeFor cX4_likeFor 4 ((some .int)) rm_X4_likeFor cx wn wn Lay cvI 0 0 [.ref (cx.2.2.1 + 2), .int x1, .int x2] m (F_X4_likeFor x1 x2 m) := by
  refine MT_of (by decide) (Nat.le_of_ble_eq_true rfl) ?_
  intro pp ee ss mm aa bb me co hK hr hk hn0
  have C : CM pp ss mm aa me co cX4_likeFor 4 RX4 cx ((some .int)) := ⟨hK, hr, hk⟩
  show TI pp ll ee rm_X4_likeFor ss mm aa bb me co 4 cx wn 0 [(0, .ref (cx.2.2.1 + 2)), (1, .int x1), (2, .int x2)] [] m (F_X4_likeFor x1 x2 m)
  unfold F_X4_likeFor
  refine T_iload_n C.1 dX4_likeFor_0 1 rfl ?_
  refine T_if_lt (tgt := 28) C.1 dX4_likeFor_1 (by decide) ?_ ?_
  · exact T_sub [0, 1, 2] rfl (t_X4_likeFor_28 hn C x1 x2 m)
  · refine T_iload_n C.1 dX4_likeFor_4 1 rfl ?_
    refine T_aload_n C.1 dX4_likeFor_5 0 rfl ?_
    refine T_getI C.1 fd_X4_9 (fun _ _ _ _ => rfl) sh2 (Nat.le_trans le2 hn) dX4_likeFor_6 ?_
    refine T_icmp_ge (tgt := 28) C.1 dX4_likeFor_9 (by decide) ?_ ?_
    · exact T_sub [0, 1, 2] rfl (t_X4_likeFor_28 hn C x1 x2 m)
    · refine T_iload_n C.1 dX4_likeFor_12 2 rfl ?_
      refine T_if_lt (tgt := 28) C.1 dX4_likeFor_13 (by decide) ?_ ?_
      · exact T_sub [0, 1, 2] rfl (t_X4_likeFor_28 hn C x1 x2 m)
      · refine T_iload_n C.1 dX4_likeFor_16 2 rfl ?_
        refine T_aload_n C.1 dX4_likeFor_17 0 rfl ?_
        refine T_getI C.1 fd_X4_9 (fun _ _ _ _ => rfl) sh2 (Nat.le_trans le2 hn) dX4_likeFor_18 ?_
        refine T_icmp_ge (tgt := 28) C.1 dX4_likeFor_21 (by decide) ?_ ?_
        · exact T_sub [0, 1, 2] rfl (t_X4_likeFor_28 hn C x1 x2 m)
        · refine T_iconst C.1 dX4_likeFor_24 ?_
          refine T_goto (tgt := 29) C.1 dX4_likeFor_25 (by decide) ?_
          exact T_sub [0, 1, 2] rfl (t_X4_likeFor_29 hn C x1 x2 (iI 1) m)
def rm_X2_byTheLaw : Room := { frames := 3, cells := 0, slots := 0, locals := 91 }
def F_X2_byTheLaw_119 (k_36 : Int32 → Int32 → Int32 → Int32 → Int32 → Mm → Option (Int32 × Mm)) (t : Nat) (a1 : Int32) (a2 : Int32) (a3 : Int32) (a4 : Int32) (a5 : Int32) (m : Mm) : Option (Int32 × Mm) :=
  nm (a5 + (iI 1)) fun v1 =>
  k_36 a1 a2 a3 a4 v1 m
set_option maxRecDepth 100000 in
set_option maxHeartbeats 4000000 in
theorem t_X2_byTheLaw_119 {wn : Nat} (hn : NN ≤ wn) {pp : Program} {ll : Launch} {ee : Env} {ss : State} {mm : MethodId} {aa : Array Value} {bb : List Frame} {me : Method} {co : Code} {cx : CX}  {k_36 : Int32 → Int32 → Int32 → Int32 → Int32 → Mm → Option (Int32 × Mm)}  {t : Nat} (C : CM pp ss mm aa me co cX2_byTheLaw 9 RX2 cx ((some .int))) (ht : shp t = (9, 2))  (hk_36 : ∀ (a1 : Int32) (a2 : Int32) (a3 : Int32) (a4 : Int32) (a5 : Int32) (m : Mm), TI pp ll ee rm_X2_byTheLaw ss mm aa bb me co 9 cx wn 36 [(0, .ref (cx.2.2.1 + t)), (1, .int a1), (2, .ref (cx.2.2.1 + 2)), (3, .int a2), (4, .int a3), (5, .int a4), (6, .int a5)] [] m (k_36 a1 a2 a3 a4 a5 m)) (a1 : Int32) (a2 : Int32) (a3 : Int32) (a4 : Int32) (a5 : Int32) (m : Mm) : TI pp ll ee rm_X2_byTheLaw ss mm aa bb me co 9 cx wn 119 [(0, .ref (cx.2.2.1 + t)), (1, .int a1), (2, .ref (cx.2.2.1 + 2)), (3, .int a2), (4, .int a3), (5, .int a4), (6, .int a5)] [] m (F_X2_byTheLaw_119 k_36 t a1 a2 a3 a4 a5 m) := by
  unfold F_X2_byTheLaw_119
  refine T_iincN C.1 (fun v1 => [(6, .int v1), (0, .ref (cx.2.2.1 + t)), (1, .int a1), (2, .ref (cx.2.2.1 + 2)), (3, .int a2), (4, .int a3), (5, .int a4)]) dX2_byTheLaw_119 6 rfl (by decide) (fun _ => rfl) (fun v1 => ?_)
  refine T_goto (tgt := 36) C.1 dX2_byTheLaw_122 (by decide) ?_
  exact T_sub [1, 2, 3, 4, 5, 6, 0] rfl (hk_36 a1 a2 a3 a4 v1 m)
def F_X2_byTheLaw_36 (t : Nat) : Nat → Int32 → Int32 → Int32 → Int32 → Int32 → Mm → Option (Int32 × Mm)
  | 0, _, _, _, _, _, _ => none
  | f + 1, a1, a2, a3, a4, a5, m =>
    (if (gI m t 4) ≤ a5 then
      some (a4, m)
    else
      bnd (F_X2_mayRob t a5 m) fun v1 m2 =>
      (if v1 = iI 0 then
        F_X2_byTheLaw_119 (F_X2_byTheLaw_36 t f) t a1 a2 a3 a4 a5 m2
      else
        rd 7 a5 fun j3 =>
        nm (gI m2 (t + 3) j3) fun v4 =>
        gdS (9, 3) (gR m2 2 6) fun q5 =>
        bnd (F_X4_worthFor a1 a5 m2) fun v6 m7 =>
        bnd (F_X4_worthFor v4 a5 m7) fun v8 m9 =>
        rd 7 a5 fun j10 =>
        bnd (F_X4_likeFor a1 v4 m9) fun v11 m12 =>
        bnd (F_X3_number q5 v6 v8 (gI m9 (t + 4) j10) v11 (iI 0) a2 m12) fun v13 m14 =>
        (if v13 ≤ a3 then
          F_X2_byTheLaw_119 (F_X2_byTheLaw_36 t f) t a1 a2 a3 a4 a5 m14
        else
          F_X2_byTheLaw_119 (F_X2_byTheLaw_36 t f) t a1 a2 v13 a5 a5 m14)))
set_option maxRecDepth 100000 in
set_option maxHeartbeats 4000000 in
theorem t_X2_byTheLaw_36 {wn : Nat} (hn : NN ≤ wn) {pp : Program} {ll : Launch} {ee : Env} {ss : State} {mm : MethodId} {aa : Array Value} {bb : List Frame} {me : Method} {co : Code} {cx : CX}    {t : Nat} (C : CM pp ss mm aa me co cX2_byTheLaw 9 RX2 cx ((some .int))) (ht : shp t = (9, 2))   : ∀ (f : Nat) (a1 : Int32) (a2 : Int32) (a3 : Int32) (a4 : Int32) (a5 : Int32) (m : Mm), TI pp ll ee rm_X2_byTheLaw ss mm aa bb me co 9 cx wn 36 [(0, .ref (cx.2.2.1 + t)), (1, .int a1), (2, .ref (cx.2.2.1 + 2)), (3, .int a2), (4, .int a3), (5, .int a4), (6, .int a5)] [] m (F_X2_byTheLaw_36 t f a1 a2 a3 a4 a5 m) := by
  intro f
  induction f with
  | zero => exact fun _ _ _ _ _ _ => T_none
  | succ f ih =>
    intro a1 a2 a3 a4 a5 m
    unfold F_X2_byTheLaw_36
    refine T_iload C.1 dX2_byTheLaw_36 6 rfl ?_
    refine T_aload_n C.1 dX2_byTheLaw_38 0 rfl ?_
    refine T_getI C.1 fd_X2_24 (fun _ _ _ _ => rfl) ht (Nat.le_trans (shp_le ht (by decide)) hn) dX2_byTheLaw_39 ?_
    refine T_icmp_ge (tgt := 125) C.1 dX2_byTheLaw_42 (by decide) ?_ ?_
    · refine T_iload C.1 dX2_byTheLaw_125 5 rfl ?_
      exact T_iret C.1 C.2.1 C.2.2 dX2_byTheLaw_127
    · refine T_aload_n C.1 dX2_byTheLaw_45 0 rfl ?_
      refine T_iload C.1 dX2_byTheLaw_46 6 rfl ?_
      refine T_aload_n C.1 dX2_byTheLaw_48 2 rfl ?_
      refine T_callVI (rm := rm_X2_mayRob) [.int a5, .ref (cx.2.2.1 + 2)] [] C.1 dX2_byTheLaw_49 mw_X2_mayRob wm_2_145 wm_2_146 wm_2_147 ⟨Nat.le_of_ble_eq_true rfl, Nat.le_of_ble_eq_true rfl⟩ ⟨rfl, rfl⟩ ⟨Nat.zero_le _, Nat.zero_le _⟩ rfl rfl (Nat.le_of_ble_eq_true rfl) ht (Nat.le_trans (shp_le ht (by decide)) hn) ⟨rfl, rfl⟩ (c_X2_mayRob hn ll cx t a5 m) (fun v1 m2 => ?_)
      refine T_if_eq (tgt := 119) C.1 dX2_byTheLaw_52 (by decide) ?_ ?_
      · exact T_sub [0, 1, 2, 3, 4, 5, 6] rfl (t_X2_byTheLaw_119 hn C ht (ih) a1 a2 a3 a4 a5 m2)
      · refine T_aload_n C.1 dX2_byTheLaw_55 0 rfl ?_
        refine T_getR (x := (t + 3)) C.1 fd_X2_18 (fun _ _ _ _ => rfl) ht (Nat.le_trans (shp_le ht (by decide)) hn) (fun _ h => h) rfl (Nat.succ_ne_zero _) dX2_byTheLaw_56 ?_
        refine T_iload C.1 dX2_byTheLaw_59 6 rfl ?_
        refine T_iald C.1 dX2_byTheLaw_61 (shr_2_3 ht) (Nat.le_trans (shp_le (shr_2_3 ht) (by decide)) hn) (fun j3 => ?_)
        refine T_istoreN C.1 (fun v4 => [(7, .int v4), (0, .ref (cx.2.2.1 + t)), (1, .int a1), (2, .ref (cx.2.2.1 + 2)), (3, .int a2), (4, .int a3), (5, .int a4), (6, .int a5)]) dX2_byTheLaw_62 (by decide) (fun _ => rfl) (fun v4 => ?_)
        refine T_aload_n C.1 dX2_byTheLaw_64 3 rfl ?_
        refine T_getS C.1 fd_X2_119 (fun _ _ _ _ => rfl) sh2 (Nat.le_trans le2 hn) (by decide) dX2_byTheLaw_65 (fun q5 hq5 => ?_)
        refine T_aload_n C.1 dX2_byTheLaw_68 3 rfl ?_
        refine T_iload_n C.1 dX2_byTheLaw_69 2 rfl ?_
        refine T_iload C.1 dX2_byTheLaw_70 7 rfl ?_
        refine T_callVI (rm := rm_X4_worthFor) [.int a1, .int a5] [.ref (cx.2.2.1 + q5)] C.1 dX2_byTheLaw_72 mw_X4_worthFor wm_2_131 wm_2_132 wm_2_133 ⟨Nat.le_of_ble_eq_true rfl, Nat.le_of_ble_eq_true rfl⟩ ⟨rfl, rfl⟩ ⟨Nat.zero_le _, Nat.zero_le _⟩ rfl rfl (Nat.le_of_ble_eq_true rfl) sh2 (Nat.le_trans le2 hn) ⟨rfl, rfl⟩ (c_X4_worthFor hn ll cx a1 a5 m2) (fun v6 m7 => ?_)
        refine T_aload_n C.1 dX2_byTheLaw_75 3 rfl ?_
        refine T_iload C.1 dX2_byTheLaw_76 0 rfl ?_
        refine T_iload C.1 dX2_byTheLaw_78 7 rfl ?_
        refine T_callVI (rm := rm_X4_worthFor) [.int v4, .int a5] [.int v6, .ref (cx.2.2.1 + q5)] C.1 dX2_byTheLaw_80 mw_X4_worthFor wm_2_131 wm_2_132 wm_2_133 ⟨Nat.le_of_ble_eq_true rfl, Nat.le_of_ble_eq_true rfl⟩ ⟨rfl, rfl⟩ ⟨Nat.zero_le _, Nat.zero_le _⟩ rfl rfl (Nat.le_of_ble_eq_true rfl) sh2 (Nat.le_trans le2 hn) ⟨rfl, rfl⟩ (c_X4_worthFor hn ll cx v4 a5 m7) (fun v8 m9 => ?_)
        refine T_aload_n C.1 dX2_byTheLaw_83 1 rfl ?_
        refine T_getR (x := (t + 4)) C.1 fd_X2_21 (fun _ _ _ _ => rfl) ht (Nat.le_trans (shp_le ht (by decide)) hn) (fun _ h => h) rfl (Nat.succ_ne_zero _) dX2_byTheLaw_84 ?_
        refine T_iload C.1 dX2_byTheLaw_87 7 rfl ?_
        refine T_iald C.1 dX2_byTheLaw_89 (shr_2_4 ht) (Nat.le_trans (shp_le (shr_2_4 ht) (by decide)) hn) (fun j10 => ?_)
        refine T_aload_n C.1 dX2_byTheLaw_90 3 rfl ?_
        refine T_iload_n C.1 dX2_byTheLaw_91 2 rfl ?_
        refine T_iload C.1 dX2_byTheLaw_92 0 rfl ?_
        refine T_callVI (rm := rm_X4_likeFor) [.int a1, .int v4] [.int (gI m9 (t + 4) j10), .int v8, .int v6, .ref (cx.2.2.1 + q5)] C.1 dX2_byTheLaw_94 mw_X4_likeFor wm_2_153 wm_2_154 wm_2_155 ⟨Nat.le_of_ble_eq_true rfl, Nat.le_of_ble_eq_true rfl⟩ ⟨rfl, rfl⟩ ⟨Nat.zero_le _, Nat.zero_le _⟩ rfl rfl (Nat.le_of_ble_eq_true rfl) sh2 (Nat.le_trans le2 hn) ⟨rfl, rfl⟩ (c_X4_likeFor hn ll cx a1 v4 m9) (fun v11 m12 => ?_)
        refine T_iconst C.1 dX2_byTheLaw_97 ?_
        refine T_iload_n C.1 dX2_byTheLaw_98 4 rfl ?_
        refine T_callVI (rm := rm_X3_number) [.int v6, .int v8, .int (gI m9 (t + 4) j10), .int v11, .int (iI 0), .int a2] [] C.1 dX2_byTheLaw_99 mw_X3_number wm_2_135 wm_2_136 wm_2_137 ⟨Nat.le_of_ble_eq_true rfl, Nat.le_of_ble_eq_true rfl⟩ ⟨rfl, rfl⟩ ⟨Nat.zero_le _, Nat.zero_le _⟩ rfl rfl (Nat.le_of_ble_eq_true rfl) hq5 (Nat.le_trans (shp_le hq5 (by decide)) hn) ⟨rfl, rfl⟩ (c_X3_number hn ll cx q5 v6 v8 (gI m9 (t + 4) j10) v11 (iI 0) a2 m12) (fun v13 m14 => ?_)
        refine T_istore (lv' := [(8, .int v13), (7, .int v4), (0, .ref (cx.2.2.1 + t)), (1, .int a1), (2, .ref (cx.2.2.1 + 2)), (3, .int a2), (4, .int a3), (5, .int a4), (6, .int a5)]) C.1 dX2_byTheLaw_102 (by decide) rfl ?_
        refine T_iload C.1 dX2_byTheLaw_104 0 rfl ?_
        refine T_iload C.1 dX2_byTheLaw_106 6 rfl ?_
        refine T_icmp_le (tgt := 119) C.1 dX2_byTheLaw_108 (by decide) ?_ ?_
        · exact T_sub [2, 3, 4, 5, 6, 7, 8] rfl (t_X2_byTheLaw_119 hn C ht (ih) a1 a2 a3 a4 a5 m14)
        · refine T_iload C.1 dX2_byTheLaw_111 0 rfl ?_
          refine T_istore (lv' := [(4, .int v13), (8, .int v13), (7, .int v4), (0, .ref (cx.2.2.1 + t)), (1, .int a1), (2, .ref (cx.2.2.1 + 2)), (3, .int a2), (5, .int a4), (6, .int a5)]) C.1 dX2_byTheLaw_113 (by decide) rfl ?_
          refine T_iload C.1 dX2_byTheLaw_115 8 rfl ?_
          refine T_istore (lv' := [(5, .int a5), (4, .int v13), (8, .int v13), (7, .int v4), (0, .ref (cx.2.2.1 + t)), (1, .int a1), (2, .ref (cx.2.2.1 + 2)), (3, .int a2), (6, .int a5)]) C.1 dX2_byTheLaw_117 (by decide) rfl ?_
          exact T_sub [4, 5, 6, 7, 1, 0, 8] rfl (t_X2_byTheLaw_119 hn C ht (ih) a1 a2 v13 a5 a5 m14)
def F_X2_byTheLaw  (t : Nat) (x1 : Int32) (m : Mm) : Option (Int32 × Mm) :=
  (if shp t = (9, 2) then
    nm ((gI m 2 0) - (gI m t 4)) fun v1 =>
    gdS (9, 3) (gR m 2 6) fun q2 =>
    bnd (F_X2_guess t x1 m) fun v3 m4 =>
    bnd (F_X3_number q2 v3 (iI 0) (iI 0) (iI 0) (iI 1) v1 m4) fun v5 m6 =>
    F_X2_byTheLaw_36 t FU x1 v1 v5 (iI (-1)) (iI 0) m6
  else none)
set_option maxRecDepth 100000 in
set_option maxHeartbeats 4000000 in
theorem c_X2_byTheLaw {wn : Nat} (hn : NN ≤ wn) (ll : Launch) (cx : CX) (t : Nat) (x1 : Int32) (m : Mm) : MT ll yX2_byTheLaw cX2_byTheLaw 9 ((some .int)) rm_X2_byTheLaw cx wn wn Lay cvI 0 0 [.ref (cx.2.2.1 + t), .int x1, .ref (cx.2.2.1 + 2)] m (F_X2_byTheLaw t x1 m) := by
  refine MT_of (by decide) (Nat.le_of_ble_eq_true rfl) ?_
  intro pp ee ss mm aa bb me co hK hr hk hn0
  have C : CM pp ss mm aa me co cX2_byTheLaw 9 RX2 cx ((some .int)) := ⟨hK, hr, hk⟩
  show TI pp ll ee rm_X2_byTheLaw ss mm aa bb me co 9 cx wn 0 [(0, .ref (cx.2.2.1 + t)), (1, .int x1), (2, .ref (cx.2.2.1 + 2))] [] m (F_X2_byTheLaw t x1 m)
  unfold F_X2_byTheLaw
  refine T_if (fun ht => ?_) (fun _ => T_none)
  refine T_aload_n C.1 dX2_byTheLaw_0 2 rfl ?_
  refine T_getI C.1 fd_X2_57 (fun _ _ _ _ => rfl) sh2 (Nat.le_trans le2 hn) dX2_byTheLaw_1 ?_
  refine T_aload_n C.1 dX2_byTheLaw_4 0 rfl ?_
  refine T_getI C.1 fd_X2_24 (fun _ _ _ _ => rfl) ht (Nat.le_trans (shp_le ht (by decide)) hn) dX2_byTheLaw_5 ?_
  refine T_isub C.1 dX2_byTheLaw_8 ?_
  refine T_istore_nN C.1 (fun v1 => [(3, .int v1), (0, .ref (cx.2.2.1 + t)), (1, .int x1), (2, .ref (cx.2.2.1 + 2))]) dX2_byTheLaw_9 (by decide) (fun _ => rfl) (fun v1 => ?_)
  refine T_aload_n C.1 dX2_byTheLaw_10 3 rfl ?_
  refine T_getS C.1 fd_X2_119 (fun _ _ _ _ => rfl) sh2 (Nat.le_trans le2 hn) (by decide) dX2_byTheLaw_11 (fun q2 hq2 => ?_)
  refine T_aload_n C.1 dX2_byTheLaw_14 1 rfl ?_
  refine T_iload_n C.1 dX2_byTheLaw_15 2 rfl ?_
  refine T_aload_n C.1 dX2_byTheLaw_16 3 rfl ?_
  refine T_callVI (rm := rm_X2_guess) [.int x1, .ref (cx.2.2.1 + 2)] [.ref (cx.2.2.1 + q2)] C.1 dX2_byTheLaw_17 mw_X2_guess wm_2_127 wm_2_129 wm_p_2 ⟨Nat.le_of_ble_eq_true rfl, Nat.le_of_ble_eq_true rfl⟩ ⟨rfl, rfl⟩ ⟨Nat.zero_le _, Nat.zero_le _⟩ rfl rfl (Nat.le_of_ble_eq_true rfl) ht (Nat.le_trans (shp_le ht (by decide)) hn) ⟨rfl, rfl⟩ (c_X2_guess hn ll cx t x1 m) (fun v3 m4 => ?_)
  refine T_iconst C.1 dX2_byTheLaw_20 ?_
  refine T_iconst C.1 dX2_byTheLaw_21 ?_
  refine T_iconst C.1 dX2_byTheLaw_22 ?_
  refine T_iconst C.1 dX2_byTheLaw_23 ?_
  refine T_iload_n C.1 dX2_byTheLaw_24 0 rfl ?_
  refine T_callVI (rm := rm_X3_number) [.int v3, .int (iI 0), .int (iI 0), .int (iI 0), .int (iI 1), .int v1] [] C.1 dX2_byTheLaw_25 mw_X3_number wm_2_135 wm_2_136 wm_2_137 ⟨Nat.le_of_ble_eq_true rfl, Nat.le_of_ble_eq_true rfl⟩ ⟨rfl, rfl⟩ ⟨Nat.zero_le _, Nat.zero_le _⟩ rfl rfl (Nat.le_of_ble_eq_true rfl) hq2 (Nat.le_trans (shp_le hq2 (by decide)) hn) ⟨rfl, rfl⟩ (c_X3_number hn ll cx q2 v3 (iI 0) (iI 0) (iI 0) (iI 1) v1 m4) (fun v5 m6 => ?_)
  refine T_istore (lv' := [(4, .int v5), (3, .int v1), (0, .ref (cx.2.2.1 + t)), (1, .int x1), (2, .ref (cx.2.2.1 + 2))]) C.1 dX2_byTheLaw_28 (by decide) rfl ?_
  refine T_iconst C.1 dX2_byTheLaw_30 ?_
  refine T_istore (lv' := [(5, .int (iI (-1))), (4, .int v5), (3, .int v1), (0, .ref (cx.2.2.1 + t)), (1, .int x1), (2, .ref (cx.2.2.1 + 2))]) C.1 dX2_byTheLaw_31 (by decide) rfl ?_
  refine T_iconst C.1 dX2_byTheLaw_33 ?_
  refine T_istore (lv' := [(6, .int (iI 0)), (5, .int (iI (-1))), (4, .int v5), (3, .int v1), (0, .ref (cx.2.2.1 + t)), (1, .int x1), (2, .ref (cx.2.2.1 + 2))]) C.1 dX2_byTheLaw_34 (by decide) rfl ?_
  exact T_sub [4, 5, 6, 3, 2, 1, 0] rfl (t_X2_byTheLaw_36 hn C ht FU x1 v1 v5 (iI (-1)) (iI 0) m6)
def rm_X2_fromWhomItLikesLeast : Room := { frames := 3, cells := 0, slots := 0, locals := 88 }
def F_X2_fromWhomItLikesLeast_76 (k_17 : Int32 → Int32 → Int32 → Int32 → Int32 → Mm → Option (Int32 × Mm)) (t : Nat) (a1 : Int32) (a2 : Int32) (a3 : Int32) (a4 : Int32) (a5 : Int32) (m : Mm) : Option (Int32 × Mm) :=
  nm (a5 + (iI 1)) fun v1 =>
  k_17 a1 a2 a3 a4 v1 m
set_option maxRecDepth 100000 in
set_option maxHeartbeats 4000000 in
theorem t_X2_fromWhomItLikesLeast_76 {wn : Nat} (hn : NN ≤ wn) {pp : Program} {ll : Launch} {ee : Env} {ss : State} {mm : MethodId} {aa : Array Value} {bb : List Frame} {me : Method} {co : Code} {cx : CX}  {k_17 : Int32 → Int32 → Int32 → Int32 → Int32 → Mm → Option (Int32 × Mm)}  {t : Nat} (C : CM pp ss mm aa me co cX2_fromWhomItLikesLeast 8 RX2 cx ((some .int))) (ht : shp t = (9, 2))  (hk_17 : ∀ (a1 : Int32) (a2 : Int32) (a3 : Int32) (a4 : Int32) (a5 : Int32) (m : Mm), TI pp ll ee rm_X2_fromWhomItLikesLeast ss mm aa bb me co 8 cx wn 17 [(0, .ref (cx.2.2.1 + t)), (1, .int a1), (2, .ref (cx.2.2.1 + 2)), (3, .int a2), (4, .int a3), (5, .int a4), (6, .int a5)] [] m (k_17 a1 a2 a3 a4 a5 m)) (a1 : Int32) (a2 : Int32) (a3 : Int32) (a4 : Int32) (a5 : Int32) (m : Mm) : TI pp ll ee rm_X2_fromWhomItLikesLeast ss mm aa bb me co 8 cx wn 76 [(0, .ref (cx.2.2.1 + t)), (1, .int a1), (2, .ref (cx.2.2.1 + 2)), (3, .int a2), (4, .int a3), (5, .int a4), (6, .int a5)] [] m (F_X2_fromWhomItLikesLeast_76 k_17 t a1 a2 a3 a4 a5 m) := by
  unfold F_X2_fromWhomItLikesLeast_76
  refine T_iincN C.1 (fun v1 => [(6, .int v1), (0, .ref (cx.2.2.1 + t)), (1, .int a1), (2, .ref (cx.2.2.1 + 2)), (3, .int a2), (4, .int a3), (5, .int a4)]) dX2_fromWhomItLikesLeast_76 6 rfl (by decide) (fun _ => rfl) (fun v1 => ?_)
  refine T_goto (tgt := 17) C.1 dX2_fromWhomItLikesLeast_79 (by decide) ?_
  exact T_sub [1, 2, 3, 4, 5, 6, 0] rfl (hk_17 a1 a2 a3 a4 v1 m)
def F_X2_fromWhomItLikesLeast_17 (t : Nat) : Nat → Int32 → Int32 → Int32 → Int32 → Int32 → Mm → Option (Int32 × Mm)
  | 0, _, _, _, _, _, _ => none
  | f + 1, a1, a2, a3, a4, a5, m =>
    (if (gI m t 4) ≤ a5 then
      some (a4, m)
    else
      rd 7 a5 fun j1 =>
      bnd (F_X4_likeFor a1 (gI m (t + 3) j1) m) fun v2 m3 =>
      bnd (F_X2_mayRob t a5 m3) fun v4 m5 =>
      (if v4 = iI 0 then
        F_X2_fromWhomItLikesLeast_76 (F_X2_fromWhomItLikesLeast_17 t f) t a1 a2 a3 a4 a5 m5
      else
        bnd (F_X4_worthFor a1 a5 m5) fun v6 m7 =>
        (if v6 ≤ a2 then
          F_X2_fromWhomItLikesLeast_76 (F_X2_fromWhomItLikesLeast_17 t f) t a1 a2 a3 a4 a5 m7
        else
          (if a3 ≤ v2 then
            F_X2_fromWhomItLikesLeast_76 (F_X2_fromWhomItLikesLeast_17 t f) t a1 a2 a3 a4 a5 m7
          else
            F_X2_fromWhomItLikesLeast_76 (F_X2_fromWhomItLikesLeast_17 t f) t a1 a2 v2 a5 a5 m7))))
set_option maxRecDepth 100000 in
set_option maxHeartbeats 4000000 in
theorem t_X2_fromWhomItLikesLeast_17 {wn : Nat} (hn : NN ≤ wn) {pp : Program} {ll : Launch} {ee : Env} {ss : State} {mm : MethodId} {aa : Array Value} {bb : List Frame} {me : Method} {co : Code} {cx : CX}    {t : Nat} (C : CM pp ss mm aa me co cX2_fromWhomItLikesLeast 8 RX2 cx ((some .int))) (ht : shp t = (9, 2))   : ∀ (f : Nat) (a1 : Int32) (a2 : Int32) (a3 : Int32) (a4 : Int32) (a5 : Int32) (m : Mm), TI pp ll ee rm_X2_fromWhomItLikesLeast ss mm aa bb me co 8 cx wn 17 [(0, .ref (cx.2.2.1 + t)), (1, .int a1), (2, .ref (cx.2.2.1 + 2)), (3, .int a2), (4, .int a3), (5, .int a4), (6, .int a5)] [] m (F_X2_fromWhomItLikesLeast_17 t f a1 a2 a3 a4 a5 m) := by
  intro f
  induction f with
  | zero => exact fun _ _ _ _ _ _ => T_none
  | succ f ih =>
    intro a1 a2 a3 a4 a5 m
    unfold F_X2_fromWhomItLikesLeast_17
    refine T_iload C.1 dX2_fromWhomItLikesLeast_17 6 rfl ?_
    refine T_aload_n C.1 dX2_fromWhomItLikesLeast_19 0 rfl ?_
    refine T_getI C.1 fd_X2_24 (fun _ _ _ _ => rfl) ht (Nat.le_trans (shp_le ht (by decide)) hn) dX2_fromWhomItLikesLeast_20 ?_
    refine T_icmp_ge (tgt := 82) C.1 dX2_fromWhomItLikesLeast_23 (by decide) ?_ ?_
    · refine T_iload C.1 dX2_fromWhomItLikesLeast_82 5 rfl ?_
      exact T_iret C.1 C.2.1 C.2.2 dX2_fromWhomItLikesLeast_84
    · refine T_aload_n C.1 dX2_fromWhomItLikesLeast_26 2 rfl ?_
      refine T_iload_n C.1 dX2_fromWhomItLikesLeast_27 1 rfl ?_
      refine T_aload_n C.1 dX2_fromWhomItLikesLeast_28 0 rfl ?_
      refine T_getR (x := (t + 3)) C.1 fd_X2_18 (fun _ _ _ _ => rfl) ht (Nat.le_trans (shp_le ht (by decide)) hn) (fun _ h => h) rfl (Nat.succ_ne_zero _) dX2_fromWhomItLikesLeast_29 ?_
      refine T_iload C.1 dX2_fromWhomItLikesLeast_32 6 rfl ?_
      refine T_iald C.1 dX2_fromWhomItLikesLeast_34 (shr_2_3 ht) (Nat.le_trans (shp_le (shr_2_3 ht) (by decide)) hn) (fun j1 => ?_)
      refine T_callVI (rm := rm_X4_likeFor) [.int a1, .int (gI m (t + 3) j1)] [] C.1 dX2_fromWhomItLikesLeast_35 mw_X4_likeFor wm_2_153 wm_2_154 wm_2_155 ⟨Nat.le_of_ble_eq_true rfl, Nat.le_of_ble_eq_true rfl⟩ ⟨rfl, rfl⟩ ⟨Nat.zero_le _, Nat.zero_le _⟩ rfl rfl (Nat.le_of_ble_eq_true rfl) sh2 (Nat.le_trans le2 hn) ⟨rfl, rfl⟩ (c_X4_likeFor hn ll cx a1 (gI m (t + 3) j1) m) (fun v2 m3 => ?_)
      refine T_istore (lv' := [(7, .int v2), (0, .ref (cx.2.2.1 + t)), (1, .int a1), (2, .ref (cx.2.2.1 + 2)), (3, .int a2), (4, .int a3), (5, .int a4), (6, .int a5)]) C.1 dX2_fromWhomItLikesLeast_38 (by decide) rfl ?_
      refine T_aload_n C.1 dX2_fromWhomItLikesLeast_40 1 rfl ?_
      refine T_iload C.1 dX2_fromWhomItLikesLeast_41 7 rfl ?_
      refine T_aload_n C.1 dX2_fromWhomItLikesLeast_43 3 rfl ?_
      refine T_callVI (rm := rm_X2_mayRob) [.int a5, .ref (cx.2.2.1 + 2)] [] C.1 dX2_fromWhomItLikesLeast_44 mw_X2_mayRob wm_2_145 wm_2_146 wm_2_147 ⟨Nat.le_of_ble_eq_true rfl, Nat.le_of_ble_eq_true rfl⟩ ⟨rfl, rfl⟩ ⟨Nat.zero_le _, Nat.zero_le _⟩ rfl rfl (Nat.le_of_ble_eq_true rfl) ht (Nat.le_trans (shp_le ht (by decide)) hn) ⟨rfl, rfl⟩ (c_X2_mayRob hn ll cx t a5 m3) (fun v4 m5 => ?_)
      refine T_if_eq (tgt := 76) C.1 dX2_fromWhomItLikesLeast_47 (by decide) ?_ ?_
      · exact T_sub [1, 2, 3, 4, 5, 6, 7] rfl (t_X2_fromWhomItLikesLeast_76 hn C ht (ih) a1 a2 a3 a4 a5 m5)
      · refine T_aload_n C.1 dX2_fromWhomItLikesLeast_50 3 rfl ?_
        refine T_iload_n C.1 dX2_fromWhomItLikesLeast_51 2 rfl ?_
        refine T_iload C.1 dX2_fromWhomItLikesLeast_52 7 rfl ?_
        refine T_callVI (rm := rm_X4_worthFor) [.int a1, .int a5] [] C.1 dX2_fromWhomItLikesLeast_54 mw_X4_worthFor wm_2_131 wm_2_132 wm_2_133 ⟨Nat.le_of_ble_eq_true rfl, Nat.le_of_ble_eq_true rfl⟩ ⟨rfl, rfl⟩ ⟨Nat.zero_le _, Nat.zero_le _⟩ rfl rfl (Nat.le_of_ble_eq_true rfl) sh2 (Nat.le_trans le2 hn) ⟨rfl, rfl⟩ (c_X4_worthFor hn ll cx a1 a5 m5) (fun v6 m7 => ?_)
        refine T_iload_n C.1 dX2_fromWhomItLikesLeast_57 4 rfl ?_
        refine T_icmp_le (tgt := 76) C.1 dX2_fromWhomItLikesLeast_58 (by decide) ?_ ?_
        · exact T_sub [1, 2, 3, 4, 5, 6, 7] rfl (t_X2_fromWhomItLikesLeast_76 hn C ht (ih) a1 a2 a3 a4 a5 m7)
        · refine T_iload C.1 dX2_fromWhomItLikesLeast_61 0 rfl ?_
          refine T_iload C.1 dX2_fromWhomItLikesLeast_63 5 rfl ?_
          refine T_icmp_ge (tgt := 76) C.1 dX2_fromWhomItLikesLeast_65 (by decide) ?_ ?_
          · exact T_sub [1, 2, 3, 4, 5, 6, 7] rfl (t_X2_fromWhomItLikesLeast_76 hn C ht (ih) a1 a2 a3 a4 a5 m7)
          · refine T_iload C.1 dX2_fromWhomItLikesLeast_68 0 rfl ?_
            refine T_istore (lv' := [(4, .int v2), (7, .int v2), (0, .ref (cx.2.2.1 + t)), (1, .int a1), (2, .ref (cx.2.2.1 + 2)), (3, .int a2), (5, .int a4), (6, .int a5)]) C.1 dX2_fromWhomItLikesLeast_70 (by decide) rfl ?_
            refine T_iload C.1 dX2_fromWhomItLikesLeast_72 7 rfl ?_
            refine T_istore (lv' := [(5, .int a5), (4, .int v2), (7, .int v2), (0, .ref (cx.2.2.1 + t)), (1, .int a1), (2, .ref (cx.2.2.1 + 2)), (3, .int a2), (6, .int a5)]) C.1 dX2_fromWhomItLikesLeast_74 (by decide) rfl ?_
            exact T_sub [3, 4, 5, 6, 1, 0, 7] rfl (t_X2_fromWhomItLikesLeast_76 hn C ht (ih) a1 a2 v2 a5 a5 m7)
def F_X2_fromWhomItLikesLeast  (t : Nat) (x1 : Int32) (m : Mm) : Option (Int32 × Mm) :=
  (if shp t = (9, 2) then
    bnd (F_X2_guess t x1 m) fun v1 m2 =>
    F_X2_fromWhomItLikesLeast_17 t FU x1 v1 (iI 10) (iI (-1)) (iI 0) m2
  else none)
set_option maxRecDepth 100000 in
set_option maxHeartbeats 4000000 in
theorem c_X2_fromWhomItLikesLeast {wn : Nat} (hn : NN ≤ wn) (ll : Launch) (cx : CX) (t : Nat) (x1 : Int32) (m : Mm) : MT ll yX2_fromWhomItLikesLeast cX2_fromWhomItLikesLeast 8 ((some .int)) rm_X2_fromWhomItLikesLeast cx wn wn Lay cvI 0 0 [.ref (cx.2.2.1 + t), .int x1, .ref (cx.2.2.1 + 2)] m (F_X2_fromWhomItLikesLeast t x1 m) := by
  refine MT_of (by decide) (Nat.le_of_ble_eq_true rfl) ?_
  intro pp ee ss mm aa bb me co hK hr hk hn0
  have C : CM pp ss mm aa me co cX2_fromWhomItLikesLeast 8 RX2 cx ((some .int)) := ⟨hK, hr, hk⟩
  show TI pp ll ee rm_X2_fromWhomItLikesLeast ss mm aa bb me co 8 cx wn 0 [(0, .ref (cx.2.2.1 + t)), (1, .int x1), (2, .ref (cx.2.2.1 + 2))] [] m (F_X2_fromWhomItLikesLeast t x1 m)
  unfold F_X2_fromWhomItLikesLeast
  refine T_if (fun ht => ?_) (fun _ => T_none)
  refine T_aload_n C.1 dX2_fromWhomItLikesLeast_0 0 rfl ?_
  refine T_iload_n C.1 dX2_fromWhomItLikesLeast_1 1 rfl ?_
  refine T_aload_n C.1 dX2_fromWhomItLikesLeast_2 2 rfl ?_
  refine T_callVI (rm := rm_X2_guess) [.int x1, .ref (cx.2.2.1 + 2)] [] C.1 dX2_fromWhomItLikesLeast_3 mw_X2_guess wm_2_127 wm_2_129 wm_p_2 ⟨Nat.le_of_ble_eq_true rfl, Nat.le_of_ble_eq_true rfl⟩ ⟨rfl, rfl⟩ ⟨Nat.zero_le _, Nat.zero_le _⟩ rfl rfl (Nat.le_of_ble_eq_true rfl) ht (Nat.le_trans (shp_le ht (by decide)) hn) ⟨rfl, rfl⟩ (c_X2_guess hn ll cx t x1 m) (fun v1 m2 => ?_)
  refine T_istore_n (lv' := [(3, .int v1), (0, .ref (cx.2.2.1 + t)), (1, .int x1), (2, .ref (cx.2.2.1 + 2))]) C.1 dX2_fromWhomItLikesLeast_6 (by decide) rfl ?_
  refine T_bipush C.1 dX2_fromWhomItLikesLeast_7 rfl ?_
  refine T_istore (lv' := [(4, .int (iI 10)), (3, .int v1), (0, .ref (cx.2.2.1 + t)), (1, .int x1), (2, .ref (cx.2.2.1 + 2))]) C.1 dX2_fromWhomItLikesLeast_9 (by decide) rfl ?_
  refine T_iconst C.1 dX2_fromWhomItLikesLeast_11 ?_
  refine T_istore (lv' := [(5, .int (iI (-1))), (4, .int (iI 10)), (3, .int v1), (0, .ref (cx.2.2.1 + t)), (1, .int x1), (2, .ref (cx.2.2.1 + 2))]) C.1 dX2_fromWhomItLikesLeast_12 (by decide) rfl ?_
  refine T_iconst C.1 dX2_fromWhomItLikesLeast_14 ?_
  refine T_istore (lv' := [(6, .int (iI 0)), (5, .int (iI (-1))), (4, .int (iI 10)), (3, .int v1), (0, .ref (cx.2.2.1 + t)), (1, .int x1), (2, .ref (cx.2.2.1 + 2))]) C.1 dX2_fromWhomItLikesLeast_15 (by decide) rfl ?_
  exact T_sub [4, 5, 6, 3, 2, 1, 0] rfl (t_X2_fromWhomItLikesLeast_17 hn C ht FU x1 v1 (iI 10) (iI (-1)) (iI 0) m2)
